section
-- ===== PART A: goes FIRST, ahead of the names: the tables' words, and 'selects' of the private methods out of them =====
/-- a private method of a class that the tables say can be made, by its rows of tables_1 -/
def lw_okq (q : MethodName × Nat) : Prop := (q.1.cls ≠ "java/lang/invoke/MethodHandle" ∧ q.1.cls ≠ "java/lang/invoke/VarHandle") ∧ Cond.instantiable q.1.cls q.2 ∈ tables_1 ∧ Cond.privateMethod q.1 ∈ tables_1 ∧ Cond.instanceMethod q.1 ∈ tables_1
theorem lw_p0 : lw_okq (⟨"HiddenExits$Simulator", "measure", "()V"⟩, 9) := ⟨⟨by decide +kernel, by decide +kernel⟩, List.mem_of_getElem? (i := 123) (by decide +kernel), List.mem_of_getElem? (i := 166) (by decide +kernel), List.mem_of_getElem? (i := 167) (by decide +kernel)⟩
theorem lw_p1 : lw_okq (⟨"HiddenExits$Simulator", "findNear", "()V"⟩, 9) := ⟨⟨by decide +kernel, by decide +kernel⟩, List.mem_of_getElem? (i := 123) (by decide +kernel), List.mem_of_getElem? (i := 173) (by decide +kernel), List.mem_of_getElem? (i := 174) (by decide +kernel)⟩
theorem lw_p2 : lw_okq (⟨"HiddenExits$Simulator", "forgetPicks", "()V"⟩, 9) := ⟨⟨by decide +kernel, by decide +kernel⟩, List.mem_of_getElem? (i := 123) (by decide +kernel), List.mem_of_getElem? (i := 181) (by decide +kernel), List.mem_of_getElem? (i := 182) (by decide +kernel)⟩
theorem lw_p3 : lw_okq (⟨"HiddenExits$Script", "scanHead", "()Z"⟩, 12) := ⟨⟨by decide +kernel, by decide +kernel⟩, List.mem_of_getElem? (i := 24) (by decide +kernel), List.mem_of_getElem? (i := 368) (by decide +kernel), List.mem_of_getElem? (i := 369) (by decide +kernel)⟩
theorem lw_p4 : lw_okq (⟨"HiddenExits$Script", "sign", "()I"⟩, 12) := ⟨⟨by decide +kernel, by decide +kernel⟩, List.mem_of_getElem? (i := 24) (by decide +kernel), List.mem_of_getElem? (i := 372) (by decide +kernel), List.mem_of_getElem? (i := 373) (by decide +kernel)⟩
theorem lw_p5 : lw_okq (⟨"HiddenExits$Script", "digit", "(II)I"⟩, 12) := ⟨⟨by decide +kernel, by decide +kernel⟩, List.mem_of_getElem? (i := 24) (by decide +kernel), List.mem_of_getElem? (i := 376) (by decide +kernel), List.mem_of_getElem? (i := 377) (by decide +kernel)⟩
theorem lw_p6 : lw_okq (⟨"HiddenExits$Script", "scanPart", "()Z"⟩, 12) := ⟨⟨by decide +kernel, by decide +kernel⟩, List.mem_of_getElem? (i := 24) (by decide +kernel), List.mem_of_getElem? (i := 380) (by decide +kernel), List.mem_of_getElem? (i := 381) (by decide +kernel)⟩
theorem lw_p7 : lw_okq (⟨"HiddenExits$Script", "scanLink", "()Z"⟩, 12) := ⟨⟨by decide +kernel, by decide +kernel⟩, List.mem_of_getElem? (i := 24) (by decide +kernel), List.mem_of_getElem? (i := 384) (by decide +kernel), List.mem_of_getElem? (i := 385) (by decide +kernel)⟩
theorem lw_p8 : lw_okq (⟨"HiddenExits$Script", "scanPair", "([I)I"⟩, 12) := ⟨⟨by decide +kernel, by decide +kernel⟩, List.mem_of_getElem? (i := 24) (by decide +kernel), List.mem_of_getElem? (i := 388) (by decide +kernel), List.mem_of_getElem? (i := 389) (by decide +kernel)⟩
theorem lw_p9 : lw_okq (⟨"HiddenExits$Script", "anyFree", "([I)Z"⟩, 12) := ⟨⟨by decide +kernel, by decide +kernel⟩, List.mem_of_getElem? (i := 24) (by decide +kernel), List.mem_of_getElem? (i := 392) (by decide +kernel), List.mem_of_getElem? (i := 393) (by decide +kernel)⟩
theorem lw_p10 : lw_okq (⟨"HiddenExits$Script", "hasFree", "([II)Z"⟩, 12) := ⟨⟨by decide +kernel, by decide +kernel⟩, List.mem_of_getElem? (i := 24) (by decide +kernel), List.mem_of_getElem? (i := 396) (by decide +kernel), List.mem_of_getElem? (i := 397) (by decide +kernel)⟩
theorem lw_p11 : lw_okq (⟨"HiddenExits$Script", "scanSession", "(II)Z"⟩, 12) := ⟨⟨by decide +kernel, by decide +kernel⟩, List.mem_of_getElem? (i := 24) (by decide +kernel), List.mem_of_getElem? (i := 406) (by decide +kernel), List.mem_of_getElem? (i := 407) (by decide +kernel)⟩
theorem lw_p12 : lw_okq (⟨"HiddenExits$Script", "scanExit", "()Z"⟩, 12) := ⟨⟨by decide +kernel, by decide +kernel⟩, List.mem_of_getElem? (i := 24) (by decide +kernel), List.mem_of_getElem? (i := 410) (by decide +kernel), List.mem_of_getElem? (i := 411) (by decide +kernel)⟩
theorem lw_p13 : lw_okq (⟨"HiddenExits$Plan", "readTold", "(I)V"⟩, 8) := ⟨⟨by decide +kernel, by decide +kernel⟩, List.mem_of_getElem? (i := 81) (by decide +kernel), List.mem_of_getElem? (i := 425) (by decide +kernel), List.mem_of_getElem? (i := 426) (by decide +kernel)⟩
theorem lw_p14 : lw_okq (⟨"HiddenExits$Simulator", "decide", "(I)I"⟩, 9) := ⟨⟨by decide +kernel, by decide +kernel⟩, List.mem_of_getElem? (i := 123) (by decide +kernel), List.mem_of_getElem? (i := 491) (by decide +kernel), List.mem_of_getElem? (i := 492) (by decide +kernel)⟩
theorem lw_p15 : lw_okq (⟨"HiddenExits$Simulator", "take", "(IIII)I"⟩, 9) := ⟨⟨by decide +kernel, by decide +kernel⟩, List.mem_of_getElem? (i := 123) (by decide +kernel), List.mem_of_getElem? (i := 506) (by decide +kernel), List.mem_of_getElem? (i := 507) (by decide +kernel)⟩
def lw_privs_1 : List (MethodName × Nat) := [(⟨"HiddenExits$Simulator", "measure", "()V"⟩, 9), (⟨"HiddenExits$Simulator", "findNear", "()V"⟩, 9), (⟨"HiddenExits$Simulator", "forgetPicks", "()V"⟩, 9), (⟨"HiddenExits$Script", "scanHead", "()Z"⟩, 12), (⟨"HiddenExits$Script", "sign", "()I"⟩, 12), (⟨"HiddenExits$Script", "digit", "(II)I"⟩, 12), (⟨"HiddenExits$Script", "scanPart", "()Z"⟩, 12), (⟨"HiddenExits$Script", "scanLink", "()Z"⟩, 12), (⟨"HiddenExits$Script", "scanPair", "([I)I"⟩, 12), (⟨"HiddenExits$Script", "anyFree", "([I)Z"⟩, 12), (⟨"HiddenExits$Script", "hasFree", "([II)Z"⟩, 12), (⟨"HiddenExits$Script", "scanSession", "(II)Z"⟩, 12), (⟨"HiddenExits$Script", "scanExit", "()Z"⟩, 12), (⟨"HiddenExits$Plan", "readTold", "(I)V"⟩, 8), (⟨"HiddenExits$Simulator", "decide", "(I)I"⟩, 9), (⟨"HiddenExits$Simulator", "take", "(IIII)I"⟩, 9)]
theorem lw_r1 : ∀ q ∈ lw_privs_1, lw_okq q := List.forall_mem_cons.mpr ⟨lw_p0, List.forall_mem_cons.mpr ⟨lw_p1, List.forall_mem_cons.mpr ⟨lw_p2, List.forall_mem_cons.mpr ⟨lw_p3, List.forall_mem_cons.mpr ⟨lw_p4, List.forall_mem_cons.mpr ⟨lw_p5, List.forall_mem_cons.mpr ⟨lw_p6, List.forall_mem_cons.mpr ⟨lw_p7, List.forall_mem_cons.mpr ⟨lw_p8, List.forall_mem_cons.mpr ⟨lw_p9, List.forall_mem_cons.mpr ⟨lw_p10, List.forall_mem_cons.mpr ⟨lw_p11, List.forall_mem_cons.mpr ⟨lw_p12, List.forall_mem_cons.mpr ⟨lw_p13, List.forall_mem_cons.mpr ⟨lw_p14, List.forall_mem_cons.mpr ⟨lw_p15, fun _ h => absurd h List.not_mem_nil⟩⟩⟩⟩⟩⟩⟩⟩⟩⟩⟩⟩⟩⟩⟩⟩
theorem lw_p16 : lw_okq (⟨"HiddenExits$Simulator", "compare", "(II)I"⟩, 9) := ⟨⟨by decide +kernel, by decide +kernel⟩, List.mem_of_getElem? (i := 123) (by decide +kernel), List.mem_of_getElem? (i := 520) (by decide +kernel), List.mem_of_getElem? (i := 521) (by decide +kernel)⟩
theorem lw_p17 : lw_okq (⟨"HiddenExits$Simulator", "nextHop", "(II)I"⟩, 9) := ⟨⟨by decide +kernel, by decide +kernel⟩, List.mem_of_getElem? (i := 123) (by decide +kernel), List.mem_of_getElem? (i := 643) (by decide +kernel), List.mem_of_getElem? (i := 644) (by decide +kernel)⟩
theorem lw_p18 : lw_okq (⟨"HiddenExits$Course", "record", "(LHiddenExits$Simulator;I)V"⟩, 4) := ⟨⟨by decide +kernel, by decide +kernel⟩, List.mem_of_getElem? (i := 224) (by decide +kernel), List.mem_of_getElem? (i := 661) (by decide +kernel), List.mem_of_getElem? (i := 662) (by decide +kernel)⟩
theorem lw_p19 : lw_okq (⟨"HiddenExits$Course", "earlier", "(I)I"⟩, 4) := ⟨⟨by decide +kernel, by decide +kernel⟩, List.mem_of_getElem? (i := 224) (by decide +kernel), List.mem_of_getElem? (i := 667) (by decide +kernel), List.mem_of_getElem? (i := 668) (by decide +kernel)⟩
theorem lw_p20 : lw_okq (⟨"HiddenExits$Course", "alike", "(II)Z"⟩, 4) := ⟨⟨by decide +kernel, by decide +kernel⟩, List.mem_of_getElem? (i := 224) (by decide +kernel), List.mem_of_getElem? (i := 671) (by decide +kernel), List.mem_of_getElem? (i := 672) (by decide +kernel)⟩
theorem lw_p21 : lw_okq (⟨"HiddenExits$Passes", "restsInOrder", "(LHiddenExits$Simulator;I)Z"⟩, 6) := ⟨⟨by decide +kernel, by decide +kernel⟩, List.mem_of_getElem? (i := 246) (by decide +kernel), List.mem_of_getElem? (i := 688) (by decide +kernel), List.mem_of_getElem? (i := 689) (by decide +kernel)⟩
theorem lw_p22 : lw_okq (⟨"HiddenExits$Passes", "mark", "(LHiddenExits$Simulator;)V"⟩, 6) := ⟨⟨by decide +kernel, by decide +kernel⟩, List.mem_of_getElem? (i := 246) (by decide +kernel), List.mem_of_getElem? (i := 693) (by decide +kernel), List.mem_of_getElem? (i := 694) (by decide +kernel)⟩
theorem lw_p23 : lw_okq (⟨"HiddenExits$Passes", "isMarked", "(LHiddenExits$Simulator;)Z"⟩, 6) := ⟨⟨by decide +kernel, by decide +kernel⟩, List.mem_of_getElem? (i := 246) (by decide +kernel), List.mem_of_getElem? (i := 699) (by decide +kernel), List.mem_of_getElem? (i := 700) (by decide +kernel)⟩
theorem lw_p24 : lw_okq (⟨"HiddenExits$Passes", "note", "(I)V"⟩, 6) := ⟨⟨by decide +kernel, by decide +kernel⟩, List.mem_of_getElem? (i := 246) (by decide +kernel), List.mem_of_getElem? (i := 704) (by decide +kernel), List.mem_of_getElem? (i := 705) (by decide +kernel)⟩
theorem lw_p25 : lw_okq (⟨"HiddenExits$Passes", "goToNextOrder", "(I)Z"⟩, 6) := ⟨⟨by decide +kernel, by decide +kernel⟩, List.mem_of_getElem? (i := 246) (by decide +kernel), List.mem_of_getElem? (i := 708) (by decide +kernel), List.mem_of_getElem? (i := 709) (by decide +kernel)⟩
theorem lw_p26 : lw_okq (⟨"HiddenExits$Passes", "swap", "(II)V"⟩, 6) := ⟨⟨by decide +kernel, by decide +kernel⟩, List.mem_of_getElem? (i := 246) (by decide +kernel), List.mem_of_getElem? (i := 712) (by decide +kernel), List.mem_of_getElem? (i := 713) (by decide +kernel)⟩
theorem lw_p27 : lw_okq (⟨"HiddenExits", "restsAnew", "()Z"⟩, 11) := ⟨⟨by decide +kernel, by decide +kernel⟩, List.mem_of_getElem? (i := 16) (by decide +kernel), List.mem_of_getElem? (i := 721) (by decide +kernel), List.mem_of_getElem? (i := 722) (by decide +kernel)⟩
theorem lw_p28 : lw_okq (⟨"HiddenExits", "holds", "(I)Z"⟩, 11) := ⟨⟨by decide +kernel, by decide +kernel⟩, List.mem_of_getElem? (i := 16) (by decide +kernel), List.mem_of_getElem? (i := 732) (by decide +kernel), List.mem_of_getElem? (i := 733) (by decide +kernel)⟩
theorem lw_p29 : lw_okq (⟨"HiddenExits", "happens", "(II)Z"⟩, 11) := ⟨⟨by decide +kernel, by decide +kernel⟩, List.mem_of_getElem? (i := 16) (by decide +kernel), List.mem_of_getElem? (i := 736) (by decide +kernel), List.mem_of_getElem? (i := 737) (by decide +kernel)⟩
theorem lw_p30 : lw_okq (⟨"HiddenExits", "canBeAnswer", "(II)Z"⟩, 11) := ⟨⟨by decide +kernel, by decide +kernel⟩, List.mem_of_getElem? (i := 16) (by decide +kernel), List.mem_of_getElem? (i := 740) (by decide +kernel), List.mem_of_getElem? (i := 741) (by decide +kernel)⟩
theorem lw_p31 : lw_okq (⟨"HiddenExits", "gainFactor", "(II)I"⟩, 11) := ⟨⟨by decide +kernel, by decide +kernel⟩, List.mem_of_getElem? (i := 16) (by decide +kernel), List.mem_of_getElem? (i := 783) (by decide +kernel), List.mem_of_getElem? (i := 784) (by decide +kernel)⟩
def lw_privs_2 : List (MethodName × Nat) := [(⟨"HiddenExits$Simulator", "compare", "(II)I"⟩, 9), (⟨"HiddenExits$Simulator", "nextHop", "(II)I"⟩, 9), (⟨"HiddenExits$Course", "record", "(LHiddenExits$Simulator;I)V"⟩, 4), (⟨"HiddenExits$Course", "earlier", "(I)I"⟩, 4), (⟨"HiddenExits$Course", "alike", "(II)Z"⟩, 4), (⟨"HiddenExits$Passes", "restsInOrder", "(LHiddenExits$Simulator;I)Z"⟩, 6), (⟨"HiddenExits$Passes", "mark", "(LHiddenExits$Simulator;)V"⟩, 6), (⟨"HiddenExits$Passes", "isMarked", "(LHiddenExits$Simulator;)Z"⟩, 6), (⟨"HiddenExits$Passes", "note", "(I)V"⟩, 6), (⟨"HiddenExits$Passes", "goToNextOrder", "(I)Z"⟩, 6), (⟨"HiddenExits$Passes", "swap", "(II)V"⟩, 6), (⟨"HiddenExits", "restsAnew", "()Z"⟩, 11), (⟨"HiddenExits", "holds", "(I)Z"⟩, 11), (⟨"HiddenExits", "happens", "(II)Z"⟩, 11), (⟨"HiddenExits", "canBeAnswer", "(II)Z"⟩, 11), (⟨"HiddenExits", "gainFactor", "(II)I"⟩, 11)]
theorem lw_r2 : ∀ q ∈ lw_privs_2, lw_okq q := List.forall_mem_cons.mpr ⟨lw_p16, List.forall_mem_cons.mpr ⟨lw_p17, List.forall_mem_cons.mpr ⟨lw_p18, List.forall_mem_cons.mpr ⟨lw_p19, List.forall_mem_cons.mpr ⟨lw_p20, List.forall_mem_cons.mpr ⟨lw_p21, List.forall_mem_cons.mpr ⟨lw_p22, List.forall_mem_cons.mpr ⟨lw_p23, List.forall_mem_cons.mpr ⟨lw_p24, List.forall_mem_cons.mpr ⟨lw_p25, List.forall_mem_cons.mpr ⟨lw_p26, List.forall_mem_cons.mpr ⟨lw_p27, List.forall_mem_cons.mpr ⟨lw_p28, List.forall_mem_cons.mpr ⟨lw_p29, List.forall_mem_cons.mpr ⟨lw_p30, List.forall_mem_cons.mpr ⟨lw_p31, fun _ h => absurd h List.not_mem_nil⟩⟩⟩⟩⟩⟩⟩⟩⟩⟩⟩⟩⟩⟩⟩⟩
theorem lw_p32 : lw_okq (⟨"HiddenExits", "chanceOf", "(II)I"⟩, 11) := ⟨⟨by decide +kernel, by decide +kernel⟩, List.mem_of_getElem? (i := 16) (by decide +kernel), List.mem_of_getElem? (i := 805) (by decide +kernel), List.mem_of_getElem? (i := 806) (by decide +kernel)⟩
theorem lw_p33 : lw_okq (⟨"HiddenExitsModel", "readDomain", "()I"⟩, 32) := ⟨⟨by decide +kernel, by decide +kernel⟩, List.mem_of_getElem? (i := 844) (by decide +kernel), List.mem_of_getElem? (i := 966) (by decide +kernel), List.mem_of_getElem? (i := 967) (by decide +kernel)⟩
theorem lw_p34 : lw_okq (⟨"HiddenExitsModel", "figure", "(II)I"⟩, 32) := ⟨⟨by decide +kernel, by decide +kernel⟩, List.mem_of_getElem? (i := 844) (by decide +kernel), List.mem_of_getElem? (i := 970) (by decide +kernel), List.mem_of_getElem? (i := 971) (by decide +kernel)⟩
theorem lw_p35 : lw_okq (⟨"HiddenExitsModel", "readPart", "()Z"⟩, 32) := ⟨⟨by decide +kernel, by decide +kernel⟩, List.mem_of_getElem? (i := 844) (by decide +kernel), List.mem_of_getElem? (i := 974) (by decide +kernel), List.mem_of_getElem? (i := 975) (by decide +kernel)⟩
theorem lw_p36 : lw_okq (⟨"HiddenExitsModel", "isAnyApart", "(I)Z"⟩, 32) := ⟨⟨by decide +kernel, by decide +kernel⟩, List.mem_of_getElem? (i := 844) (by decide +kernel), List.mem_of_getElem? (i := 978) (by decide +kernel), List.mem_of_getElem? (i := 979) (by decide +kernel)⟩
theorem lw_p37 : lw_okq (⟨"HiddenExitsModel", "apart", "(II)I"⟩, 32) := ⟨⟨by decide +kernel, by decide +kernel⟩, List.mem_of_getElem? (i := 844) (by decide +kernel), List.mem_of_getElem? (i := 982) (by decide +kernel), List.mem_of_getElem? (i := 983) (by decide +kernel)⟩
theorem lw_p38 : lw_okq (⟨"HiddenExitsModel", "readLink", "()Z"⟩, 32) := ⟨⟨by decide +kernel, by decide +kernel⟩, List.mem_of_getElem? (i := 844) (by decide +kernel), List.mem_of_getElem? (i := 989) (by decide +kernel), List.mem_of_getElem? (i := 990) (by decide +kernel)⟩
theorem lw_p39 : lw_okq (⟨"HiddenExitsModel", "readTwo", "(I)Z"⟩, 32) := ⟨⟨by decide +kernel, by decide +kernel⟩, List.mem_of_getElem? (i := 844) (by decide +kernel), List.mem_of_getElem? (i := 993) (by decide +kernel), List.mem_of_getElem? (i := 994) (by decide +kernel)⟩
theorem lw_p40 : lw_okq (⟨"HiddenExitsModel", "readExit", "()Z"⟩, 32) := ⟨⟨by decide +kernel, by decide +kernel⟩, List.mem_of_getElem? (i := 844) (by decide +kernel), List.mem_of_getElem? (i := 997) (by decide +kernel), List.mem_of_getElem? (i := 998) (by decide +kernel)⟩
theorem lw_p41 : lw_okq (⟨"HiddenExitsModel", "readSession", "(Z)Z"⟩, 32) := ⟨⟨by decide +kernel, by decide +kernel⟩, List.mem_of_getElem? (i := 844) (by decide +kernel), List.mem_of_getElem? (i := 1001) (by decide +kernel), List.mem_of_getElem? (i := 1002) (by decide +kernel)⟩
theorem lw_p42 : lw_okq (⟨"HiddenExitsModel", "noRouter", "(I)Z"⟩, 32) := ⟨⟨by decide +kernel, by decide +kernel⟩, List.mem_of_getElem? (i := 844) (by decide +kernel), List.mem_of_getElem? (i := 1016) (by decide +kernel), List.mem_of_getElem? (i := 1017) (by decide +kernel)⟩
theorem lw_p43 : lw_okq (⟨"HiddenExitsModel", "layCosts", "([I)V"⟩, 32) := ⟨⟨by decide +kernel, by decide +kernel⟩, List.mem_of_getElem? (i := 844) (by decide +kernel), List.mem_of_getElem? (i := 1020) (by decide +kernel), List.mem_of_getElem? (i := 1021) (by decide +kernel)⟩
theorem lw_p44 : lw_okq (⟨"HiddenExitsModel", "noExit", "(I)Z"⟩, 32) := ⟨⟨by decide +kernel, by decide +kernel⟩, List.mem_of_getElem? (i := 844) (by decide +kernel), List.mem_of_getElem? (i := 1032) (by decide +kernel), List.mem_of_getElem? (i := 1033) (by decide +kernel)⟩
theorem lw_p45 : lw_okq (⟨"HiddenExitsModel", "note", "()V"⟩, 32) := ⟨⟨by decide +kernel, by decide +kernel⟩, List.mem_of_getElem? (i := 844) (by decide +kernel), List.mem_of_getElem? (i := 1044) (by decide +kernel), List.mem_of_getElem? (i := 1045) (by decide +kernel)⟩
theorem lw_p46 : lw_okq (⟨"HiddenExitsModel", "stepOn", "([II)Z"⟩, 32) := ⟨⟨by decide +kernel, by decide +kernel⟩, List.mem_of_getElem? (i := 844) (by decide +kernel), List.mem_of_getElem? (i := 1048) (by decide +kernel), List.mem_of_getElem? (i := 1049) (by decide +kernel)⟩
theorem lw_p47 : lw_okq (⟨"HiddenExitsModel", "take", "([II)V"⟩, 32) := ⟨⟨by decide +kernel, by decide +kernel⟩, List.mem_of_getElem? (i := 844) (by decide +kernel), List.mem_of_getElem? (i := 1052) (by decide +kernel), List.mem_of_getElem? (i := 1053) (by decide +kernel)⟩
def lw_privs_3 : List (MethodName × Nat) := [(⟨"HiddenExits", "chanceOf", "(II)I"⟩, 11), (⟨"HiddenExitsModel", "readDomain", "()I"⟩, 32), (⟨"HiddenExitsModel", "figure", "(II)I"⟩, 32), (⟨"HiddenExitsModel", "readPart", "()Z"⟩, 32), (⟨"HiddenExitsModel", "isAnyApart", "(I)Z"⟩, 32), (⟨"HiddenExitsModel", "apart", "(II)I"⟩, 32), (⟨"HiddenExitsModel", "readLink", "()Z"⟩, 32), (⟨"HiddenExitsModel", "readTwo", "(I)Z"⟩, 32), (⟨"HiddenExitsModel", "readExit", "()Z"⟩, 32), (⟨"HiddenExitsModel", "readSession", "(Z)Z"⟩, 32), (⟨"HiddenExitsModel", "noRouter", "(I)Z"⟩, 32), (⟨"HiddenExitsModel", "layCosts", "([I)V"⟩, 32), (⟨"HiddenExitsModel", "noExit", "(I)Z"⟩, 32), (⟨"HiddenExitsModel", "note", "()V"⟩, 32), (⟨"HiddenExitsModel", "stepOn", "([II)Z"⟩, 32), (⟨"HiddenExitsModel", "take", "([II)V"⟩, 32)]
theorem lw_r3 : ∀ q ∈ lw_privs_3, lw_okq q := List.forall_mem_cons.mpr ⟨lw_p32, List.forall_mem_cons.mpr ⟨lw_p33, List.forall_mem_cons.mpr ⟨lw_p34, List.forall_mem_cons.mpr ⟨lw_p35, List.forall_mem_cons.mpr ⟨lw_p36, List.forall_mem_cons.mpr ⟨lw_p37, List.forall_mem_cons.mpr ⟨lw_p38, List.forall_mem_cons.mpr ⟨lw_p39, List.forall_mem_cons.mpr ⟨lw_p40, List.forall_mem_cons.mpr ⟨lw_p41, List.forall_mem_cons.mpr ⟨lw_p42, List.forall_mem_cons.mpr ⟨lw_p43, List.forall_mem_cons.mpr ⟨lw_p44, List.forall_mem_cons.mpr ⟨lw_p45, List.forall_mem_cons.mpr ⟨lw_p46, List.forall_mem_cons.mpr ⟨lw_p47, fun _ h => absurd h List.not_mem_nil⟩⟩⟩⟩⟩⟩⟩⟩⟩⟩⟩⟩⟩⟩⟩⟩
theorem lw_p48 : lw_okq (⟨"HiddenExitsModel", "gather", "([II)V"⟩, 32) := ⟨⟨by decide +kernel, by decide +kernel⟩, List.mem_of_getElem? (i := 844) (by decide +kernel), List.mem_of_getElem? (i := 1056) (by decide +kernel), List.mem_of_getElem? (i := 1057) (by decide +kernel)⟩
theorem lw_p49 : lw_okq (⟨"HiddenExitsModel", "hear", "(III)V"⟩, 32) := ⟨⟨by decide +kernel, by decide +kernel⟩, List.mem_of_getElem? (i := 844) (by decide +kernel), List.mem_of_getElem? (i := 1063) (by decide +kernel), List.mem_of_getElem? (i := 1064) (by decide +kernel)⟩
theorem lw_p50 : lw_okq (⟨"HiddenExitsModel", "gathered", "()I"⟩, 32) := ⟨⟨by decide +kernel, by decide +kernel⟩, List.mem_of_getElem? (i := 844) (by decide +kernel), List.mem_of_getElem? (i := 1076) (by decide +kernel), List.mem_of_getElem? (i := 1077) (by decide +kernel)⟩
theorem lw_p51 : lw_okq (⟨"HiddenExitsModel", "best", "([III)I"⟩, 32) := ⟨⟨by decide +kernel, by decide +kernel⟩, List.mem_of_getElem? (i := 844) (by decide +kernel), List.mem_of_getElem? (i := 1080) (by decide +kernel), List.mem_of_getElem? (i := 1081) (by decide +kernel)⟩
theorem lw_p52 : lw_okq (⟨"HiddenExitsModel", "leave", "([IIII)I"⟩, 32) := ⟨⟨by decide +kernel, by decide +kernel⟩, List.mem_of_getElem? (i := 844) (by decide +kernel), List.mem_of_getElem? (i := 1084) (by decide +kernel), List.mem_of_getElem? (i := 1085) (by decide +kernel)⟩
theorem lw_p53 : lw_okq (⟨"HiddenExitsModel", "weighed", "([IIII)I"⟩, 32) := ⟨⟨by decide +kernel, by decide +kernel⟩, List.mem_of_getElem? (i := 844) (by decide +kernel), List.mem_of_getElem? (i := 1088) (by decide +kernel), List.mem_of_getElem? (i := 1089) (by decide +kernel)⟩
theorem lw_p54 : lw_okq (⟨"HiddenExitsModel", "leaveByNeighbours", "([II)I"⟩, 32) := ⟨⟨by decide +kernel, by decide +kernel⟩, List.mem_of_getElem? (i := 844) (by decide +kernel), List.mem_of_getElem? (i := 1092) (by decide +kernel), List.mem_of_getElem? (i := 1093) (by decide +kernel)⟩
theorem lw_p55 : lw_okq (⟨"HiddenExitsModel", "putTaken", "(II)V"⟩, 32) := ⟨⟨by decide +kernel, by decide +kernel⟩, List.mem_of_getElem? (i := 844) (by decide +kernel), List.mem_of_getElem? (i := 1096) (by decide +kernel), List.mem_of_getElem? (i := 1097) (by decide +kernel)⟩
theorem lw_p56 : lw_okq (⟨"HiddenExitsModel", "putChoices", "([II)Z"⟩, 32) := ⟨⟨by decide +kernel, by decide +kernel⟩, List.mem_of_getElem? (i := 844) (by decide +kernel), List.mem_of_getElem? (i := 1100) (by decide +kernel), List.mem_of_getElem? (i := 1101) (by decide +kernel)⟩
theorem lw_p57 : lw_okq (⟨"HiddenExitsModel", "roundOn", "([I)I"⟩, 32) := ⟨⟨by decide +kernel, by decide +kernel⟩, List.mem_of_getElem? (i := 844) (by decide +kernel), List.mem_of_getElem? (i := 1108) (by decide +kernel), List.mem_of_getElem? (i := 1109) (by decide +kernel)⟩
theorem lw_p58 : lw_okq (⟨"HiddenExitsModel", "leaveFrom", "([II)I"⟩, 32) := ⟨⟨by decide +kernel, by decide +kernel⟩, List.mem_of_getElem? (i := 844) (by decide +kernel), List.mem_of_getElem? (i := 1162) (by decide +kernel), List.mem_of_getElem? (i := 1163) (by decide +kernel)⟩
theorem lw_p59 : lw_okq (⟨"HiddenExitsModel", "runOn", "([I)V"⟩, 32) := ⟨⟨by decide +kernel, by decide +kernel⟩, List.mem_of_getElem? (i := 844) (by decide +kernel), List.mem_of_getElem? (i := 1171) (by decide +kernel), List.mem_of_getElem? (i := 1172) (by decide +kernel)⟩
theorem lw_p60 : lw_okq (⟨"HiddenExitsModel", "noteState", "([II)V"⟩, 32) := ⟨⟨by decide +kernel, by decide +kernel⟩, List.mem_of_getElem? (i := 844) (by decide +kernel), List.mem_of_getElem? (i := 1175) (by decide +kernel), List.mem_of_getElem? (i := 1176) (by decide +kernel)⟩
theorem lw_p61 : lw_okq (⟨"HiddenExitsModel", "areSame", "(II)Z"⟩, 32) := ⟨⟨by decide +kernel, by decide +kernel⟩, List.mem_of_getElem? (i := 844) (by decide +kernel), List.mem_of_getElem? (i := 1179) (by decide +kernel), List.mem_of_getElem? (i := 1180) (by decide +kernel)⟩
theorem lw_p62 : lw_okq (⟨"HiddenExitsModel", "isOrder", "(I)Z"⟩, 32) := ⟨⟨by decide +kernel, by decide +kernel⟩, List.mem_of_getElem? (i := 844) (by decide +kernel), List.mem_of_getElem? (i := 1193) (by decide +kernel), List.mem_of_getElem? (i := 1194) (by decide +kernel)⟩
theorem lw_p63 : lw_okq (⟨"HiddenExitsModel", "restsBy", "(I)Z"⟩, 32) := ⟨⟨by decide +kernel, by decide +kernel⟩, List.mem_of_getElem? (i := 844) (by decide +kernel), List.mem_of_getElem? (i := 1197) (by decide +kernel), List.mem_of_getElem? (i := 1198) (by decide +kernel)⟩
def lw_privs_4 : List (MethodName × Nat) := [(⟨"HiddenExitsModel", "gather", "([II)V"⟩, 32), (⟨"HiddenExitsModel", "hear", "(III)V"⟩, 32), (⟨"HiddenExitsModel", "gathered", "()I"⟩, 32), (⟨"HiddenExitsModel", "best", "([III)I"⟩, 32), (⟨"HiddenExitsModel", "leave", "([IIII)I"⟩, 32), (⟨"HiddenExitsModel", "weighed", "([IIII)I"⟩, 32), (⟨"HiddenExitsModel", "leaveByNeighbours", "([II)I"⟩, 32), (⟨"HiddenExitsModel", "putTaken", "(II)V"⟩, 32), (⟨"HiddenExitsModel", "putChoices", "([II)Z"⟩, 32), (⟨"HiddenExitsModel", "roundOn", "([I)I"⟩, 32), (⟨"HiddenExitsModel", "leaveFrom", "([II)I"⟩, 32), (⟨"HiddenExitsModel", "runOn", "([I)V"⟩, 32), (⟨"HiddenExitsModel", "noteState", "([II)V"⟩, 32), (⟨"HiddenExitsModel", "areSame", "(II)Z"⟩, 32), (⟨"HiddenExitsModel", "isOrder", "(I)Z"⟩, 32), (⟨"HiddenExitsModel", "restsBy", "(I)Z"⟩, 32)]
theorem lw_r4 : ∀ q ∈ lw_privs_4, lw_okq q := List.forall_mem_cons.mpr ⟨lw_p48, List.forall_mem_cons.mpr ⟨lw_p49, List.forall_mem_cons.mpr ⟨lw_p50, List.forall_mem_cons.mpr ⟨lw_p51, List.forall_mem_cons.mpr ⟨lw_p52, List.forall_mem_cons.mpr ⟨lw_p53, List.forall_mem_cons.mpr ⟨lw_p54, List.forall_mem_cons.mpr ⟨lw_p55, List.forall_mem_cons.mpr ⟨lw_p56, List.forall_mem_cons.mpr ⟨lw_p57, List.forall_mem_cons.mpr ⟨lw_p58, List.forall_mem_cons.mpr ⟨lw_p59, List.forall_mem_cons.mpr ⟨lw_p60, List.forall_mem_cons.mpr ⟨lw_p61, List.forall_mem_cons.mpr ⟨lw_p62, List.forall_mem_cons.mpr ⟨lw_p63, fun _ h => absurd h List.not_mem_nil⟩⟩⟩⟩⟩⟩⟩⟩⟩⟩⟩⟩⟩⟩⟩⟩
theorem lw_p64 : lw_okq (⟨"HiddenExitsModel", "rests", "(II)Z"⟩, 32) := ⟨⟨by decide +kernel, by decide +kernel⟩, List.mem_of_getElem? (i := 844) (by decide +kernel), List.mem_of_getElem? (i := 1205) (by decide +kernel), List.mem_of_getElem? (i := 1206) (by decide +kernel)⟩
theorem lw_p65 : lw_okq (⟨"HiddenExitsModel", "does", "(I)Z"⟩, 32) := ⟨⟨by decide +kernel, by decide +kernel⟩, List.mem_of_getElem? (i := 844) (by decide +kernel), List.mem_of_getElem? (i := 1217) (by decide +kernel), List.mem_of_getElem? (i := 1218) (by decide +kernel)⟩
theorem lw_p66 : lw_okq (⟨"HiddenExitsModel", "runsToRest", "()Z"⟩, 32) := ⟨⟨by decide +kernel, by decide +kernel⟩, List.mem_of_getElem? (i := 844) (by decide +kernel), List.mem_of_getElem? (i := 1221) (by decide +kernel), List.mem_of_getElem? (i := 1222) (by decide +kernel)⟩
theorem lw_p67 : lw_okq (⟨"HiddenExitsModel", "agrees", "(I)Z"⟩, 32) := ⟨⟨by decide +kernel, by decide +kernel⟩, List.mem_of_getElem? (i := 844) (by decide +kernel), List.mem_of_getElem? (i := 1237) (by decide +kernel), List.mem_of_getElem? (i := 1238) (by decide +kernel)⟩
theorem lw_p68 : lw_okq (⟨"HiddenExitsModel", "unlikeBy", "(I)I"⟩, 32) := ⟨⟨by decide +kernel, by decide +kernel⟩, List.mem_of_getElem? (i := 844) (by decide +kernel), List.mem_of_getElem? (i := 1245) (by decide +kernel), List.mem_of_getElem? (i := 1246) (by decide +kernel)⟩
theorem lw_p69 : lw_okq (⟨"HiddenExitsModel", "joined", "(I)I"⟩, 32) := ⟨⟨by decide +kernel, by decide +kernel⟩, List.mem_of_getElem? (i := 844) (by decide +kernel), List.mem_of_getElem? (i := 1286) (by decide +kernel), List.mem_of_getElem? (i := 1287) (by decide +kernel)⟩
theorem lw_p70 : lw_okq (⟨"HiddenExitsModel", "withFirst", "()I"⟩, 32) := ⟨⟨by decide +kernel, by decide +kernel⟩, List.mem_of_getElem? (i := 844) (by decide +kernel), List.mem_of_getElem? (i := 1290) (by decide +kernel), List.mem_of_getElem? (i := 1291) (by decide +kernel)⟩
def lw_privs_5 : List (MethodName × Nat) := [(⟨"HiddenExitsModel", "rests", "(II)Z"⟩, 32), (⟨"HiddenExitsModel", "does", "(I)Z"⟩, 32), (⟨"HiddenExitsModel", "runsToRest", "()Z"⟩, 32), (⟨"HiddenExitsModel", "agrees", "(I)Z"⟩, 32), (⟨"HiddenExitsModel", "unlikeBy", "(I)I"⟩, 32), (⟨"HiddenExitsModel", "joined", "(I)I"⟩, 32), (⟨"HiddenExitsModel", "withFirst", "()I"⟩, 32)]
theorem lw_r5 : ∀ q ∈ lw_privs_5, lw_okq q := List.forall_mem_cons.mpr ⟨lw_p64, List.forall_mem_cons.mpr ⟨lw_p65, List.forall_mem_cons.mpr ⟨lw_p66, List.forall_mem_cons.mpr ⟨lw_p67, List.forall_mem_cons.mpr ⟨lw_p68, List.forall_mem_cons.mpr ⟨lw_p69, List.forall_mem_cons.mpr ⟨lw_p70, fun _ h => absurd h List.not_mem_nil⟩⟩⟩⟩⟩⟩⟩
def lw_privs : List (MethodName × Nat) := lw_privs_1 ++ (lw_privs_2 ++ (lw_privs_3 ++ (lw_privs_4 ++ (lw_privs_5))))
def lw_tbl : List Cond := k2_sels lw_privs ++ tables_1
theorem lw_privs_ok : ∀ q ∈ lw_privs, lw_okq q := by
  show ∀ q ∈ lw_privs_1 ++ (lw_privs_2 ++ (lw_privs_3 ++ (lw_privs_4 ++ (lw_privs_5)))), lw_okq q
  exact List.forall_mem_append.mpr ⟨lw_r1, List.forall_mem_append.mpr ⟨lw_r2, List.forall_mem_append.mpr ⟨lw_r3, List.forall_mem_append.mpr ⟨lw_r4, lw_r5⟩⟩⟩⟩
/-- the words that stay good over calls -/
def zgw : List Cond := lw_tbl.filter goodWord
theorem zgw_of {w : Cond} (h : w ∈ tables_1) (hg : goodWord w = true) : w ∈ zgw := List.mem_filter.mpr ⟨List.mem_append_right _ h, hg⟩
theorem zgw_sel {w : Cond} (h : w ∈ k2_sels lw_privs) (hg : goodWord w = true) : w ∈ zgw := List.mem_filter.mpr ⟨List.mem_append_left _ h, hg⟩
theorem zgw_good {w : Cond} (h : w ∈ zgw) : goodWord w = true := (List.mem_filter.mp h).2
theorem zgw_tbl {w : Cond} (h : w ∈ zgw) : w ∈ lw_tbl := (List.mem_filter.mp h).1
end
section
/-! ===== a small machine: the kit's instructions over a memory of functions; references are numbers of cells ===== -/
/-- the shape: how many cells; slots used; kind and length of each; what its references are -/
abbrev zv_S : Type := Nat × Nat × (Nat → Nat × Nat) × (Nat → Nat → Option Nat)
/-- what cells hold: ints, longs -/
abbrev zv_D : Type := (Nat → Nat → Int32) × (Nat → Nat → Int64)
/-- an answer: an int, a long, a cell -/
abbrev zv_R : Type := Int32 × Int64 × Nat
abbrev zv_O : Type := zv_R × zv_S × zv_D
/-- what a table says beside an instruction: three numbers, an int, a long, the cases of a switch -/
abbrev zv_X : Type := Nat × Nat × Nat × Int32 × Int64 × List (Int32 × Nat)
abbrev zv_E : Type := Nat × Instr × Nat × zv_X
abbrev zv_L : Type := List (Option Value)
abbrev zv_K : Type := Nat → zv_L → List Value → zv_S → zv_D → Option zv_O
/-- a method as the machine calls it: by its number -/
abbrev zv_Ca : Type := Nat → List Value → zv_S → zv_D → Option (zv_R × zv_D)
abbrev zv_Ci : Type := Nat → List Value → zv_S → zv_D → Option zv_O
def zv_w (g : Nat → Nat → Int32) (c i : Nat) (v : Int32) : Nat → Nat → Int32 := fun c' => if c' = c then upd (g c) i v else g c'
def zv_wl (g : Nat → Nat → Int64) (c i : Nat) (v : Int64) : Nat → Nat → Int64 := fun c' => if c' = c then vp_updL (g c) i v else g c'
def zv_cp (g : Nat → Nat → Int32) (a0 a sp dp n : Nat) : Nat → Nat → Int32 := fun c' => if c' = a then va_cpy (g a0) (g a) sp dp n else g c'
def zv_in (i : Int32) (n : Nat) : Bool := !(decide (i < 0)) && Nat.blt i.toNatClampNeg n
def zv_bk (v : Int32) : Bool := decide (v = 0) || decide (v = 1)
def zv_at : List (Option Value) → Nat → Option Value
  | [], _ => none
  | o :: _, 0 => o
  | _ :: t, n + 1 => zv_at t n
/-- a long stands ahead of a null, which is its second half -/
def zv_s1 (lv : zv_L) (i : Nat) (v : Value) : zv_L := lv.set i (some v)
def zv_s2 (lv : zv_L) (i : Nat) (v : Value) : zv_L := (lv.set i (some v)).set (i + 1) (some .null)
def zv_en : List Value → Nat → zv_L
  | [], n => List.replicate n none
  | v :: t, n => match v with
    | .long x => some (.long x) :: some .null :: zv_en t (n - 2)
    | .double x => some (.double x) :: some .null :: zv_en t (n - 2)
    | w => some w :: zv_en t (n - 1)
abbrev zv_ri (v : Int32) (S : zv_S) (D : zv_D) : Option zv_O := some ((v, 0, 0), S, D)
abbrev zv_rl (v : Int64) (S : zv_S) (D : zv_D) : Option zv_O := some ((0, v, 0), S, D)
abbrev zv_ra (v : Nat) (S : zv_S) (D : zv_D) : Option zv_O := some ((0, 0, v), S, D)
abbrev zv_rv (S : zv_S) (D : zv_D) : Option zv_O := some ((0, 0, 0), S, D)
def zv_sw : List (Int32 × Nat) → Int32 → Nat → (Nat → Option zv_O) → Option zv_O
  | [], _, d, k => k d
  | (v, t) :: r, x, d, k => if x = v then k t else zv_sw r x d k
def zv_fa : Nat → Int32
  | 0 => 1
  | 1 => 1
  | 2 => 2
  | 3 => 6
  | _ => 24
def zv_un : Nat → Int64
  | 0 => 1
  | 1 => 10000
  | 2 => 100000000
  | 3 => 1000000000000
  | _ => 10000000000000000
def zv_cs : List Value → Nat
  | [] => 0
  | v :: t => v.category + zv_cs t
def zv_mem : List Nat → Nat → Bool
  | [], _ => false
  | a :: t, n => bif Nat.beq a n then true else zv_mem t n
/-- two ints above -/
def zv_i2 (st : List Value) (f : Int32 → Int32 → List Value → Option zv_O) : Option zv_O := match st with
  | .int y :: .int x :: r => f x y r
  | _ => none
def zv_l2 (st : List Value) (f : Int64 → Int64 → List Value → Option zv_O) : Option zv_O := match st with
  | .long y :: .long x :: r => f x y r
  | _ => none
def zv_i1 (st : List Value) (f : Int32 → List Value → Option zv_O) : Option zv_O := match st with
  | .int x :: r => f x r
  | _ => none
def zv_l1 (st : List Value) (f : Int64 → List Value → Option zv_O) : Option zv_O := match st with
  | .long x :: r => f x r
  | _ => none
def zv_a1 (st : List Value) (f : Nat → List Value → Option zv_O) : Option zv_O := match st with
  | .ref x :: r => f x r
  | _ => none
def zv_dp (st : List Value) (f : List Value → Option zv_O) : Option zv_O := match st with
  | .int a :: r => f (.int a :: .int a :: r)
  | .ref a :: r => f (.ref a :: .ref a :: r)
  | _ => none
/-- an index and an array above -/
def zv_ia (st : List Value) (f : Int32 → Nat → List Value → Option zv_O) : Option zv_O := match st with
  | .int i :: .ref a :: r => f i a r
  | _ => none
/-- a value, an index and an array above -/
def zv_via (st : List Value) (f : Int32 → Int32 → Nat → List Value → Option zv_O) : Option zv_O := match st with
  | .int v :: .int i :: .ref a :: r => f v i a r
  | _ => none
def zv_li (o : Option Value) (f : Int32 → Option zv_O) : Option zv_O := match o with
  | some (.int v) => f v
  | _ => none
def zv_ll (o o2 : Option Value) (f : Int64 → Option zv_O) : Option zv_O := match o with
  | some (.long v) => (match o2 with
    | some .null => f v
    | _ => none)
  | _ => none
def zv_la (o : Option Value) (f : Nat → Option zv_O) : Option zv_O := match o with
  | some (.ref v) => f v
  | _ => none
def zv_new (S : zv_S) (kd N : Nat) : zv_S := (S.1 + 1, S.2.1 + N, (fun c => if c = S.1 then (kd, N) else S.2.2.1 c), fun c => if c = S.1 then fun _ => none else S.2.2.2 c)
def zv_zer (S : zv_S) (D : zv_D) : zv_D := ((fun c => if c = S.1 then fun _ => 0 else D.1 c), fun c => if c = S.1 then fun _ => 0 else D.2 c)
def zv_rw (S : zv_S) (c i a : Nat) : zv_S := (S.1, S.2.1, S.2.2.1, fun c' => if c' = c then fun j => if j = i then some a else S.2.2.2 c j else S.2.2.2 c')
def zv_psh (k : Nat) (r : zv_R) (st : List Value) : List Value := match k with
  | 0 => st
  | 1 => .int r.1 :: st
  | 2 => .long r.2.1 :: st
  | _ => .ref r.2.2 :: st
def zv_cok (sp dp n : Int32) (n0 n1 : Nat) : Bool := !(decide (sp < 0)) && (!(decide (dp < 0)) && (!(decide (n < 0)) && (Nat.ble (sp.toNatClampNeg + n.toNatClampNeg) n0 && Nat.ble (dp.toNatClampNeg + n.toNatClampNeg) n1)))
/-- System.arraycopy over ints -/
def zv_acp (st : List Value) (S : zv_S) (D : zv_D) (f : List Value → zv_D → Option zv_O) : Option zv_O := match st with
  | .int n :: .int dp :: .ref a :: .int sp :: .ref a0 :: r => bif Nat.beq (S.2.2.1 a0).1 11 && (Nat.beq (S.2.2.1 a).1 11 && (Nat.ble (zv_cs r) 8 && zv_cok sp dp n (S.2.2.1 a0).2 (S.2.2.1 a).2)) then f r (zv_cp D.1 a0 a sp.toNatClampNeg dp.toNatClampNeg n.toNatClampNeg, D.2) else none
  | _ => none
def zv_s (al : Bool) (ca : zv_Ca) (ci : zv_Ci) (xs : Nat × (Nat → Int32)) (bo : Bool) (ins : Instr) (n : Nat) (x : zv_X) (pc : Nat) (lv : zv_L) (st : List Value) (S : zv_S) (D : zv_D) (k : zv_K) : Option zv_O :=
  match ins with
  | .iconst _ => k (pc + n) lv (.int x.2.2.2.1 :: st) S D
  | .bipush _ => k (pc + n) lv (.int x.2.2.2.1 :: st) S D
  | .sipush _ => k (pc + n) lv (.int x.2.2.2.1 :: st) S D
  | .ldc_w _ => k (pc + n) lv (.int x.2.2.2.1 :: st) S D
  | .lconst _ => k (pc + n) lv (.long x.2.2.2.2.1 :: st) S D
  | .ldc2_w _ => k (pc + n) lv (.long x.2.2.2.2.1 :: st) S D
  | .iload _ => zv_li (zv_at lv x.1) fun v => k (pc + n) lv (.int v :: st) S D
  | .iload_n _ => zv_li (zv_at lv x.1) fun v => k (pc + n) lv (.int v :: st) S D
  | .lload _ => zv_ll (zv_at lv x.1) (zv_at lv (x.1 + 1)) fun v => k (pc + n) lv (.long v :: st) S D
  | .lload_n _ => zv_ll (zv_at lv x.1) (zv_at lv (x.1 + 1)) fun v => k (pc + n) lv (.long v :: st) S D
  | .aload _ => zv_la (zv_at lv x.1) fun v => k (pc + n) lv (.ref v :: st) S D
  | .aload_n _ => zv_la (zv_at lv x.1) fun v => k (pc + n) lv (.ref v :: st) S D
  | .istore _ => zv_i1 st fun v r => k (pc + n) (zv_s1 lv x.1 (.int v)) r S D
  | .istore_n _ => zv_i1 st fun v r => k (pc + n) (zv_s1 lv x.1 (.int v)) r S D
  | .lstore _ => zv_l1 st fun v r => k (pc + n) (zv_s2 lv x.1 (.long v)) r S D
  | .lstore_n _ => zv_l1 st fun v r => k (pc + n) (zv_s2 lv x.1 (.long v)) r S D
  | .astore_n _ => zv_a1 st fun v r => k (pc + n) (zv_s1 lv x.1 (.ref v)) r S D
  | .iinc _ _ => zv_li (zv_at lv x.1) fun v => k (pc + n) (zv_s1 lv x.1 (.int (v + x.2.2.2.1))) st S D
  | .iadd => zv_i2 st fun a b r => k (pc + n) lv (.int (a + b) :: r) S D
  | .isub => zv_i2 st fun a b r => k (pc + n) lv (.int (a - b) :: r) S D
  | .imul => zv_i2 st fun a b r => k (pc + n) lv (.int (a * b) :: r) S D
  | .iand => zv_i2 st fun a b r => k (pc + n) lv (.int (a &&& b) :: r) S D
  | .ior => zv_i2 st fun a b r => k (pc + n) lv (.int (a ||| b) :: r) S D
  | .ixor => zv_i2 st fun a b r => k (pc + n) lv (.int (a ^^^ b) :: r) S D
  | .ishl => zv_i2 st fun a b r => k (pc + n) lv (.int (a <<< (b &&& 31)) :: r) S D
  | .ishr => zv_i2 st fun a b r => k (pc + n) lv (.int (a >>> (b &&& 31)) :: r) S D
  | .iushr => zv_i2 st fun a b r => k (pc + n) lv (.int (a.toUInt32 >>> (b.toUInt32 &&& Int32.toUInt32 31)).toInt32 :: r) S D
  | .idiv => zv_i2 st fun a b r => if b = 0 then none else k (pc + n) lv (.int (a / b) :: r) S D
  | .irem => zv_i2 st fun a b r => if b = 0 then none else k (pc + n) lv (.int (a - a / b * b) :: r) S D
  | .ineg => zv_i1 st fun a r => k (pc + n) lv (.int (-a) :: r) S D
  | .ladd => zv_l2 st fun a b r => k (pc + n) lv (.long (a + b) :: r) S D
  | .lsub => zv_l2 st fun a b r => k (pc + n) lv (.long (a - b) :: r) S D
  | .lmul => zv_l2 st fun a b r => k (pc + n) lv (.long (a * b) :: r) S D
  | .land => zv_l2 st fun a b r => k (pc + n) lv (.long (a &&& b) :: r) S D
  | .lor => zv_l2 st fun a b r => k (pc + n) lv (.long (a ||| b) :: r) S D
  | .ldiv => zv_l2 st fun a b r => if b = 0 then none else k (pc + n) lv (.long (a / b) :: r) S D
  | .lrem => zv_l2 st fun a b r => if b = 0 then none else k (pc + n) lv (.long (a - a / b * b) :: r) S D
  | .lcmp => zv_l2 st fun a b r => k (pc + n) lv (.int (lg_cmp a b) :: r) S D
  | .lshl => zv_i1 st fun b r => zv_l1 r fun a r => k (pc + n) lv (.long (a <<< (b.toInt64 &&& 63)) :: r) S D
  | .lushr => zv_i1 st fun b r => zv_l1 r fun a r => k (pc + n) lv (.long (a.toUInt64 >>> (b.toInt64.toUInt64 &&& Int64.toUInt64 63)).toInt64 :: r) S D
  | .i2l => zv_i1 st fun a r => k (pc + n) lv (.long a.toInt64 :: r) S D
  | .l2i => zv_l1 st fun a r => k (pc + n) lv (.int a.toInt32 :: r) S D
  | .i2c => zv_i1 st fun a r => k (pc + n) lv (.int (a.toUInt32 % 65536).toInt32 :: r) S D
  | .dup => zv_dp st fun r => k (pc + n) lv r S D
  | .dup2 => zv_ia st fun i a r => k (pc + n) lv (.int i :: .ref a :: .int i :: .ref a :: r) S D
  | .pop => zv_i1 st fun _ r => k (pc + n) lv r S D
  | .ifCond .eq _ => zv_i1 st fun a r => if a = 0 then k x.1 lv r S D else k (pc + n) lv r S D
  | .ifCond .ne _ => zv_i1 st fun a r => if a = 0 then k (pc + n) lv r S D else k x.1 lv r S D
  | .ifCond .lt _ => zv_i1 st fun a r => if a < 0 then k x.1 lv r S D else k (pc + n) lv r S D
  | .ifCond .ge _ => zv_i1 st fun a r => if 0 ≤ a then k x.1 lv r S D else k (pc + n) lv r S D
  | .ifCond .gt _ => zv_i1 st fun a r => if 0 < a then k x.1 lv r S D else k (pc + n) lv r S D
  | .ifCond .le _ => zv_i1 st fun a r => if a ≤ 0 then k x.1 lv r S D else k (pc + n) lv r S D
  | .if_icmp .eq _ => zv_i2 st fun a b r => if a = b then k x.1 lv r S D else k (pc + n) lv r S D
  | .if_icmp .ne _ => zv_i2 st fun a b r => if a = b then k (pc + n) lv r S D else k x.1 lv r S D
  | .if_icmp .lt _ => zv_i2 st fun a b r => if a < b then k x.1 lv r S D else k (pc + n) lv r S D
  | .if_icmp .ge _ => zv_i2 st fun a b r => if b ≤ a then k x.1 lv r S D else k (pc + n) lv r S D
  | .if_icmp .gt _ => zv_i2 st fun a b r => if b < a then k x.1 lv r S D else k (pc + n) lv r S D
  | .if_icmp .le _ => zv_i2 st fun a b r => if a ≤ b then k x.1 lv r S D else k (pc + n) lv r S D
  | .goto _ => k x.1 lv st S D
  | .tableswitch _ _ _ _ => zv_i1 st fun a r => zv_sw x.2.2.2.2.2 a x.1 fun t => k t lv r S D
  | .lookupswitch _ _ => zv_i1 st fun a r => zv_sw x.2.2.2.2.2 a x.1 fun t => k t lv r S D
  | .getfield _ => zv_a1 st fun q r => bif Nat.beq (S.2.2.1 q).1 x.1 then
      (bif Nat.beq x.2.2.1 0 then k (pc + n) lv (.int (D.1 q x.2.1) :: r) S D
       else bif Nat.beq x.2.2.1 1 then k (pc + n) lv (.long (D.2 q x.2.1) :: r) S D
       else (S.2.2.2 q x.2.1).bind fun a => k (pc + n) lv (.ref a :: r) S D) else none
  | .putfield _ => bif Nat.beq x.2.2.1 0 then zv_i1 st fun v r => zv_a1 r fun q r => bif Nat.beq (S.2.2.1 q).1 x.1 then k (pc + n) lv r S (zv_w D.1 q x.2.1 v, D.2) else none
      else bif Nat.beq x.2.2.1 1 then zv_l1 st fun v r => zv_a1 r fun q r => bif Nat.beq (S.2.2.1 q).1 x.1 then k (pc + n) lv r S (D.1, zv_wl D.2 q x.2.1 v) else none
      else bif al then zv_a1 st fun a r => zv_a1 r fun q r => bif Nat.beq (S.2.2.1 q).1 x.1 then k (pc + n) lv r (zv_rw S q x.2.1 a) D else none
      else none
  | .getstatic _ => k (pc + n) lv (.ref x.1 :: st) S D
  | .iaload => zv_ia st fun i a r => bif Nat.beq (S.2.2.1 a).1 11 then (bif zv_in i (S.2.2.1 a).2 then k (pc + n) lv (.int (D.1 a i.toNatClampNeg) :: r) S D else none)
      else bif Nat.beq (S.2.2.1 a).1 21 then (bif al && zv_in i xs.1 then k (pc + n) lv (.int (xs.2 i.toNatClampNeg) :: r) S D else none)
      else bif Nat.beq (S.2.2.1 a).1 22 then (bif zv_in i 5 then k (pc + n) lv (.int (zv_fa i.toNatClampNeg) :: r) S D else none) else none
  | .laload => zv_ia st fun i a r => bif Nat.beq (S.2.2.1 a).1 24 then (bif zv_in i 5 then k (pc + n) lv (.long (zv_un i.toNatClampNeg) :: r) S D else none) else none
  | .caload => zv_ia st fun i a r => bif Nat.beq (S.2.2.1 a).1 10 then (bif zv_in i (S.2.2.1 a).2 then k (pc + n) lv (.int (D.1 a i.toNatClampNeg) :: r) S D else none) else none
  | .baload => zv_ia st fun i a r => bif Nat.beq (S.2.2.1 a).1 12 then (bif zv_in i (S.2.2.1 a).2 then k (pc + n) lv (.int (D.1 a i.toNatClampNeg) :: r) S D else none) else none
  | .aaload => zv_ia st fun i a r => bif Nat.beq (S.2.2.1 a).1 13 then (bif zv_in i (S.2.2.1 a).2 then (S.2.2.2 a i.toNatClampNeg).bind fun b => k (pc + n) lv (.ref b :: r) S D else none) else none
  | .iastore => zv_via st fun v i a r => bif Nat.beq (S.2.2.1 a).1 11 then (bif zv_in i (S.2.2.1 a).2 then k (pc + n) lv r S (zv_w D.1 a i.toNatClampNeg v, D.2) else none) else none
  | .castore => zv_via st fun v i a r => bif Nat.beq (S.2.2.1 a).1 10 then (bif zv_in i (S.2.2.1 a).2 then k (pc + n) lv r S (zv_w D.1 a i.toNatClampNeg (vp_nar .char v), D.2) else none) else none
  | .bastore => zv_via st fun v i a r => bif Nat.beq (S.2.2.1 a).1 12 then (bif zv_in i (S.2.2.1 a).2 then k (pc + n) lv r S (zv_w D.1 a i.toNatClampNeg (vp_nar .boolean v), D.2) else none) else none
  | .aastore => bif al then zv_a1 st fun b r => zv_ia r fun i a r => bif Nat.beq (S.2.2.1 a).1 13 && (Nat.beq (S.2.2.1 b).1 7 && zv_in i (S.2.2.1 a).2) then k (pc + n) lv r (zv_rw S a i.toNatClampNeg b) D else none else none
  | .arraylength => zv_a1 st fun a r => bif Nat.beq (S.2.2.1 a).1 21 then (bif al then k (pc + n) lv (.int (Int32.ofNat xs.1) :: r) S D else none) else bif Nat.ble 10 (S.2.2.1 a).1 then k (pc + n) lv (.int (Int32.ofNat (S.2.2.1 a).2) :: r) S D else none
  | .new _ => bif al && Nat.ble S.1 100000 then k (pc + n) lv (.ref S.1 :: st) (zv_new S x.1 x.2.1) (zv_zer S D) else none
  | .newarray _ => bif al then zv_i1 st fun m r => bif !(decide (m < 0)) && (Nat.ble m.toNatClampNeg 65536 && Nat.ble S.1 100000) then k (pc + n) lv (.ref S.1 :: r) (zv_new S x.1 m.toNatClampNeg) (zv_zer S D) else none else none
  | .anewarray _ => bif al then zv_i1 st fun m r => bif !(decide (m < 0)) && (Nat.ble m.toNatClampNeg 65536 && Nat.ble S.1 100000) then k (pc + n) lv (.ref S.1 :: r) (zv_new S 13 m.toNatClampNeg) (zv_zer S D) else none else none
  | .invokevirtual _ => bif Nat.ble (zv_cs (st.drop x.2.1)) 8 then (ca x.1 (st.take x.2.1).reverse S D).bind fun p => k (pc + n) lv (zv_psh x.2.2.1 p.1 (st.drop x.2.1)) S p.2 else none
  | .invokestatic _ => bif Nat.beq x.1 999 then zv_acp st S D fun r D' => k (pc + n) lv r S D'
      else bif Nat.beq x.1 997 then zv_i2 st fun a b r => bif Nat.ble (zv_cs r) 8 then k (pc + n) lv (.int (if b < a then b else a) :: r) S D else none
      else bif Nat.beq x.1 996 then zv_i2 st fun a b r => bif Nat.ble (zv_cs r) 8 then k (pc + n) lv (.int (if a < b then b else a) :: r) S D else none
      else bif Nat.beq x.1 995 then zv_i1 st fun a r => bif Nat.ble (zv_cs r) 8 then k (pc + n) lv (.int (if 0 ≤ a then a else 0 - a) :: r) S D else none
      else bif Nat.ble (zv_cs (st.drop x.2.1)) 8 then (ca x.1 (st.take x.2.1).reverse S D).bind fun p => k (pc + n) lv (zv_psh x.2.2.1 p.1 (st.drop x.2.1)) S p.2 else none
  | .invokespecial _ => bif Nat.beq x.1 998 then zv_a1 st fun _ r => bif Nat.ble (zv_cs r) 8 then k (pc + n) lv r S D else none
      else bif al then (bif Nat.ble (zv_cs (st.drop x.2.1)) 8 then (ci x.1 (st.take x.2.1).reverse S D).bind fun p => k (pc + n) lv (st.drop x.2.1) p.2.1 p.2.2 else none) else none
  | .ireturn => match st with
    | [.int v] => bif bo then (bif zv_bk v then some ((v, 0, 0), S, D) else none) else some ((v, 0, 0), S, D)
    | _ => none
  | .lreturn => match st with
    | [.long v] => some ((0, v, 0), S, D)
    | _ => none
  | .areturn => match st with
    | [.ref v] => some ((0, 0, v), S, D)
    | _ => none
  | .return_ => match st with
    | [] => some ((0, 0, 0), S, D)
    | _ => none
  | _ => none
def zv_ck : List zv_E → Nat → Option (Instr × Nat × zv_X)
  | [], _ => none
  | e :: t, pc => bif Nat.beq e.1 pc then some e.2 else zv_ck t pc
def zv_lk : List (Nat × List zv_E) → Nat → Option (Instr × Nat × zv_X)
  | [], _ => none
  | e :: t, pc => bif Nat.blt pc e.1 then zv_ck e.2 pc else zv_lk t pc
/-- one step -/
def zv_1 (al : Bool) (tb : List (Nat × List zv_E)) (ca : zv_Ca) (ci : zv_Ci) (xs : Nat × (Nat → Int32)) (bo : Bool) (k : zv_K) : zv_K := fun pc lv st S D => match zv_lk tb pc with
  | none => none
  | some e => zv_s al ca ci xs bo e.1 e.2.1 e.2.2 pc lv st S D k
/-- with fuel -/
def zv_r (al : Bool) (tb : List (Nat × List zv_E)) (ca : zv_Ca) (ci : zv_Ci) (xs : Nat × (Nat → Int32)) (bo : Bool) : Nat → zv_K
  | 0 => fun _ _ _ _ _ => none
  | f + 1 => zv_1 al tb ca ci xs bo (zv_r al tb ca ci xs bo f)
/-- n steps, or up to a stop -/
def zv_n (al : Bool) (tb : List (Nat × List zv_E)) (ca : zv_Ca) (ci : zv_Ci) (xs : Nat × (Nat → Int32)) (bo : Bool) (sp : List Nat) (k : zv_K) : Nat → zv_K
  | 0 => k
  | n + 1 => zv_1 al tb ca ci xs bo fun pc lv st S D => bif zv_mem sp pc then k pc lv st S D else zv_n al tb ca ci xs bo sp k n pc lv st S D
/-- a step gives a fixed answer, or goes on at one place -/
def zv_sh (F : zv_K → Option zv_O) : Prop := (∃ o, ∀ k, F k = o) ∨ ∃ pc lv st S D, ∀ k : zv_K, F k = k pc lv st S D
theorem zv_shn : zv_sh (fun _ => none) := Or.inl ⟨none, fun _ => rfl⟩
theorem zv_sho (o : Option zv_O) : zv_sh (fun _ => o) := Or.inl ⟨o, fun _ => rfl⟩
theorem zv_shk (pc : Nat) (lv : zv_L) (st : List Value) (S : zv_S) (D : zv_D) : zv_sh (fun k => k pc lv st S D) := Or.inr ⟨pc, lv, st, S, D, fun _ => rfl⟩
theorem zv_shc (b : Bool) {F G : zv_K → Option zv_O} (h1 : zv_sh F) (h2 : zv_sh G) : zv_sh (fun k => bif b then F k else G k) := by
  cases b
  · exact h2
  · exact h1
theorem zv_shi {P : Prop} [Decidable P] {F G : zv_K → Option zv_O} (h1 : zv_sh F) (h2 : zv_sh G) : zv_sh (fun k => if P then F k else G k) := by
  by_cases h : P
  · simpa [h] using h1
  · simpa [h] using h2
theorem zv_shb {α : Type} (o : Option α) {F : α → zv_K → Option zv_O} (h : ∀ a, zv_sh (F a)) : zv_sh (fun k => o.bind fun a => F a k) := by
  cases o with
  | none => exact zv_shn
  | some a => exact h a
theorem zv_shw (t : List (Int32 × Nat)) (x : Int32) (d : Nat) {F : Nat → zv_K → Option zv_O} (h : ∀ a, zv_sh (F a)) : zv_sh (fun k => zv_sw t x d fun a => F a k) := by
  induction t with
  | nil => exact h d
  | cons q r ih => exact zv_shi (h q.2) ih
theorem zv_sh_i2 (st : List Value) {F : Int32 → Int32 → List Value → zv_K → Option zv_O} (h : ∀ a b r, zv_sh (F a b r)) : zv_sh (fun k => zv_i2 st fun a b r => F a b r k) := by
  unfold zv_i2; split
  · exact h _ _ _
  · exact zv_shn
theorem zv_sh_l2 (st : List Value) {F : Int64 → Int64 → List Value → zv_K → Option zv_O} (h : ∀ a b r, zv_sh (F a b r)) : zv_sh (fun k => zv_l2 st fun a b r => F a b r k) := by
  unfold zv_l2; split
  · exact h _ _ _
  · exact zv_shn
theorem zv_sh_i1 (st : List Value) {F : Int32 → List Value → zv_K → Option zv_O} (h : ∀ a r, zv_sh (F a r)) : zv_sh (fun k => zv_i1 st fun a r => F a r k) := by
  unfold zv_i1; split
  · exact h _ _
  · exact zv_shn
theorem zv_sh_l1 (st : List Value) {F : Int64 → List Value → zv_K → Option zv_O} (h : ∀ a r, zv_sh (F a r)) : zv_sh (fun k => zv_l1 st fun a r => F a r k) := by
  unfold zv_l1; split
  · exact h _ _
  · exact zv_shn
theorem zv_sh_a1 (st : List Value) {F : Nat → List Value → zv_K → Option zv_O} (h : ∀ a r, zv_sh (F a r)) : zv_sh (fun k => zv_a1 st fun a r => F a r k) := by
  unfold zv_a1; split
  · exact h _ _
  · exact zv_shn
theorem zv_sh_ia (st : List Value) {F : Int32 → Nat → List Value → zv_K → Option zv_O} (h : ∀ a b r, zv_sh (F a b r)) : zv_sh (fun k => zv_ia st fun a b r => F a b r k) := by
  unfold zv_ia; split
  · exact h _ _ _
  · exact zv_shn
theorem zv_sh_via (st : List Value) {F : Int32 → Int32 → Nat → List Value → zv_K → Option zv_O} (h : ∀ v a b r, zv_sh (F v a b r)) : zv_sh (fun k => zv_via st fun v a b r => F v a b r k) := by
  unfold zv_via; split
  · exact h _ _ _ _
  · exact zv_shn
theorem zv_sh_li (o : Option Value) {F : Int32 → zv_K → Option zv_O} (h : ∀ a, zv_sh (F a)) : zv_sh (fun k => zv_li o fun a => F a k) := by
  unfold zv_li; split
  · exact h _
  · exact zv_shn
theorem zv_sh_ll (o o2 : Option Value) {F : Int64 → zv_K → Option zv_O} (h : ∀ a, zv_sh (F a)) : zv_sh (fun k => zv_ll o o2 fun a => F a k) := by
  unfold zv_ll; split
  · split
    · exact h _
    · exact zv_shn
  · exact zv_shn
theorem zv_sh_la (o : Option Value) {F : Nat → zv_K → Option zv_O} (h : ∀ a, zv_sh (F a)) : zv_sh (fun k => zv_la o fun a => F a k) := by
  unfold zv_la; split
  · exact h _
  · exact zv_shn
theorem zv_sh_acp (st : List Value) (S : zv_S) (D : zv_D) {F : List Value → zv_D → zv_K → Option zv_O} (h : ∀ a b, zv_sh (F a b)) : zv_sh (fun k => zv_acp st S D fun a b => F a b k) := by
  unfold zv_acp; split
  · exact zv_shc _ (h _ _) zv_shn
  · exact zv_shn
theorem zv_sh_dp (st : List Value) {F : List Value → zv_K → Option zv_O} (h : ∀ r, zv_sh (F r)) : zv_sh (fun k => zv_dp st fun r => F r k) := by
  unfold zv_dp; split
  · exact h _
  · exact h _
  · exact zv_shn
theorem zv_s_sh (al : Bool) (ca : zv_Ca) (ci : zv_Ci) (xs : Nat × (Nat → Int32)) (bo : Bool) (ins : Instr) (n : Nat) (x : zv_X) (pc : Nat) (lv : zv_L) (st : List Value) (S : zv_S) (D : zv_D) : zv_sh (zv_s al ca ci xs bo ins n x pc lv st S D) := by
  cases ins
  case ifCond cond off => cases cond <;> exact zv_sh_i1 _ fun _ _ => zv_shi (zv_shk _ _ _ _ _) (zv_shk _ _ _ _ _)
  case if_icmp cond off => cases cond <;> exact zv_sh_i2 _ fun _ _ _ => zv_shi (zv_shk _ _ _ _ _) (zv_shk _ _ _ _ _)
  case iconst => exact zv_shk _ _ _ _ _
  case bipush => exact zv_shk _ _ _ _ _
  case sipush => exact zv_shk _ _ _ _ _
  case ldc_w => exact zv_shk _ _ _ _ _
  case lconst => exact zv_shk _ _ _ _ _
  case ldc2_w => exact zv_shk _ _ _ _ _
  case getstatic => exact zv_shk _ _ _ _ _
  case goto => exact zv_shk _ _ _ _ _
  case iload => exact zv_sh_li _ fun _ => zv_shk _ _ _ _ _
  case iload_n => exact zv_sh_li _ fun _ => zv_shk _ _ _ _ _
  case lload => exact zv_sh_ll _ _ fun _ => zv_shk _ _ _ _ _
  case lload_n => exact zv_sh_ll _ _ fun _ => zv_shk _ _ _ _ _
  case aload => exact zv_sh_la _ fun _ => zv_shk _ _ _ _ _
  case aload_n => exact zv_sh_la _ fun _ => zv_shk _ _ _ _ _
  case istore => exact zv_sh_i1 _ fun _ _ => zv_shk _ _ _ _ _
  case istore_n => exact zv_sh_i1 _ fun _ _ => zv_shk _ _ _ _ _
  case lstore => exact zv_sh_l1 _ fun _ _ => zv_shk _ _ _ _ _
  case lstore_n => exact zv_sh_l1 _ fun _ _ => zv_shk _ _ _ _ _
  case astore_n => exact zv_sh_a1 _ fun _ _ => zv_shk _ _ _ _ _
  case iinc => exact zv_sh_li _ fun _ => zv_shk _ _ _ _ _
  case iadd => exact zv_sh_i2 _ fun _ _ _ => zv_shk _ _ _ _ _
  case isub => exact zv_sh_i2 _ fun _ _ _ => zv_shk _ _ _ _ _
  case imul => exact zv_sh_i2 _ fun _ _ _ => zv_shk _ _ _ _ _
  case iand => exact zv_sh_i2 _ fun _ _ _ => zv_shk _ _ _ _ _
  case ior => exact zv_sh_i2 _ fun _ _ _ => zv_shk _ _ _ _ _
  case ixor => exact zv_sh_i2 _ fun _ _ _ => zv_shk _ _ _ _ _
  case ishl => exact zv_sh_i2 _ fun _ _ _ => zv_shk _ _ _ _ _
  case ishr => exact zv_sh_i2 _ fun _ _ _ => zv_shk _ _ _ _ _
  case iushr => exact zv_sh_i2 _ fun _ _ _ => zv_shk _ _ _ _ _
  case idiv => exact zv_sh_i2 _ fun _ _ _ => zv_shi zv_shn (zv_shk _ _ _ _ _)
  case irem => exact zv_sh_i2 _ fun _ _ _ => zv_shi zv_shn (zv_shk _ _ _ _ _)
  case ineg => exact zv_sh_i1 _ fun _ _ => zv_shk _ _ _ _ _
  case ladd => exact zv_sh_l2 _ fun _ _ _ => zv_shk _ _ _ _ _
  case lsub => exact zv_sh_l2 _ fun _ _ _ => zv_shk _ _ _ _ _
  case lmul => exact zv_sh_l2 _ fun _ _ _ => zv_shk _ _ _ _ _
  case land => exact zv_sh_l2 _ fun _ _ _ => zv_shk _ _ _ _ _
  case lor => exact zv_sh_l2 _ fun _ _ _ => zv_shk _ _ _ _ _
  case ldiv => exact zv_sh_l2 _ fun _ _ _ => zv_shi zv_shn (zv_shk _ _ _ _ _)
  case lrem => exact zv_sh_l2 _ fun _ _ _ => zv_shi zv_shn (zv_shk _ _ _ _ _)
  case lcmp => exact zv_sh_l2 _ fun _ _ _ => zv_shk _ _ _ _ _
  case lshl => exact zv_sh_i1 _ fun _ _ => zv_sh_l1 _ fun _ _ => zv_shk _ _ _ _ _
  case lushr => exact zv_sh_i1 _ fun _ _ => zv_sh_l1 _ fun _ _ => zv_shk _ _ _ _ _
  case i2l => exact zv_sh_i1 _ fun _ _ => zv_shk _ _ _ _ _
  case l2i => exact zv_sh_l1 _ fun _ _ => zv_shk _ _ _ _ _
  case i2c => exact zv_sh_i1 _ fun _ _ => zv_shk _ _ _ _ _
  case dup => exact zv_sh_dp st fun r => zv_shk (pc + n) lv r S D
  case dup2 => exact zv_sh_ia _ fun _ _ _ => zv_shk _ _ _ _ _
  case pop => exact zv_sh_i1 _ fun _ _ => zv_shk _ _ _ _ _
  case tableswitch => exact zv_sh_i1 _ fun _ _ => zv_shw _ _ _ fun _ => zv_shk _ _ _ _ _
  case lookupswitch => exact zv_sh_i1 _ fun _ _ => zv_shw _ _ _ fun _ => zv_shk _ _ _ _ _
  case getfield => exact zv_sh_a1 _ fun _ _ => zv_shc _ (zv_shc _ (zv_shk _ _ _ _ _) (zv_shc _ (zv_shk _ _ _ _ _) (zv_shb _ fun _ => zv_shk _ _ _ _ _))) zv_shn
  case putfield => exact zv_shc _ (zv_sh_i1 _ fun _ _ => zv_sh_a1 _ fun _ _ => zv_shc _ (zv_shk _ _ _ _ _) zv_shn) (zv_shc _ (zv_sh_l1 _ fun _ _ => zv_sh_a1 _ fun _ _ => zv_shc _ (zv_shk _ _ _ _ _) zv_shn) (zv_shc _ (zv_sh_a1 _ fun _ _ => zv_sh_a1 _ fun _ _ => zv_shc _ (zv_shk _ _ _ _ _) zv_shn) zv_shn))
  case iaload => exact zv_sh_ia _ fun _ _ _ => zv_shc _ (zv_shc _ (zv_shk _ _ _ _ _) zv_shn) (zv_shc _ (zv_shc _ (zv_shk _ _ _ _ _) zv_shn) (zv_shc _ (zv_shc _ (zv_shk _ _ _ _ _) zv_shn) zv_shn))
  case laload => exact zv_sh_ia _ fun _ _ _ => zv_shc _ (zv_shc _ (zv_shk _ _ _ _ _) zv_shn) zv_shn
  case caload => exact zv_sh_ia _ fun _ _ _ => zv_shc _ (zv_shc _ (zv_shk _ _ _ _ _) zv_shn) zv_shn
  case baload => exact zv_sh_ia _ fun _ _ _ => zv_shc _ (zv_shc _ (zv_shk _ _ _ _ _) zv_shn) zv_shn
  case aaload => exact zv_sh_ia _ fun _ _ _ => zv_shc _ (zv_shc _ (zv_shb _ fun _ => zv_shk _ _ _ _ _) zv_shn) zv_shn
  case iastore => exact zv_sh_via _ fun _ _ _ _ => zv_shc _ (zv_shc _ (zv_shk _ _ _ _ _) zv_shn) zv_shn
  case castore => exact zv_sh_via _ fun _ _ _ _ => zv_shc _ (zv_shc _ (zv_shk _ _ _ _ _) zv_shn) zv_shn
  case bastore => exact zv_sh_via _ fun _ _ _ _ => zv_shc _ (zv_shc _ (zv_shk _ _ _ _ _) zv_shn) zv_shn
  case aastore => exact zv_shc _ (zv_sh_a1 _ fun _ _ => zv_sh_ia _ fun _ _ _ => zv_shc _ (zv_shk _ _ _ _ _) zv_shn) zv_shn
  case arraylength => exact zv_sh_a1 _ fun _ _ => zv_shc _ (zv_shc _ (zv_shk _ _ _ _ _) zv_shn) (zv_shc _ (zv_shk _ _ _ _ _) zv_shn)
  case new => exact zv_shc _ (zv_shk _ _ _ _ _) zv_shn
  case newarray => exact zv_shc _ (zv_sh_i1 _ fun _ _ => zv_shc _ (zv_shk _ _ _ _ _) zv_shn) zv_shn
  case anewarray => exact zv_shc _ (zv_sh_i1 _ fun _ _ => zv_shc _ (zv_shk _ _ _ _ _) zv_shn) zv_shn
  case invokevirtual => exact zv_shc _ (zv_shb _ fun _ => zv_shk _ _ _ _ _) zv_shn
  case invokestatic => exact zv_shc _ (zv_sh_acp _ _ _ fun _ _ => zv_shk _ _ _ _ _) (zv_shc _ (zv_sh_i2 _ fun _ _ _ => zv_shc _ (zv_shk _ _ _ _ _) zv_shn) (zv_shc _ (zv_sh_i2 _ fun _ _ _ => zv_shc _ (zv_shk _ _ _ _ _) zv_shn) (zv_shc _ (zv_sh_i1 _ fun _ _ => zv_shc _ (zv_shk _ _ _ _ _) zv_shn) (zv_shc _ (zv_shb _ fun _ => zv_shk _ _ _ _ _) zv_shn))))
  case invokespecial => exact zv_shc _ (zv_sh_a1 _ fun _ _ => zv_shc _ (zv_shk _ _ _ _ _) zv_shn) (zv_shc _ (zv_shc _ (zv_shb _ fun _ => zv_shk _ _ _ _ _) zv_shn) zv_shn)
  all_goals exact zv_sho _
section ZV
variable (al : Bool) (tb : List (Nat × List zv_E)) (ca : zv_Ca) (ci : zv_Ci) (xs : Nat × (Nat → Int32)) (bo : Bool)
theorem zv_1_sh (pc : Nat) (lv : zv_L) (st : List Value) (S : zv_S) (D : zv_D) : zv_sh (fun k => zv_1 al tb ca ci xs bo k pc lv st S D) := by
  unfold zv_1; split
  · exact zv_shn
  · exact zv_s_sh _ _ _ _ _ _ _ _ _ _ _ _ _
theorem zv_mono : ∀ (f pc : Nat) (lv : zv_L) (st : List Value) (S : zv_S) (D : zv_D) (o : zv_O), zv_r al tb ca ci xs bo f pc lv st S D = some o → zv_r al tb ca ci xs bo (f + 1) pc lv st S D = some o := by
  intro f
  induction f with
  | zero => intro pc lv st S D o h; cases h
  | succ f ih =>
    intro pc lv st S D o h
    show zv_1 al tb ca ci xs bo (zv_r al tb ca ci xs bo (f + 1)) pc lv st S D = some o
    have h : zv_1 al tb ca ci xs bo (zv_r al tb ca ci xs bo f) pc lv st S D = some o := h
    rcases zv_1_sh al tb ca ci xs bo pc lv st S D with ⟨q, hq⟩ | ⟨pc', lv', st', S', D', hq⟩
    · exact (hq _).trans ((hq _).symm.trans h)
    · exact (hq _).trans (ih _ _ _ _ _ _ ((hq _).symm.trans h))
theorem zv_mono2 (g : Nat) : ∀ (f pc : Nat) (lv : zv_L) (st : List Value) (S : zv_S) (D : zv_D) (o : zv_O), zv_r al tb ca ci xs bo f pc lv st S D = some o → zv_r al tb ca ci xs bo (f + g) pc lv st S D = some o := by
  induction g with
  | zero => exact fun _ _ _ _ _ _ _ h => h
  | succ g ih => exact fun f pc lv st S D o h => zv_mono al tb ca ci xs bo (f + g) pc lv st S D o (ih f pc lv st S D o h)
theorem zv_det {f g pc : Nat} {lv : zv_L} {st : List Value} {S : zv_S} {D : zv_D} {o o' : zv_O} (h : zv_r al tb ca ci xs bo f pc lv st S D = some o) (h' : zv_r al tb ca ci xs bo g pc lv st S D = some o') : o = o' := by
  have a := zv_mono2 al tb ca ci xs bo g f pc lv st S D o h
  have b := zv_mono2 al tb ca ci xs bo f g pc lv st S D o' h'
  rw [Nat.add_comm g f] at b
  exact Option.some.inj (a.symm.trans b)
/-- without fuel -/
noncomputable def zv_z : zv_K := fun pc lv st S D => @dite _ (∃ o f, zv_r al tb ca ci xs bo f pc lv st S D = some o) (Classical.propDecidable _) (fun h => some (Classical.choose h)) (fun _ => none)
theorem zv_z_iff (pc : Nat) (lv : zv_L) (st : List Value) (S : zv_S) (D : zv_D) (o : zv_O) : zv_z al tb ca ci xs bo pc lv st S D = some o ↔ ∃ f, zv_r al tb ca ci xs bo f pc lv st S D = some o := by
  unfold zv_z
  constructor
  · intro h
    split at h
    · rename_i hx
      rw [← Option.some.inj h]
      exact Classical.choose_spec hx
    · cases h
  · rintro ⟨f, hf⟩
    have hx : ∃ o f, zv_r al tb ca ci xs bo f pc lv st S D = some o := ⟨o, f, hf⟩
    rw [dif_pos hx]
    obtain ⟨g, hg⟩ := Classical.choose_spec hx
    exact congrArg some (zv_det al tb ca ci xs bo hg hf)
theorem zv_z_eq (pc : Nat) (lv : zv_L) (st : List Value) (S : zv_S) (D : zv_D) : zv_z al tb ca ci xs bo pc lv st S D = zv_1 al tb ca ci xs bo (zv_z al tb ca ci xs bo) pc lv st S D := by
  apply Option.ext
  intro o
  rw [zv_z_iff]
  rcases zv_1_sh al tb ca ci xs bo pc lv st S D with ⟨q, hq⟩ | ⟨pc', lv', st', S', D', hq⟩
  · have hq : ∀ k : zv_K, zv_1 al tb ca ci xs bo k pc lv st S D = q := hq
    rw [hq]
    constructor
    · rintro ⟨f, hf⟩
      cases f with
      | zero => cases hf
      | succ f => exact (hq _).symm.trans hf
    · intro h
      exact ⟨1, (hq _).trans h⟩
  · have hq : ∀ k : zv_K, zv_1 al tb ca ci xs bo k pc lv st S D = k pc' lv' st' S' D' := hq
    rw [hq, zv_z_iff]
    constructor
    · rintro ⟨f, hf⟩
      cases f with
      | zero => cases hf
      | succ f => exact ⟨f, (hq _).symm.trans hf⟩
    · rintro ⟨f, hf⟩
      exact ⟨f + 1, (hq _).trans hf⟩
theorem zv_zn (sp : List Nat) : ∀ (n pc : Nat) (lv : zv_L) (st : List Value) (S : zv_S) (D : zv_D), zv_z al tb ca ci xs bo pc lv st S D = zv_n al tb ca ci xs bo sp (zv_z al tb ca ci xs bo) n pc lv st S D := by
  intro n
  induction n with
  | zero => intro pc lv st S D; rfl
  | succ n ih =>
    intro pc lv st S D
    rw [zv_z_eq]
    show _ = zv_1 al tb ca ci xs bo (fun pc lv st S D => bif zv_mem sp pc then zv_z al tb ca ci xs bo pc lv st S D else zv_n al tb ca ci xs bo sp (zv_z al tb ca ci xs bo) n pc lv st S D) pc lv st S D
    congr 1
    funext pc lv st S D
    cases zv_mem sp pc
    · exact ih pc lv st S D
    · rfl
end ZV
/-- a method that makes nothing -/
noncomputable abbrev zv_m (tb : List (Nat × List zv_E)) (ca : zv_Ca) (bo : Bool) : zv_K := zv_z false tb ca (fun _ _ _ _ => none) (0, fun _ => 0) bo
theorem zv_mn (tb : List (Nat × List zv_E)) (ca : zv_Ca) (bo : Bool) (sp : List Nat) (n pc : Nat) (lv : zv_L) (st : List Value) (S : zv_S) (D : zv_D) : zv_m tb ca bo pc lv st S D = zv_n false tb ca (fun _ _ _ _ => none) (0, fun _ => 0) bo sp (zv_m tb ca bo) n pc lv st S D := zv_zn _ _ _ _ _ _ _ _ _ _ _ _ _
end
section
def RX0 : String := "HiddenExits$Course"
def TX0 : u_T := fun k => match k with
  | 0 => ("HiddenExits$Course", "outcome", "I", false)
  | 1 => ("HiddenExits$Course", "entry", "I", false)
  | 2 => ("HiddenExits$Course", "period", "I", false)
  | _ => ("HiddenExits$Course", "history", "[I", true)
def tyX0 : Nat → FieldType := fun k => match k with
  | 0 => .int
  | 1 => .int
  | 2 => .int
  | _ => .array .int
abbrev wsX00 : List Cond := u_ws RX0 TX0 4
theorem nmX0 : ∀ a, a < 4 → ∀ b, b < 4 → a ≠ b → (TX0 a).2.1 ≠ (TX0 b).2.1 := by decide +kernel
theorem tyX0_ok : ∀ k, k < 4 → parseFieldDescriptor (TX0 k).2.2.1 = some (tyX0 k) := by decide +kernel
abbrev cX0_init : ByteArray := prog_2_method_1_code
def yX0_init : MethodName := ⟨RX0, "<init>", "()V"⟩
abbrev cX0_follow : ByteArray := prog_2_method_2_code
def yX0_follow : MethodName := ⟨RX0, "follow", "(LHiddenExits$Simulator;)V"⟩
abbrev cX0_takeBack : ByteArray := prog_2_method_3_code
def yX0_takeBack : MethodName := ⟨RX0, "takeBack", "(LHiddenExits$Simulator;)V"⟩
abbrev cX0_record : ByteArray := prog_2_method_4_code
def yX0_record : MethodName := ⟨RX0, "record", "(LHiddenExits$Simulator;I)V"⟩
abbrev cX0_earlier : ByteArray := prog_2_method_5_code
def yX0_earlier : MethodName := ⟨RX0, "earlier", "(I)I"⟩
abbrev cX0_alike : ByteArray := prog_2_method_6_code
def yX0_alike : MethodName := ⟨RX0, "alike", "(II)Z"⟩
def RX1 : String := "HiddenExits$Passes"
def TX1 : u_T := fun k => match k with
  | 0 => ("HiddenExits$Passes", "resting", "I", false)
  | 1 => ("HiddenExits$Passes", "different", "I", false)
  | 2 => ("HiddenExits$Passes", "lowest", "I", false)
  | 3 => ("HiddenExits$Passes", "order", "[I", true)
  | 4 => ("HiddenExits$Passes", "rests", "[I", true)
  | _ => ("HiddenExits$Passes", "marked", "[I", true)
def tyX1 : Nat → FieldType := fun k => match k with
  | 0 => .int
  | 1 => .int
  | 2 => .int
  | 3 => .array .int
  | 4 => .array .int
  | _ => .array .int
abbrev wsX10 : List Cond := u_ws RX1 TX1 6
theorem nmX1 : ∀ a, a < 6 → ∀ b, b < 6 → a ≠ b → (TX1 a).2.1 ≠ (TX1 b).2.1 := by decide +kernel
theorem tyX1_ok : ∀ k, k < 6 → parseFieldDescriptor (TX1 k).2.2.1 = some (tyX1 k) := by decide +kernel
abbrev cX1_init : ByteArray := prog_3_method_1_code
def yX1_init : MethodName := ⟨RX1, "<init>", "()V"⟩
abbrev cX1_tryAll : ByteArray := prog_3_method_2_code
def yX1_tryAll : MethodName := ⟨RX1, "tryAll", "(LHiddenExits$Simulator;)V"⟩
abbrev cX1_restsInOrder : ByteArray := prog_3_method_3_code
def yX1_restsInOrder : MethodName := ⟨RX1, "restsInOrder", "(LHiddenExits$Simulator;I)Z"⟩
abbrev cX1_mark : ByteArray := prog_3_method_4_code
def yX1_mark : MethodName := ⟨RX1, "mark", "(LHiddenExits$Simulator;)V"⟩
abbrev cX1_isMarked : ByteArray := prog_3_method_5_code
def yX1_isMarked : MethodName := ⟨RX1, "isMarked", "(LHiddenExits$Simulator;)Z"⟩
abbrev cX1_note : ByteArray := prog_3_method_6_code
def yX1_note : MethodName := ⟨RX1, "note", "(I)V"⟩
abbrev cX1_goToNextOrder : ByteArray := prog_3_method_7_code
def yX1_goToNextOrder : MethodName := ⟨RX1, "goToNextOrder", "(I)Z"⟩
abbrev cX1_swap : ByteArray := prog_3_method_8_code
def yX1_swap : MethodName := ⟨RX1, "swap", "(II)V"⟩
def RX2 : String := "HiddenExits$Past"
def TX2 : u_T := fun k => match k with
  | 0 => ("HiddenExits$Past", "held", "I", false)
  | 1 => ("HiddenExits$Past", "next", "I", false)
  | _ => ("HiddenExits$Past", "states", "[LHiddenExits$State;", true)
def tyX2 : Nat → FieldType := fun k => match k with
  | 0 => .int
  | 1 => .int
  | _ => .array (.object "HiddenExits$State")
abbrev wsX20 : List Cond := u_ws RX2 TX2 3
theorem nmX2 : ∀ a, a < 3 → ∀ b, b < 3 → a ≠ b → (TX2 a).2.1 ≠ (TX2 b).2.1 := by decide +kernel
theorem tyX2_ok : ∀ k, k < 3 → parseFieldDescriptor (TX2 k).2.2.1 = some (tyX2 k) := by decide +kernel
abbrev cX2_init : ByteArray := prog_4_method_1_code
def yX2_init : MethodName := ⟨RX2, "<init>", "()V"⟩
abbrev cX2_save : ByteArray := prog_4_method_2_code
def yX2_save : MethodName := ⟨RX2, "save", "(LHiddenExits$State;)V"⟩
abbrev cX2_latest : ByteArray := prog_4_method_3_code
def yX2_latest : MethodName := ⟨RX2, "latest", "()LHiddenExits$State;"⟩
def RX3 : String := "HiddenExits$Plan"
def TX3 : u_T := fun k => match k with
  | 0 => ("HiddenExits$Plan", "routers", "I", false)
  | 1 => ("HiddenExits$Plan", "exits", "I", false)
  | 2 => ("HiddenExits$Plan", "session", "[I", true)
  | 3 => ("HiddenExits$Plan", "told", "[I", true)
  | 4 => ("HiddenExits$Plan", "place", "[I", true)
  | 5 => ("HiddenExits$Plan", "neighbour", "[I", true)
  | 6 => ("HiddenExits$Plan", "path", "[I", true)
  | _ => ("HiddenExits$Plan", "home", "[I", true)
def tyX3 : Nat → FieldType := fun k => match k with
  | 0 => .int
  | 1 => .int
  | 2 => .array .int
  | 3 => .array .int
  | 4 => .array .int
  | 5 => .array .int
  | 6 => .array .int
  | _ => .array .int
abbrev wsX30 : List Cond := u_ws RX3 TX3 8
theorem nmX3 : ∀ a, a < 8 → ∀ b, b < 8 → a ≠ b → (TX3 a).2.1 ≠ (TX3 b).2.1 := by decide +kernel
theorem tyX3_ok : ∀ k, k < 8 → parseFieldDescriptor (TX3 k).2.2.1 = some (tyX3 k) := by decide +kernel
abbrev cX3_init : ByteArray := prog_5_method_1_code
def yX3_init : MethodName := ⟨RX3, "<init>", "()V"⟩
abbrev cX3_read : ByteArray := prog_5_method_2_code
def yX3_read : MethodName := ⟨RX3, "read", "(LHiddenExits$Script;)V"⟩
abbrev cX3_readTold : ByteArray := prog_5_method_3_code
def yX3_readTold : MethodName := ⟨RX3, "readTold", "(I)V"⟩
abbrev cX3_hasRouter : ByteArray := prog_5_method_4_code
def yX3_hasRouter : MethodName := ⟨RX3, "hasRouter", "(I)Z"⟩
abbrev cX3_hasExit : ByteArray := prog_5_method_5_code
def yX3_hasExit : MethodName := ⟨RX3, "hasExit", "(I)Z"⟩
abbrev cX3_sessionOf : ByteArray := prog_5_method_6_code
def yX3_sessionOf : MethodName := ⟨RX3, "sessionOf", "(II)I"⟩
abbrev cX3_toldBy : ByteArray := prog_5_method_7_code
def yX3_toldBy : MethodName := ⟨RX3, "toldBy", "(II)I"⟩
abbrev cX3_exitsTo : ByteArray := prog_5_method_8_code
def yX3_exitsTo : MethodName := ⟨RX3, "exitsTo", "(I)I"⟩
abbrev cX3_sessionCount : ByteArray := prog_5_method_9_code
def yX3_sessionCount : MethodName := ⟨RX3, "sessionCount", "()I"⟩
def RX4 : String := "HiddenExits$Script"
def TX4 : u_T := fun k => match k with
  | 0 => ("HiddenExits$Script", "signs", "[C", true)
  | 1 => ("HiddenExits$Script", "length", "I", false)
  | 2 => ("HiddenExits$Script", "routers", "I", false)
  | 3 => ("HiddenExits$Script", "exits", "I", false)
  | 4 => ("HiddenExits$Script", "parts", "I", false)
  | 5 => ("HiddenExits$Script", "cost", "[I", true)
  | 6 => ("HiddenExits$Script", "session", "[I", true)
  | 7 => ("HiddenExits$Script", "place", "[I", true)
  | 8 => ("HiddenExits$Script", "neighbour", "[I", true)
  | 9 => ("HiddenExits$Script", "path", "[I", true)
  | 10 => ("HiddenExits$Script", "weight", "[I", true)
  | _ => ("HiddenExits$Script", "at", "I", false)
def tyX4 : Nat → FieldType := fun k => match k with
  | 0 => .array .char
  | 1 => .int
  | 2 => .int
  | 3 => .int
  | 4 => .int
  | 5 => .array .int
  | 6 => .array .int
  | 7 => .array .int
  | 8 => .array .int
  | 9 => .array .int
  | 10 => .array .int
  | _ => .int
abbrev wsX40 : List Cond := u_ws RX4 TX4 12
theorem nmX4 : ∀ a, a < 12 → ∀ b, b < 12 → a ≠ b → (TX4 a).2.1 ≠ (TX4 b).2.1 := by decide +kernel
theorem tyX4_ok : ∀ k, k < 12 → parseFieldDescriptor (TX4 k).2.2.1 = some (tyX4 k) := by decide +kernel
abbrev cX4_init : ByteArray := prog_6_method_1_code
def yX4_init : MethodName := ⟨RX4, "<init>", "()V"⟩
abbrev cX4_scan : ByteArray := prog_6_method_2_code
def yX4_scan : MethodName := ⟨RX4, "scan", "()I"⟩
abbrev cX4_scanHead : ByteArray := prog_6_method_3_code
def yX4_scanHead : MethodName := ⟨RX4, "scanHead", "()Z"⟩
abbrev cX4_scanPart : ByteArray := prog_6_method_4_code
def yX4_scanPart : MethodName := ⟨RX4, "scanPart", "()Z"⟩
abbrev cX4_scanLink : ByteArray := prog_6_method_5_code
def yX4_scanLink : MethodName := ⟨RX4, "scanLink", "()Z"⟩
abbrev cX4_scanSession : ByteArray := prog_6_method_6_code
def yX4_scanSession : MethodName := ⟨RX4, "scanSession", "(II)Z"⟩
abbrev cX4_scanExit : ByteArray := prog_6_method_7_code
def yX4_scanExit : MethodName := ⟨RX4, "scanExit", "()Z"⟩
abbrev cX4_scanPair : ByteArray := prog_6_method_8_code
def yX4_scanPair : MethodName := ⟨RX4, "scanPair", "([I)I"⟩
abbrev cX4_setPair : ByteArray := prog_6_method_9_code
def yX4_setPair : MethodName := ⟨RX4, "setPair", "([IIII)V"⟩
abbrev cX4_anyFree : ByteArray := prog_6_method_10_code
def yX4_anyFree : MethodName := ⟨RX4, "anyFree", "([I)Z"⟩
abbrev cX4_hasFree : ByteArray := prog_6_method_11_code
def yX4_hasFree : MethodName := ⟨RX4, "hasFree", "([II)Z"⟩
abbrev cX4_isFree : ByteArray := prog_6_method_12_code
def yX4_isFree : MethodName := ⟨RX4, "isFree", "([III)Z"⟩
abbrev cX4_sign : ByteArray := prog_6_method_13_code
def yX4_sign : MethodName := ⟨RX4, "sign", "()I"⟩
abbrev cX4_digit : ByteArray := prog_6_method_14_code
def yX4_digit : MethodName := ⟨RX4, "digit", "(II)I"⟩
def RX5 : String := "HiddenExits$Sightings"
def TX5 : u_T := fun k => match k with
  | 0 => ("HiddenExits$Sightings", "held", "I", false)
  | 1 => ("HiddenExits$Sightings", "routers", "[I", true)
  | 2 => ("HiddenExits$Sightings", "exits", "[I", true)
  | _ => ("HiddenExits$Sightings", "was", "[I", true)
def tyX5 : Nat → FieldType := fun k => match k with
  | 0 => .int
  | 1 => .array .int
  | 2 => .array .int
  | _ => .array .int
abbrev wsX50 : List Cond := u_ws RX5 TX5 4
theorem nmX5 : ∀ a, a < 4 → ∀ b, b < 4 → a ≠ b → (TX5 a).2.1 ≠ (TX5 b).2.1 := by decide +kernel
theorem tyX5_ok : ∀ k, k < 4 → parseFieldDescriptor (TX5 k).2.2.1 = some (tyX5 k) := by decide +kernel
abbrev cX5_init : ByteArray := prog_7_method_1_code
def yX5_init : MethodName := ⟨RX5, "<init>", "()V"⟩
abbrev cX5_note : ByteArray := prog_7_method_2_code
def yX5_note : MethodName := ⟨RX5, "note", "(III)V"⟩
abbrev cX5_agree : ByteArray := prog_7_method_3_code
def yX5_agree : MethodName := ⟨RX5, "agree", "(LHiddenExits$Simulator;Z)Z"⟩
def RX6 : String := "HiddenExits$Simulator"
def TX6 : u_T := fun k => match k with
  | 0 => ("HiddenExits$Simulator", "plan", "LHiddenExits$Plan;", true)
  | 1 => ("HiddenExits$Simulator", "state", "LHiddenExits$State;", true)
  | 2 => ("HiddenExits$Simulator", "near", "[I", true)
  | 3 => ("HiddenExits$Simulator", "hops", "I", false)
  | 4 => ("HiddenExits$Simulator", "distances", "[I", true)
  | 5 => ("HiddenExits$Simulator", "picks", "[I", true)
  | 6 => ("HiddenExits$Simulator", "keys", "[I", true)
  | 7 => ("HiddenExits$Simulator", "offers", "[I", true)
  | _ => ("HiddenExits$Simulator", "next", "[I", true)
def tyX6 : Nat → FieldType := fun k => match k with
  | 0 => .object "HiddenExits$Plan"
  | 1 => .object "HiddenExits$State"
  | 2 => .array .int
  | 3 => .int
  | 4 => .array .int
  | 5 => .array .int
  | 6 => .array .int
  | 7 => .array .int
  | _ => .array .int
abbrev wsX60 : List Cond := u_ws RX6 TX6 9
theorem nmX6 : ∀ a, a < 9 → ∀ b, b < 9 → a ≠ b → (TX6 a).2.1 ≠ (TX6 b).2.1 := by decide +kernel
theorem tyX6_ok : ∀ k, k < 9 → parseFieldDescriptor (TX6 k).2.2.1 = some (tyX6 k) := by decide +kernel
abbrev cX6_init : ByteArray := prog_8_method_1_code
def yX6_init : MethodName := ⟨RX6, "<init>", "(LHiddenExits$Plan;)V"⟩
abbrev cX6_begin : ByteArray := prog_8_method_2_code
def yX6_begin : MethodName := ⟨RX6, "begin", "(LHiddenExits$Script;)V"⟩
abbrev cX6_restore : ByteArray := prog_8_method_3_code
def yX6_restore : MethodName := ⟨RX6, "restore", "(LHiddenExits$State;)V"⟩
abbrev cX6_copyFrom : ByteArray := prog_8_method_4_code
def yX6_copyFrom : MethodName := ⟨RX6, "copyFrom", "(LHiddenExits$Simulator;)V"⟩
abbrev cX6_changeCost : ByteArray := prog_8_method_5_code
def yX6_changeCost : MethodName := ⟨RX6, "changeCost", "(III)V"⟩
abbrev cX6_changeWeight : ByteArray := prog_8_method_6_code
def yX6_changeWeight : MethodName := ⟨RX6, "changeWeight", "(II)V"⟩
abbrev cX6_changeMode : ByteArray := prog_8_method_7_code
def yX6_changeMode : MethodName := ⟨RX6, "changeMode", "(I)V"⟩
abbrev cX6_forgetPicks : ByteArray := prog_8_method_8_code
def yX6_forgetPicks : MethodName := ⟨RX6, "forgetPicks", "()V"⟩
abbrev cX6_measure : ByteArray := prog_8_method_9_code
def yX6_measure : MethodName := ⟨RX6, "measure", "()V"⟩
abbrev cX6_findNear : ByteArray := prog_8_method_10_code
def yX6_findNear : MethodName := ⟨RX6, "findNear", "()V"⟩
abbrev cX6_distance : ByteArray := prog_8_method_11_code
def yX6_distance : MethodName := ⟨RX6, "distance", "(II)I"⟩
abbrev cX6_stepOne : ByteArray := prog_8_method_12_code
def yX6_stepOne : MethodName := ⟨RX6, "stepOne", "(I)Z"⟩
abbrev cX6_stepAll : ByteArray := prog_8_method_13_code
def yX6_stepAll : MethodName := ⟨RX6, "stepAll", "()I"⟩
abbrev cX6_decide : ByteArray := prog_8_method_14_code
def yX6_decide : MethodName := ⟨RX6, "decide", "(I)I"⟩
abbrev cX6_listen : ByteArray := prog_8_method_15_code
def yX6_listen : MethodName := ⟨RX6, "listen", "(I)I"⟩
abbrev cX6_take : ByteArray := prog_8_method_16_code
def yX6_take : MethodName := ⟨RX6, "take", "(IIII)I"⟩
abbrev cX6_pick : ByteArray := prog_8_method_17_code
def yX6_pick : MethodName := ⟨RX6, "pick", "(II)I"⟩
abbrev cX6_compare : ByteArray := prog_8_method_18_code
def yX6_compare : MethodName := ⟨RX6, "compare", "(II)I"⟩
abbrev cX6_smallest : ByteArray := prog_8_method_19_code
def yX6_smallest : MethodName := ⟨RX6, "smallest", "(I[I)I"⟩
abbrev cX6_send : ByteArray := prog_8_method_20_code
def yX6_send : MethodName := ⟨RX6, "send", "(I)I"⟩
abbrev cX6_nextHop : ByteArray := prog_8_method_21_code
def yX6_nextHop : MethodName := ⟨RX6, "nextHop", "(II)I"⟩
abbrev cX6_restNumber : ByteArray := prog_8_method_22_code
def yX6_restNumber : MethodName := ⟨RX6, "restNumber", "()I"⟩
def RX7 : String := "HiddenExits$State"
def TX7 : u_T := fun k => match k with
  | 0 => ("HiddenExits$State", "cost", "[I", true)
  | 1 => ("HiddenExits$State", "weight", "[I", true)
  | 2 => ("HiddenExits$State", "choices", "[I", true)
  | 3 => ("HiddenExits$State", "up", "I", false)
  | 4 => ("HiddenExits$State", "extended", "I", false)
  | _ => ("HiddenExits$State", "mode", "I", false)
def tyX7 : Nat → FieldType := fun k => match k with
  | 0 => .array .int
  | 1 => .array .int
  | 2 => .array .int
  | 3 => .int
  | 4 => .int
  | _ => .int
abbrev wsX70 : List Cond := u_ws RX7 TX7 6
theorem nmX7 : ∀ a, a < 6 → ∀ b, b < 6 → a ≠ b → (TX7 a).2.1 ≠ (TX7 b).2.1 := by decide +kernel
theorem tyX7_ok : ∀ k, k < 6 → parseFieldDescriptor (TX7 k).2.2.1 = some (tyX7 k) := by decide +kernel
abbrev cX7_init : ByteArray := prog_9_method_1_code
def yX7_init : MethodName := ⟨RX7, "<init>", "()V"⟩
abbrev cX7_copyFrom : ByteArray := prog_9_method_2_code
def yX7_copyFrom : MethodName := ⟨RX7, "copyFrom", "(LHiddenExits$State;)V"⟩
abbrev cX7_read : ByteArray := prog_9_method_3_code
def yX7_read : MethodName := ⟨RX7, "read", "(LHiddenExits$Script;)V"⟩
abbrev cX7_forgetChoices : ByteArray := prog_9_method_4_code
def yX7_forgetChoices : MethodName := ⟨RX7, "forgetChoices", "()V"⟩
abbrev cX7_costOf : ByteArray := prog_9_method_5_code
def yX7_costOf : MethodName := ⟨RX7, "costOf", "(II)I"⟩
abbrev cX7_flip : ByteArray := prog_9_method_6_code
def yX7_flip : MethodName := ⟨RX7, "flip", "(I)V"⟩
abbrev cX7_extend : ByteArray := prog_9_method_7_code
def yX7_extend : MethodName := ⟨RX7, "extend", "(I)V"⟩
abbrev cX7_firstRoute : ByteArray := prog_9_method_8_code
def yX7_firstRoute : MethodName := ⟨RX7, "firstRoute", "(I)I"⟩
abbrev cX7_secondRoute : ByteArray := prog_9_method_9_code
def yX7_secondRoute : MethodName := ⟨RX7, "secondRoute", "(I)I"⟩
abbrev cX7_firstExit : ByteArray := prog_9_method_10_code
def yX7_firstExit : MethodName := ⟨RX7, "firstExit", "(I)I"⟩
abbrev cX7_linkCount : ByteArray := prog_9_method_11_code
def yX7_linkCount : MethodName := ⟨RX7, "linkCount", "()I"⟩
abbrev cX7_chosenSet : ByteArray := prog_9_method_12_code
def yX7_chosenSet : MethodName := ⟨RX7, "chosenSet", "()I"⟩
abbrev cX7_chosenExits : ByteArray := prog_9_method_13_code
def yX7_chosenExits : MethodName := ⟨RX7, "chosenExits", "()I"⟩
def RX8 : String := "HiddenExits"
def TX8 : u_T := fun k => match k with
  | 0 => ("HiddenExits", "script", "LHiddenExits$Script;", true)
  | 1 => ("HiddenExits", "plan", "LHiddenExits$Plan;", true)
  | 2 => ("HiddenExits", "live", "LHiddenExits$Simulator;", true)
  | 3 => ("HiddenExits", "trial", "LHiddenExits$Simulator;", true)
  | 4 => ("HiddenExits", "course", "LHiddenExits$Course;", true)
  | 5 => ("HiddenExits", "passes", "LHiddenExits$Passes;", true)
  | 6 => ("HiddenExits", "past", "LHiddenExits$Past;", true)
  | 7 => ("HiddenExits", "slots", "[LHiddenExits$State;", true)
  | 8 => ("HiddenExits", "filled", "[Z", true)
  | 9 => ("HiddenExits", "sightings", "LHiddenExits$Sightings;", true)
  | _ => ("HiddenExits", "random", "J", false)
def tyX8 : Nat → FieldType := fun k => match k with
  | 0 => .object "HiddenExits$Script"
  | 1 => .object "HiddenExits$Plan"
  | 2 => .object "HiddenExits$Simulator"
  | 3 => .object "HiddenExits$Simulator"
  | 4 => .object "HiddenExits$Course"
  | 5 => .object "HiddenExits$Passes"
  | 6 => .object "HiddenExits$Past"
  | 7 => .array (.object "HiddenExits$State")
  | 8 => .array .boolean
  | 9 => .object "HiddenExits$Sightings"
  | _ => .long
abbrev wsX80 : List Cond := u_ws RX8 TX8 11
theorem nmX8 : ∀ a, a < 11 → ∀ b, b < 11 → a ≠ b → (TX8 a).2.1 ≠ (TX8 b).2.1 := by decide +kernel
theorem tyX8_ok : ∀ k, k < 11 → parseFieldDescriptor (TX8 k).2.2.1 = some (tyX8 k) := by decide +kernel
abbrev cX8_init : ByteArray := prog_1_method_1_code
def yX8_init : MethodName := ⟨RX8, "<init>", "()V"⟩
abbrev cX8_write : ByteArray := prog_1_method_2_code
def yX8_write : MethodName := ⟨RX8, "write", "(I)I"⟩
abbrev cX8_wipe : ByteArray := prog_1_method_3_code
def yX8_wipe : MethodName := ⟨RX8, "wipe", "()I"⟩
abbrev cX8_fault : ByteArray := prog_1_method_4_code
def yX8_fault : MethodName := ⟨RX8, "fault", "()I"⟩
abbrev cX8_domain : ByteArray := prog_1_method_5_code
def yX8_domain : MethodName := ⟨RX8, "domain", "()I"⟩
abbrev cX8_link : ByteArray := prog_1_method_6_code
def yX8_link : MethodName := ⟨RX8, "link", "(III)I"⟩
abbrev cX8_session : ByteArray := prog_1_method_7_code
def yX8_session : MethodName := ⟨RX8, "session", "(II)I"⟩
abbrev cX8_exit : ByteArray := prog_1_method_8_code
def yX8_exit : MethodName := ⟨RX8, "exit", "(II)I"⟩
abbrev cX8_step : ByteArray := prog_1_method_9_code
def yX8_step : MethodName := ⟨RX8, "step", "(I)I"⟩
abbrev cX8_round : ByteArray := prog_1_method_10_code
def yX8_round : MethodName := ⟨RX8, "round", "()I"⟩
abbrev cX8_setLink : ByteArray := prog_1_method_11_code
def yX8_setLink : MethodName := ⟨RX8, "setLink", "(III)I"⟩
abbrev cX8_turn : ByteArray := prog_1_method_12_code
def yX8_turn : MethodName := ⟨RX8, "turn", "(I)I"⟩
abbrev cX8_weigh : ByteArray := prog_1_method_13_code
def yX8_weigh : MethodName := ⟨RX8, "weigh", "(II)I"⟩
abbrev cX8_add : ByteArray := prog_1_method_14_code
def yX8_add : MethodName := ⟨RX8, "add", "(I)I"⟩
abbrev cX8_setMode : ByteArray := prog_1_method_15_code
def yX8_setMode : MethodName := ⟨RX8, "setMode", "(I)I"⟩
abbrev cX8_undo : ByteArray := prog_1_method_16_code
def yX8_undo : MethodName := ⟨RX8, "undo", "()I"⟩
abbrev cX8_choice : ByteArray := prog_1_method_17_code
def yX8_choice : MethodName := ⟨RX8, "choice", "(III)I"⟩
abbrev cX8_heard : ByteArray := prog_1_method_18_code
def yX8_heard : MethodName := ⟨RX8, "heard", "(I)I"⟩
abbrev cX8_tells : ByteArray := prog_1_method_19_code
def yX8_tells : MethodName := ⟨RX8, "tells", "(II)I"⟩
abbrev cX8_mesh : ByteArray := prog_1_method_20_code
def yX8_mesh : MethodName := ⟨RX8, "mesh", "(I)I"⟩
abbrev cX8_leaves : ByteArray := prog_1_method_21_code
def yX8_leaves : MethodName := ⟨RX8, "leaves", "(II)I"⟩
abbrev cX8_run : ByteArray := prog_1_method_22_code
def yX8_run : MethodName := ⟨RX8, "run", "(II)I"⟩
abbrev cX8_orders : ByteArray := prog_1_method_23_code
def yX8_orders : MethodName := ⟨RX8, "orders", "(I)I"⟩
abbrev cX8_healed : ByteArray := prog_1_method_24_code
def yX8_healed : MethodName := ⟨RX8, "healed", "(I)I"⟩
abbrev cX8_judge : ByteArray := prog_1_method_25_code
def yX8_judge : MethodName := ⟨RX8, "judge", "(IJ)I"⟩
abbrev cX8_see : ByteArray := prog_1_method_26_code
def yX8_see : MethodName := ⟨RX8, "see", "(III)I"⟩
abbrev cX8_unsee : ByteArray := prog_1_method_27_code
def yX8_unsee : MethodName := ⟨RX8, "unsee", "()I"⟩
abbrev cX8_which : ByteArray := prog_1_method_28_code
def yX8_which : MethodName := ⟨RX8, "which", "()I"⟩
abbrev cX8_share : ByteArray := prog_1_method_29_code
def yX8_share : MethodName := ⟨RX8, "share", "(IZ)I"⟩
abbrev cX8_lost : ByteArray := prog_1_method_30_code
def yX8_lost : MethodName := ⟨RX8, "lost", "(IZ)I"⟩
abbrev cX8_seed : ByteArray := prog_1_method_31_code
def yX8_seed : MethodName := ⟨RX8, "seed", "(J)J"⟩
abbrev cX8_drawn : ByteArray := prog_1_method_32_code
def yX8_drawn : MethodName := ⟨RX8, "drawn", "(I)I"⟩
abbrev cX8_keep : ByteArray := prog_1_method_33_code
def yX8_keep : MethodName := ⟨RX8, "keep", "(I)I"⟩
abbrev cX8_again : ByteArray := prog_1_method_34_code
def yX8_again : MethodName := ⟨RX8, "again", "(I)I"⟩
abbrev cX8_count : ByteArray := prog_1_method_35_code
def yX8_count : MethodName := ⟨RX8, "count", "(I)I"⟩
abbrev cX8_exitOf : ByteArray := prog_1_method_36_code
def yX8_exitOf : MethodName := ⟨RX8, "exitOf", "(I)I"⟩
abbrev cX8_fromOf : ByteArray := prog_1_method_37_code
def yX8_fromOf : MethodName := ⟨RX8, "fromOf", "(I)I"⟩
abbrev cX8_routeOf : ByteArray := prog_1_method_38_code
def yX8_routeOf : MethodName := ⟨RX8, "routeOf", "(III)I"⟩
abbrev cX8_factorial : ByteArray := prog_1_method_39_code
def yX8_factorial : MethodName := ⟨RX8, "factorial", "(I)I"⟩
abbrev cX8_commonDivisor : ByteArray := prog_1_method_40_code
def yX8_commonDivisor : MethodName := ⟨RX8, "commonDivisor", "(II)I"⟩
abbrev cX8_part : ByteArray := prog_1_method_41_code
def yX8_part : MethodName := ⟨RX8, "part", "(IIZ)I"⟩
abbrev cX8_restsAnew : ByteArray := prog_1_method_42_code
def yX8_restsAnew : MethodName := ⟨RX8, "restsAnew", "()Z"⟩
abbrev cX8_gainFactor : ByteArray := prog_1_method_43_code
def yX8_gainFactor : MethodName := ⟨RX8, "gainFactor", "(II)I"⟩
abbrev cX8_chanceOf : ByteArray := prog_1_method_44_code
def yX8_chanceOf : MethodName := ⟨RX8, "chanceOf", "(II)I"⟩
abbrev cX8_holds : ByteArray := prog_1_method_45_code
def yX8_holds : MethodName := ⟨RX8, "holds", "(I)Z"⟩
abbrev cX8_happens : ByteArray := prog_1_method_46_code
def yX8_happens : MethodName := ⟨RX8, "happens", "(II)Z"⟩
abbrev cX8_canBeAnswer : ByteArray := prog_1_method_47_code
def yX8_canBeAnswer : MethodName := ⟨RX8, "canBeAnswer", "(II)Z"⟩
abbrev cX8_isExit : ByteArray := prog_1_method_48_code
def yX8_isExit : MethodName := ⟨RX8, "isExit", "(II)Z"⟩
def RX9 : String := "HiddenExitsModel"
def TX9 : u_T := fun k => match k with
  | 0 => ("HiddenExitsModel", "thrown", "I", false)
  | 1 => ("HiddenExitsModel", "text", "[I", true)
  | 2 => ("HiddenExitsModel", "textSize", "I", false)
  | 3 => ("HiddenExitsModel", "place", "I", false)
  | 4 => ("HiddenExitsModel", "parts", "I", false)
  | 5 => ("HiddenExitsModel", "readPage", "[I", true)
  | 6 => ("HiddenExitsModel", "page", "[I", true)
  | 7 => ("HiddenExitsModel", "trial", "[I", true)
  | 8 => ("HiddenExitsModel", "work", "[I", true)
  | 9 => ("HiddenExitsModel", "book", "[I", true)
  | 10 => ("HiddenExitsModel", "doings", "I", false)
  | 11 => ("HiddenExitsModel", "kept", "[I", true)
  | 12 => ("HiddenExitsModel", "isKept", "[Z", true)
  | 13 => ("HiddenExitsModel", "seen", "I", false)
  | 14 => ("HiddenExitsModel", "seenRouter", "[I", true)
  | 15 => ("HiddenExitsModel", "seenExit", "[I", true)
  | 16 => ("HiddenExitsModel", "seenIs", "[I", true)
  | 17 => ("HiddenExitsModel", "seed", "J", false)
  | 18 => ("HiddenExitsModel", "cost", "[I", true)
  | 19 => ("HiddenExitsModel", "from", "[I", true)
  | 20 => ("HiddenExitsModel", "marks", "[I", true)
  | 21 => ("HiddenExitsModel", "taken", "[I", true)
  | 22 => ("HiddenExitsModel", "next", "[I", true)
  | 23 => ("HiddenExitsModel", "states", "[I", true)
  | 24 => ("HiddenExitsModel", "runEnd", "I", false)
  | 25 => ("HiddenExitsModel", "runFirst", "I", false)
  | 26 => ("HiddenExitsModel", "runTurn", "I", false)
  | 27 => ("HiddenExitsModel", "rests", "[I", true)
  | 28 => ("HiddenExitsModel", "worth", "[I", true)
  | 29 => ("HiddenExitsModel", "readI", "I", false)
  | 30 => ("HiddenExitsModel", "readJ", "I", false)
  | _ => ("HiddenExitsModel", "leftOver", "I", false)
def tyX9 : Nat → FieldType := fun k => match k with
  | 0 => .int
  | 1 => .array .int
  | 2 => .int
  | 3 => .int
  | 4 => .int
  | 5 => .array .int
  | 6 => .array .int
  | 7 => .array .int
  | 8 => .array .int
  | 9 => .array .int
  | 10 => .int
  | 11 => .array .int
  | 12 => .array .boolean
  | 13 => .int
  | 14 => .array .int
  | 15 => .array .int
  | 16 => .array .int
  | 17 => .long
  | 18 => .array .int
  | 19 => .array .int
  | 20 => .array .int
  | 21 => .array .int
  | 22 => .array .int
  | 23 => .array .int
  | 24 => .int
  | 25 => .int
  | 26 => .int
  | 27 => .array .int
  | 28 => .array .int
  | 29 => .int
  | 30 => .int
  | _ => .int
abbrev wsX90 : List Cond := u_ws RX9 TX9 32
theorem nmX9 : ∀ a, a < 32 → ∀ b, b < 32 → a ≠ b → (TX9 a).2.1 ≠ (TX9 b).2.1 := by decide +kernel
theorem tyX9_ok : ∀ k, k < 32 → parseFieldDescriptor (TX9 k).2.2.1 = some (tyX9 k) := by decide +kernel
abbrev cX9_init : ByteArray := prog_11_method_1_code
def yX9_init : MethodName := ⟨RX9, "<init>", "()V"⟩
abbrev cX9_in : ByteArray := prog_11_method_3_code
def yX9_in : MethodName := ⟨RX9, "in", "(JJJ)Z"⟩
abbrev cX9_has : ByteArray := prog_11_method_4_code
def yX9_has : MethodName := ⟨RX9, "has", "(II)Z"⟩
abbrev cX9_ones : ByteArray := prog_11_method_5_code
def yX9_ones : MethodName := ⟨RX9, "ones", "(I)I"⟩
abbrev cX9_power : ByteArray := prog_11_method_6_code
def yX9_power : MethodName := ⟨RX9, "power", "(II)I"⟩
abbrev cX9_clearChoices : ByteArray := prog_11_method_7_code
def yX9_clearChoices : MethodName := ⟨RX9, "clearChoices", "([I)V"⟩
abbrev cX9_lay : ByteArray := prog_11_method_8_code
def yX9_lay : MethodName := ⟨RX9, "lay", "([I[I)V"⟩
abbrev cX9_noRouter : ByteArray := prog_11_method_9_code
def yX9_noRouter : MethodName := ⟨RX9, "noRouter", "(I)Z"⟩
abbrev cX9_noExit : ByteArray := prog_11_method_10_code
def yX9_noExit : MethodName := ⟨RX9, "noExit", "(I)Z"⟩
abbrev cX9_pair : ByteArray := prog_11_method_11_code
def yX9_pair : MethodName := ⟨RX9, "pair", "(III)I"⟩
abbrev cX9_write : ByteArray := prog_11_method_12_code
def yX9_write : MethodName := ⟨RX9, "write", "(I)I"⟩
abbrev cX9_wipe : ByteArray := prog_11_method_13_code
def yX9_wipe : MethodName := ⟨RX9, "wipe", "()I"⟩
abbrev cX9_figure : ByteArray := prog_11_method_14_code
def yX9_figure : MethodName := ⟨RX9, "figure", "(II)I"⟩
abbrev cX9_apart : ByteArray := prog_11_method_15_code
def yX9_apart : MethodName := ⟨RX9, "apart", "(II)I"⟩
abbrev cX9_isAnyApart : ByteArray := prog_11_method_16_code
def yX9_isAnyApart : MethodName := ⟨RX9, "isAnyApart", "(I)Z"⟩
abbrev cX9_readTwo : ByteArray := prog_11_method_17_code
def yX9_readTwo : MethodName := ⟨RX9, "readTwo", "(I)Z"⟩
abbrev cX9_readLink : ByteArray := prog_11_method_18_code
def yX9_readLink : MethodName := ⟨RX9, "readLink", "()Z"⟩
abbrev cX9_readSession : ByteArray := prog_11_method_19_code
def yX9_readSession : MethodName := ⟨RX9, "readSession", "(Z)Z"⟩
abbrev cX9_readExit : ByteArray := prog_11_method_20_code
def yX9_readExit : MethodName := ⟨RX9, "readExit", "()Z"⟩
abbrev cX9_readPart : ByteArray := prog_11_method_21_code
def yX9_readPart : MethodName := ⟨RX9, "readPart", "()Z"⟩
abbrev cX9_readDomain : ByteArray := prog_11_method_22_code
def yX9_readDomain : MethodName := ⟨RX9, "readDomain", "()I"⟩
abbrev cX9_fault : ByteArray := prog_11_method_23_code
def yX9_fault : MethodName := ⟨RX9, "fault", "()I"⟩
abbrev cX9_domain : ByteArray := prog_11_method_24_code
def yX9_domain : MethodName := ⟨RX9, "domain", "()I"⟩
abbrev cX9_layCosts : ByteArray := prog_11_method_25_code
def yX9_layCosts : MethodName := ⟨RX9, "layCosts", "([I)V"⟩
abbrev cX9_link : ByteArray := prog_11_method_26_code
def yX9_link : MethodName := ⟨RX9, "link", "(III)I"⟩
abbrev cX9_session : ByteArray := prog_11_method_27_code
def yX9_session : MethodName := ⟨RX9, "session", "(II)I"⟩
abbrev cX9_exitOf : ByteArray := prog_11_method_28_code
def yX9_exitOf : MethodName := ⟨RX9, "exitOf", "([III)I"⟩
abbrev cX9_exit : ByteArray := prog_11_method_29_code
def yX9_exit : MethodName := ⟨RX9, "exit", "(II)I"⟩
abbrev cX9_at : ByteArray := prog_11_method_30_code
def yX9_at : MethodName := ⟨RX9, "at", "(II)I"⟩
abbrev cX9_isTold : ByteArray := prog_11_method_31_code
def yX9_isTold : MethodName := ⟨RX9, "isTold", "([IIII)Z"⟩
abbrev cX9_hear : ByteArray := prog_11_method_32_code
def yX9_hear : MethodName := ⟨RX9, "hear", "(III)V"⟩
abbrev cX9_gather : ByteArray := prog_11_method_33_code
def yX9_gather : MethodName := ⟨RX9, "gather", "([II)V"⟩
abbrev cX9_weighed : ByteArray := prog_11_method_34_code
def yX9_weighed : MethodName := ⟨RX9, "weighed", "([IIII)I"⟩
abbrev cX9_leave : ByteArray := prog_11_method_35_code
def yX9_leave : MethodName := ⟨RX9, "leave", "([IIII)I"⟩
abbrev cX9_leaveByNeighbours : ByteArray := prog_11_method_36_code
def yX9_leaveByNeighbours : MethodName := ⟨RX9, "leaveByNeighbours", "([II)I"⟩
abbrev cX9_best : ByteArray := prog_11_method_37_code
def yX9_best : MethodName := ⟨RX9, "best", "([III)I"⟩
abbrev cX9_gathered : ByteArray := prog_11_method_38_code
def yX9_gathered : MethodName := ⟨RX9, "gathered", "()I"⟩
abbrev cX9_putTaken : ByteArray := prog_11_method_39_code
def yX9_putTaken : MethodName := ⟨RX9, "putTaken", "(II)V"⟩
abbrev cX9_take : ByteArray := prog_11_method_40_code
def yX9_take : MethodName := ⟨RX9, "take", "([II)V"⟩
abbrev cX9_putChoices : ByteArray := prog_11_method_41_code
def yX9_putChoices : MethodName := ⟨RX9, "putChoices", "([II)Z"⟩
abbrev cX9_stepOn : ByteArray := prog_11_method_42_code
def yX9_stepOn : MethodName := ⟨RX9, "stepOn", "([II)Z"⟩
abbrev cX9_roundOn : ByteArray := prog_11_method_43_code
def yX9_roundOn : MethodName := ⟨RX9, "roundOn", "([I)I"⟩
abbrev cX9_note : ByteArray := prog_11_method_44_code
def yX9_note : MethodName := ⟨RX9, "note", "()V"⟩
abbrev cX9_step : ByteArray := prog_11_method_45_code
def yX9_step : MethodName := ⟨RX9, "step", "(I)I"⟩
abbrev cX9_round : ByteArray := prog_11_method_46_code
def yX9_round : MethodName := ⟨RX9, "round", "()I"⟩
abbrev cX9_setLink : ByteArray := prog_11_method_47_code
def yX9_setLink : MethodName := ⟨RX9, "setLink", "(III)I"⟩
abbrev cX9_turn : ByteArray := prog_11_method_48_code
def yX9_turn : MethodName := ⟨RX9, "turn", "(I)I"⟩
abbrev cX9_weigh : ByteArray := prog_11_method_49_code
def yX9_weigh : MethodName := ⟨RX9, "weigh", "(II)I"⟩
abbrev cX9_addOn : ByteArray := prog_11_method_50_code
def yX9_addOn : MethodName := ⟨RX9, "addOn", "([II)V"⟩
abbrev cX9_add : ByteArray := prog_11_method_51_code
def yX9_add : MethodName := ⟨RX9, "add", "(I)I"⟩
abbrev cX9_setMode : ByteArray := prog_11_method_52_code
def yX9_setMode : MethodName := ⟨RX9, "setMode", "(I)I"⟩
abbrev cX9_undo : ByteArray := prog_11_method_53_code
def yX9_undo : MethodName := ⟨RX9, "undo", "()I"⟩
abbrev cX9_choice : ByteArray := prog_11_method_54_code
def yX9_choice : MethodName := ⟨RX9, "choice", "(III)I"⟩
abbrev cX9_heard : ByteArray := prog_11_method_55_code
def yX9_heard : MethodName := ⟨RX9, "heard", "(I)I"⟩
abbrev cX9_tells : ByteArray := prog_11_method_56_code
def yX9_tells : MethodName := ⟨RX9, "tells", "(II)I"⟩
abbrev cX9_mesh : ByteArray := prog_11_method_57_code
def yX9_mesh : MethodName := ⟨RX9, "mesh", "(I)I"⟩
abbrev cX9_leaveFrom : ByteArray := prog_11_method_58_code
def yX9_leaveFrom : MethodName := ⟨RX9, "leaveFrom", "([II)I"⟩
abbrev cX9_leaves : ByteArray := prog_11_method_59_code
def yX9_leaves : MethodName := ⟨RX9, "leaves", "(II)I"⟩
abbrev cX9_noteState : ByteArray := prog_11_method_60_code
def yX9_noteState : MethodName := ⟨RX9, "noteState", "([II)V"⟩
abbrev cX9_areSame : ByteArray := prog_11_method_61_code
def yX9_areSame : MethodName := ⟨RX9, "areSame", "(II)Z"⟩
abbrev cX9_runOn : ByteArray := prog_11_method_62_code
def yX9_runOn : MethodName := ⟨RX9, "runOn", "([I)V"⟩
abbrev cX9_told : ByteArray := prog_11_method_63_code
def yX9_told : MethodName := ⟨RX9, "told", "([I)I"⟩
abbrev cX9_rests : ByteArray := prog_11_method_64_code
def yX9_rests : MethodName := ⟨RX9, "rests", "(II)Z"⟩
abbrev cX9_run : ByteArray := prog_11_method_65_code
def yX9_run : MethodName := ⟨RX9, "run", "(II)I"⟩
abbrev cX9_restsBy : ByteArray := prog_11_method_66_code
def yX9_restsBy : MethodName := ⟨RX9, "restsBy", "(I)Z"⟩
abbrev cX9_isOrder : ByteArray := prog_11_method_67_code
def yX9_isOrder : MethodName := ⟨RX9, "isOrder", "(I)Z"⟩
abbrev cX9_orders : ByteArray := prog_11_method_68_code
def yX9_orders : MethodName := ⟨RX9, "orders", "(I)I"⟩
abbrev cX9_healed : ByteArray := prog_11_method_69_code
def yX9_healed : MethodName := ⟨RX9, "healed", "(I)I"⟩
abbrev cX9_longPower : ByteArray := prog_11_method_70_code
def yX9_longPower : MethodName := ⟨RX9, "longPower", "(JI)J"⟩
abbrev cX9_runsToRest : ByteArray := prog_11_method_71_code
def yX9_runsToRest : MethodName := ⟨RX9, "runsToRest", "()Z"⟩
abbrev cX9_does : ByteArray := prog_11_method_72_code
def yX9_does : MethodName := ⟨RX9, "does", "(I)Z"⟩
abbrev cX9_judge : ByteArray := prog_11_method_73_code
def yX9_judge : MethodName := ⟨RX9, "judge", "(IJ)I"⟩
abbrev cX9_see : ByteArray := prog_11_method_74_code
def yX9_see : MethodName := ⟨RX9, "see", "(III)I"⟩
abbrev cX9_unsee : ByteArray := prog_11_method_75_code
def yX9_unsee : MethodName := ⟨RX9, "unsee", "()I"⟩
abbrev cX9_agrees : ByteArray := prog_11_method_76_code
def yX9_agrees : MethodName := ⟨RX9, "agrees", "(I)Z"⟩
abbrev cX9_which : ByteArray := prog_11_method_77_code
def yX9_which : MethodName := ⟨RX9, "which", "()I"⟩
abbrev cX9_divisor : ByteArray := prog_11_method_78_code
def yX9_divisor : MethodName := ⟨RX9, "divisor", "(II)I"⟩
abbrev cX9_fraction : ByteArray := prog_11_method_79_code
def yX9_fraction : MethodName := ⟨RX9, "fraction", "(IIZ)I"⟩
abbrev cX9_factorial : ByteArray := prog_11_method_80_code
def yX9_factorial : MethodName := ⟨RX9, "factorial", "(I)I"⟩
abbrev cX9_unlikeBy : ByteArray := prog_11_method_81_code
def yX9_unlikeBy : MethodName := ⟨RX9, "unlikeBy", "(I)I"⟩
abbrev cX9_share : ByteArray := prog_11_method_82_code
def yX9_share : MethodName := ⟨RX9, "share", "(IZ)I"⟩
abbrev cX9_lost : ByteArray := prog_11_method_83_code
def yX9_lost : MethodName := ⟨RX9, "lost", "(IZ)I"⟩
abbrev cX9_seed : ByteArray := prog_11_method_84_code
def yX9_seed : MethodName := ⟨RX9, "seed", "(J)J"⟩
abbrev cX9_drawn : ByteArray := prog_11_method_85_code
def yX9_drawn : MethodName := ⟨RX9, "drawn", "(I)I"⟩
abbrev cX9_keep : ByteArray := prog_11_method_86_code
def yX9_keep : MethodName := ⟨RX9, "keep", "(I)I"⟩
abbrev cX9_again : ByteArray := prog_11_method_87_code
def yX9_again : MethodName := ⟨RX9, "again", "(I)I"⟩
abbrev cX9_joined : ByteArray := prog_11_method_88_code
def yX9_joined : MethodName := ⟨RX9, "joined", "(I)I"⟩
abbrev cX9_withFirst : ByteArray := prog_11_method_89_code
def yX9_withFirst : MethodName := ⟨RX9, "withFirst", "()I"⟩
abbrev cX9_count : ByteArray := prog_11_method_90_code
def yX9_count : MethodName := ⟨RX9, "count", "(I)I"⟩
def RL : String := "HiddenExitsLaw"
abbrev cL_law : ByteArray := code
def yL_law : MethodName := ⟨RL, "law", "([I)Z"⟩
abbrev vwCl : List vw_C := [(RX0, TX0, 4), (RX1, TX1, 6), (RX2, TX2, 3), (RX3, TX3, 8), (RX4, TX4, 12), (RX5, TX5, 4), (RX6, TX6, 9), (RX7, TX7, 6), (RX8, TX8, 11), (RX9, TX9, 32)]
/-- who calls: by number -/
def zn_own : Nat → String
  | 0 => "HiddenExits$Course"
  | 1 => "HiddenExits$Passes"
  | 2 => "HiddenExits$Past"
  | 3 => "HiddenExits$Plan"
  | 4 => "HiddenExits$Script"
  | 5 => "HiddenExits$Sightings"
  | 6 => "HiddenExits$Simulator"
  | 7 => "HiddenExits$State"
  | 8 => "HiddenExits"
  | 9 => "HiddenExitsModel"
  | 10 => "HiddenExitsLaw"
  | 11 => "java/lang/Integer"
  | 12 => "java/lang/Math"
  | _ => "java/util/Arrays"
def zn_nf : Nat → Nat
  | 0 => 4
  | 1 => 6
  | 2 => 3
  | 3 => 8
  | 4 => 12
  | 5 => 4
  | 6 => 9
  | 7 => 6
  | 8 => 11
  | _ => 32
def zn_ftl : List (List Nat) := [[0, 0, 0, 2], [0, 0, 0, 2, 2, 2], [0, 0, 2], [0, 0, 2, 2, 2, 2, 2, 2], [2, 0, 0, 0, 0, 2, 2, 2, 2, 2, 2, 0], [0, 2, 2, 2], [2, 2, 2, 0, 2, 2, 2, 2, 2], [2, 2, 2, 0, 0, 0], [2, 2, 2, 2, 2, 2, 2, 2, 2, 2, 1], [0, 2, 0, 0, 0, 2, 2, 2, 2, 2, 0, 2, 2, 0, 2, 2, 2, 1, 2, 2, 2, 2, 2, 2, 0, 0, 0, 2, 2, 0, 0, 0]]
def zn_ft (c k : Nat) : Nat := (zn_ftl.getD c []).getD k 0
def zn_ty : Nat → Nat → FieldType
  | 0 => tyX0
  | 1 => tyX1
  | 2 => tyX2
  | 3 => tyX3
  | 4 => tyX4
  | 5 => tyX5
  | 6 => tyX6
  | 7 => tyX7
  | 8 => tyX8
  | _ => tyX9
def zn_T : Nat → u_T
  | 0 => TX0
  | 1 => TX1
  | 2 => TX2
  | 3 => TX3
  | 4 => TX4
  | 5 => TX5
  | 6 => TX6
  | 7 => TX7
  | 8 => TX8
  | _ => TX9
end
section
theorem zw_c0 : ∀ w ∈ u_ws RX0 TX0 4, w ∈ zgw := by
  intro w hw
  obtain ⟨k, hk, rfl⟩ := List.mem_map.mp hw
  have hk := List.mem_range.mp hk
  have key : ∀ k, k < 4 → u_lay RX0 TX0 k ∈ tables_1 ∧ goodWord (u_lay RX0 TX0 k) = true := by
    intro k hk
    match k, hk with
    | 0, _ => exact ⟨List.mem_of_getElem? (i := 236) (by decide +kernel), rfl⟩
    | 1, _ => exact ⟨List.mem_of_getElem? (i := 238) (by decide +kernel), rfl⟩
    | 2, _ => exact ⟨List.mem_of_getElem? (i := 240) (by decide +kernel), rfl⟩
    | 3, _ => exact ⟨List.mem_of_getElem? (i := 242) (by decide +kernel), rfl⟩
    | k + 4, h => exact absurd h (by omega)
  exact zgw_of (key k hk).1 (key k hk).2
theorem zw_c1 : ∀ w ∈ u_ws RX1 TX1 6, w ∈ zgw := by
  intro w hw
  obtain ⟨k, hk, rfl⟩ := List.mem_map.mp hw
  have hk := List.mem_range.mp hk
  have key : ∀ k, k < 6 → u_lay RX1 TX1 k ∈ tables_1 ∧ goodWord (u_lay RX1 TX1 k) = true := by
    intro k hk
    match k, hk with
    | 0, _ => exact ⟨List.mem_of_getElem? (i := 260) (by decide +kernel), rfl⟩
    | 1, _ => exact ⟨List.mem_of_getElem? (i := 262) (by decide +kernel), rfl⟩
    | 2, _ => exact ⟨List.mem_of_getElem? (i := 264) (by decide +kernel), rfl⟩
    | 3, _ => exact ⟨List.mem_of_getElem? (i := 266) (by decide +kernel), rfl⟩
    | 4, _ => exact ⟨List.mem_of_getElem? (i := 268) (by decide +kernel), rfl⟩
    | 5, _ => exact ⟨List.mem_of_getElem? (i := 270) (by decide +kernel), rfl⟩
    | k + 6, h => exact absurd h (by omega)
  exact zgw_of (key k hk).1 (key k hk).2
theorem zw_c2 : ∀ w ∈ u_ws RX2 TX2 3, w ∈ zgw := by
  intro w hw
  obtain ⟨k, hk, rfl⟩ := List.mem_map.mp hw
  have hk := List.mem_range.mp hk
  have key : ∀ k, k < 3 → u_lay RX2 TX2 k ∈ tables_1 ∧ goodWord (u_lay RX2 TX2 k) = true := by
    intro k hk
    match k, hk with
    | 0, _ => exact ⟨List.mem_of_getElem? (i := 286) (by decide +kernel), rfl⟩
    | 1, _ => exact ⟨List.mem_of_getElem? (i := 288) (by decide +kernel), rfl⟩
    | 2, _ => exact ⟨List.mem_of_getElem? (i := 290) (by decide +kernel), rfl⟩
    | k + 3, h => exact absurd h (by omega)
  exact zgw_of (key k hk).1 (key k hk).2
theorem zw_c3 : ∀ w ∈ u_ws RX3 TX3 8, w ∈ zgw := by
  intro w hw
  obtain ⟨k, hk, rfl⟩ := List.mem_map.mp hw
  have hk := List.mem_range.mp hk
  have key : ∀ k, k < 8 → u_lay RX3 TX3 k ∈ tables_1 ∧ goodWord (u_lay RX3 TX3 k) = true := by
    intro k hk
    match k, hk with
    | 0, _ => exact ⟨List.mem_of_getElem? (i := 105) (by decide +kernel), rfl⟩
    | 1, _ => exact ⟨List.mem_of_getElem? (i := 107) (by decide +kernel), rfl⟩
    | 2, _ => exact ⟨List.mem_of_getElem? (i := 109) (by decide +kernel), rfl⟩
    | 3, _ => exact ⟨List.mem_of_getElem? (i := 111) (by decide +kernel), rfl⟩
    | 4, _ => exact ⟨List.mem_of_getElem? (i := 113) (by decide +kernel), rfl⟩
    | 5, _ => exact ⟨List.mem_of_getElem? (i := 115) (by decide +kernel), rfl⟩
    | 6, _ => exact ⟨List.mem_of_getElem? (i := 117) (by decide +kernel), rfl⟩
    | 7, _ => exact ⟨List.mem_of_getElem? (i := 119) (by decide +kernel), rfl⟩
    | k + 8, h => exact absurd h (by omega)
  exact zgw_of (key k hk).1 (key k hk).2
theorem zw_c4 : ∀ w ∈ u_ws RX4 TX4 12, w ∈ zgw := by
  intro w hw
  obtain ⟨k, hk, rfl⟩ := List.mem_map.mp hw
  have hk := List.mem_range.mp hk
  have key : ∀ k, k < 12 → u_lay RX4 TX4 k ∈ tables_1 ∧ goodWord (u_lay RX4 TX4 k) = true := by
    intro k hk
    match k, hk with
    | 0, _ => exact ⟨List.mem_of_getElem? (i := 53) (by decide +kernel), rfl⟩
    | 1, _ => exact ⟨List.mem_of_getElem? (i := 55) (by decide +kernel), rfl⟩
    | 2, _ => exact ⟨List.mem_of_getElem? (i := 57) (by decide +kernel), rfl⟩
    | 3, _ => exact ⟨List.mem_of_getElem? (i := 59) (by decide +kernel), rfl⟩
    | 4, _ => exact ⟨List.mem_of_getElem? (i := 61) (by decide +kernel), rfl⟩
    | 5, _ => exact ⟨List.mem_of_getElem? (i := 63) (by decide +kernel), rfl⟩
    | 6, _ => exact ⟨List.mem_of_getElem? (i := 65) (by decide +kernel), rfl⟩
    | 7, _ => exact ⟨List.mem_of_getElem? (i := 67) (by decide +kernel), rfl⟩
    | 8, _ => exact ⟨List.mem_of_getElem? (i := 69) (by decide +kernel), rfl⟩
    | 9, _ => exact ⟨List.mem_of_getElem? (i := 71) (by decide +kernel), rfl⟩
    | 10, _ => exact ⟨List.mem_of_getElem? (i := 73) (by decide +kernel), rfl⟩
    | 11, _ => exact ⟨List.mem_of_getElem? (i := 75) (by decide +kernel), rfl⟩
    | k + 12, h => exact absurd h (by omega)
  exact zgw_of (key k hk).1 (key k hk).2
theorem zw_c5 : ∀ w ∈ u_ws RX5 TX5 4, w ∈ zgw := by
  intro w hw
  obtain ⟨k, hk, rfl⟩ := List.mem_map.mp hw
  have hk := List.mem_range.mp hk
  have key : ∀ k, k < 4 → u_lay RX5 TX5 k ∈ tables_1 ∧ goodWord (u_lay RX5 TX5 k) = true := by
    intro k hk
    match k, hk with
    | 0, _ => exact ⟨List.mem_of_getElem? (i := 306) (by decide +kernel), rfl⟩
    | 1, _ => exact ⟨List.mem_of_getElem? (i := 308) (by decide +kernel), rfl⟩
    | 2, _ => exact ⟨List.mem_of_getElem? (i := 310) (by decide +kernel), rfl⟩
    | 3, _ => exact ⟨List.mem_of_getElem? (i := 312) (by decide +kernel), rfl⟩
    | k + 4, h => exact absurd h (by omega)
  exact zgw_of (key k hk).1 (key k hk).2
theorem zw_c6 : ∀ w ∈ u_ws RX6 TX6 9, w ∈ zgw := by
  intro w hw
  obtain ⟨k, hk, rfl⟩ := List.mem_map.mp hw
  have hk := List.mem_range.mp hk
  have key : ∀ k, k < 9 → u_lay RX6 TX6 k ∈ tables_1 ∧ goodWord (u_lay RX6 TX6 k) = true := by
    intro k hk
    match k, hk with
    | 0, _ => exact ⟨List.mem_of_getElem? (i := 204) (by decide +kernel), rfl⟩
    | 1, _ => exact ⟨List.mem_of_getElem? (i := 206) (by decide +kernel), rfl⟩
    | 2, _ => exact ⟨List.mem_of_getElem? (i := 208) (by decide +kernel), rfl⟩
    | 3, _ => exact ⟨List.mem_of_getElem? (i := 210) (by decide +kernel), rfl⟩
    | 4, _ => exact ⟨List.mem_of_getElem? (i := 212) (by decide +kernel), rfl⟩
    | 5, _ => exact ⟨List.mem_of_getElem? (i := 214) (by decide +kernel), rfl⟩
    | 6, _ => exact ⟨List.mem_of_getElem? (i := 216) (by decide +kernel), rfl⟩
    | 7, _ => exact ⟨List.mem_of_getElem? (i := 218) (by decide +kernel), rfl⟩
    | 8, _ => exact ⟨List.mem_of_getElem? (i := 220) (by decide +kernel), rfl⟩
    | k + 9, h => exact absurd h (by omega)
  exact zgw_of (key k hk).1 (key k hk).2
theorem zw_c7 : ∀ w ∈ u_ws RX7 TX7 6, w ∈ zgw := by
  intro w hw
  obtain ⟨k, hk, rfl⟩ := List.mem_map.mp hw
  have hk := List.mem_range.mp hk
  have key : ∀ k, k < 6 → u_lay RX7 TX7 k ∈ tables_1 ∧ goodWord (u_lay RX7 TX7 k) = true := by
    intro k hk
    match k, hk with
    | 0, _ => exact ⟨List.mem_of_getElem? (i := 152) (by decide +kernel), rfl⟩
    | 1, _ => exact ⟨List.mem_of_getElem? (i := 154) (by decide +kernel), rfl⟩
    | 2, _ => exact ⟨List.mem_of_getElem? (i := 156) (by decide +kernel), rfl⟩
    | 3, _ => exact ⟨List.mem_of_getElem? (i := 158) (by decide +kernel), rfl⟩
    | 4, _ => exact ⟨List.mem_of_getElem? (i := 160) (by decide +kernel), rfl⟩
    | 5, _ => exact ⟨List.mem_of_getElem? (i := 162) (by decide +kernel), rfl⟩
    | k + 6, h => exact absurd h (by omega)
  exact zgw_of (key k hk).1 (key k hk).2
theorem zw_c8 : ∀ w ∈ u_ws RX8 TX8 11, w ∈ zgw := by
  intro w hw
  obtain ⟨k, hk, rfl⟩ := List.mem_map.mp hw
  have hk := List.mem_range.mp hk
  have key : ∀ k, k < 11 → u_lay RX8 TX8 k ∈ tables_1 ∧ goodWord (u_lay RX8 TX8 k) = true := by
    intro k hk
    match k, hk with
    | 0, _ => exact ⟨List.mem_of_getElem? (i := 327) (by decide +kernel), rfl⟩
    | 1, _ => exact ⟨List.mem_of_getElem? (i := 329) (by decide +kernel), rfl⟩
    | 2, _ => exact ⟨List.mem_of_getElem? (i := 331) (by decide +kernel), rfl⟩
    | 3, _ => exact ⟨List.mem_of_getElem? (i := 333) (by decide +kernel), rfl⟩
    | 4, _ => exact ⟨List.mem_of_getElem? (i := 335) (by decide +kernel), rfl⟩
    | 5, _ => exact ⟨List.mem_of_getElem? (i := 337) (by decide +kernel), rfl⟩
    | 6, _ => exact ⟨List.mem_of_getElem? (i := 339) (by decide +kernel), rfl⟩
    | 7, _ => exact ⟨List.mem_of_getElem? (i := 341) (by decide +kernel), rfl⟩
    | 8, _ => exact ⟨List.mem_of_getElem? (i := 343) (by decide +kernel), rfl⟩
    | 9, _ => exact ⟨List.mem_of_getElem? (i := 345) (by decide +kernel), rfl⟩
    | 10, _ => exact ⟨List.mem_of_getElem? (i := 347) (by decide +kernel), rfl⟩
    | k + 11, h => exact absurd h (by omega)
  exact zgw_of (key k hk).1 (key k hk).2
theorem zw_c9 : ∀ w ∈ u_ws RX9 TX9 32, w ∈ zgw := by
  intro w hw
  obtain ⟨k, hk, rfl⟩ := List.mem_map.mp hw
  have hk := List.mem_range.mp hk
  have key : ∀ k, k < 32 → u_lay RX9 TX9 k ∈ tables_1 ∧ goodWord (u_lay RX9 TX9 k) = true := by
    intro k hk
    match k, hk with
    | 0, _ => exact ⟨List.mem_of_getElem? (i := 884) (by decide +kernel), rfl⟩
    | 1, _ => exact ⟨List.mem_of_getElem? (i := 886) (by decide +kernel), rfl⟩
    | 2, _ => exact ⟨List.mem_of_getElem? (i := 888) (by decide +kernel), rfl⟩
    | 3, _ => exact ⟨List.mem_of_getElem? (i := 890) (by decide +kernel), rfl⟩
    | 4, _ => exact ⟨List.mem_of_getElem? (i := 892) (by decide +kernel), rfl⟩
    | 5, _ => exact ⟨List.mem_of_getElem? (i := 894) (by decide +kernel), rfl⟩
    | 6, _ => exact ⟨List.mem_of_getElem? (i := 896) (by decide +kernel), rfl⟩
    | 7, _ => exact ⟨List.mem_of_getElem? (i := 898) (by decide +kernel), rfl⟩
    | 8, _ => exact ⟨List.mem_of_getElem? (i := 900) (by decide +kernel), rfl⟩
    | 9, _ => exact ⟨List.mem_of_getElem? (i := 902) (by decide +kernel), rfl⟩
    | 10, _ => exact ⟨List.mem_of_getElem? (i := 904) (by decide +kernel), rfl⟩
    | 11, _ => exact ⟨List.mem_of_getElem? (i := 906) (by decide +kernel), rfl⟩
    | 12, _ => exact ⟨List.mem_of_getElem? (i := 908) (by decide +kernel), rfl⟩
    | 13, _ => exact ⟨List.mem_of_getElem? (i := 910) (by decide +kernel), rfl⟩
    | 14, _ => exact ⟨List.mem_of_getElem? (i := 912) (by decide +kernel), rfl⟩
    | 15, _ => exact ⟨List.mem_of_getElem? (i := 914) (by decide +kernel), rfl⟩
    | 16, _ => exact ⟨List.mem_of_getElem? (i := 916) (by decide +kernel), rfl⟩
    | 17, _ => exact ⟨List.mem_of_getElem? (i := 918) (by decide +kernel), rfl⟩
    | 18, _ => exact ⟨List.mem_of_getElem? (i := 920) (by decide +kernel), rfl⟩
    | 19, _ => exact ⟨List.mem_of_getElem? (i := 922) (by decide +kernel), rfl⟩
    | 20, _ => exact ⟨List.mem_of_getElem? (i := 924) (by decide +kernel), rfl⟩
    | 21, _ => exact ⟨List.mem_of_getElem? (i := 926) (by decide +kernel), rfl⟩
    | 22, _ => exact ⟨List.mem_of_getElem? (i := 928) (by decide +kernel), rfl⟩
    | 23, _ => exact ⟨List.mem_of_getElem? (i := 930) (by decide +kernel), rfl⟩
    | 24, _ => exact ⟨List.mem_of_getElem? (i := 932) (by decide +kernel), rfl⟩
    | 25, _ => exact ⟨List.mem_of_getElem? (i := 934) (by decide +kernel), rfl⟩
    | 26, _ => exact ⟨List.mem_of_getElem? (i := 936) (by decide +kernel), rfl⟩
    | 27, _ => exact ⟨List.mem_of_getElem? (i := 938) (by decide +kernel), rfl⟩
    | 28, _ => exact ⟨List.mem_of_getElem? (i := 940) (by decide +kernel), rfl⟩
    | 29, _ => exact ⟨List.mem_of_getElem? (i := 942) (by decide +kernel), rfl⟩
    | 30, _ => exact ⟨List.mem_of_getElem? (i := 944) (by decide +kernel), rfl⟩
    | 31, _ => exact ⟨List.mem_of_getElem? (i := 946) (by decide +kernel), rfl⟩
    | k + 32, h => exact absurd h (by omega)
  exact zgw_of (key k hk).1 (key k hk).2
end
section
/-! ===== what the machine's memory is in the heap ===== -/
theorem zn_cls {ci : Nat} (h : ci < 10) : vwCl[ci]? = some (zn_own ci, zn_T ci, zn_nf ci) := by
  match ci, h with
  | 0, _ => rfl
  | 1, _ => rfl
  | 2, _ => rfl
  | 3, _ => rfl
  | 4, _ => rfl
  | 5, _ => rfl
  | 6, _ => rfl
  | 7, _ => rfl
  | 8, _ => rfl
  | 9, _ => rfl
  | k + 10, h => exact absurd h (by omega)
theorem zn_words {ci : Nat} (h : ci < 10) : ∀ w ∈ u_ws (zn_own ci) (zn_T ci) (zn_nf ci), w ∈ zgw := by
  match ci, h with
  | 0, _ => exact zw_c0
  | 1, _ => exact zw_c1
  | 2, _ => exact zw_c2
  | 3, _ => exact zw_c3
  | 4, _ => exact zw_c4
  | 5, _ => exact zw_c5
  | 6, _ => exact zw_c6
  | 7, _ => exact zw_c7
  | 8, _ => exact zw_c8
  | 9, _ => exact zw_c9
  | k + 10, h => exact absurd h (by omega)
theorem zn_parse {ci : Nat} (h : ci < 10) : ∀ k, k < zn_nf ci → parseFieldDescriptor (zn_T ci k).2.2.1 = some (zn_ty ci k) := by
  match ci, h with
  | 0, _ => exact tyX0_ok
  | 1, _ => exact tyX1_ok
  | 2, _ => exact tyX2_ok
  | 3, _ => exact tyX3_ok
  | 4, _ => exact tyX4_ok
  | 5, _ => exact tyX5_ok
  | 6, _ => exact tyX6_ok
  | 7, _ => exact tyX7_ok
  | 8, _ => exact tyX8_ok
  | 9, _ => exact tyX9_ok
  | k + 10, h => exact absurd h (by omega)
theorem zn_diff {ci : Nat} (h : ci < 10) : ∀ a, a < zn_nf ci → ∀ b, b < zn_nf ci → a ≠ b → (zn_T ci a).2.1 ≠ (zn_T ci b).2.1 := by
  match ci, h with
  | 0, _ => exact nmX0
  | 1, _ => exact nmX1
  | 2, _ => exact nmX2
  | 3, _ => exact nmX3
  | 4, _ => exact nmX4
  | 5, _ => exact nmX5
  | 6, _ => exact nmX6
  | 7, _ => exact nmX7
  | 8, _ => exact nmX8
  | 9, _ => exact nmX9
  | k + 10, h => exact absurd h (by omega)
def zn_tyc : FieldType → Nat
  | .int => 0
  | .long => 1
  | .object _ => 2
  | .array _ => 2
  | _ => 9
theorem zn_tys : ∀ ci, ci < 10 → ∀ k, k < zn_nf ci → zn_tyc (zn_ty ci k) = zn_ft ci k := by decide +kernel
theorem zn_decl : ∀ ci, ci < 10 → ∀ k, k < zn_nf ci → (zn_T ci k).1 = zn_own ci := by decide +kernel
/-- addresses: cells from b on; what the script and two static rows are, by x -/
def zv_ad (b : Nat) (x : Nat → Nat) (q : Nat) : Nat := if q < 1000000 then b + q else x q
def zv_vl (b : Nat) (x : Nat → Nat) : Value → Value
  | .ref q => .ref (zv_ad b x q)
  | v => v
def zv_fv (b : Nat) (x : Nat → Nat) (S : zv_S) (D : zv_D) (q k t : Nat) : Value := bif Nat.beq t 0 then .int (D.1 q k) else bif Nat.beq t 1 then .long (D.2 q k) else va_rf ((S.2.2.2 q k).map (zv_ad b x))
def zv_fs (b : Nat) (x : Nat → Nat) (S : zv_S) (D : zv_D) (q ci : Nat) : List Value := (List.range (zn_nf ci)).map fun k => zv_fv b x S D q k (zn_ft ci k)
def zv_ce (b : Nat) (x : Nat → Nat) (cA : Nat → ClassId) (S : zv_S) (D : zv_D) (q : Nat) : va_E :=
  bif Nat.blt (S.2.2.1 q).1 10 then .inr ((S.2.2.1 q).1, zv_fs b x S D q (S.2.2.1 q).1)
  else bif Nat.beq (S.2.2.1 q).1 13 then .inl (cA 13, (S.2.2.1 q).2, .inr (.inr (.inr (.inr fun i => (S.2.2.2 q i).map (zv_ad b x)))))
  else .inl (cA (S.2.2.1 q).1, (S.2.2.1 q).2, .inl (D.1 q))
def zv_ws (b : Nat) (x : Nat → Nat) (cA : Nat → ClassId) (S : zv_S) (D : zv_D) : va_W := (List.range S.1).map fun q => (b + q, zv_ce b x cA S D q)
def zv_wf (S : zv_S) : Prop := S.1 ≤ 1000000 ∧ (∀ q, (S.2.2.1 q).1 < 14 → q < S.1) ∧ (∀ q, (S.2.2.1 q).1 = 21 → q = 1000000) ∧ (∀ q, (S.2.2.1 q).1 = 22 → q = 1000002) ∧ ∀ q, (S.2.2.1 q).1 = 24 → q = 1000001
theorem zv_ws_at (b : Nat) (x : Nat → Nat) (cA : Nat → ClassId) (S : zv_S) (D : zv_D) {q : Nat} (h : q < S.1) : (zv_ws b x cA S D)[q]? = some (b + q, zv_ce b x cA S D q) := by
  unfold zv_ws
  rw [List.getElem?_map, List.getElem?_range h]
  rfl
theorem zv_ws_len (b : Nat) (x : Nat → Nat) (cA : Nat → ClassId) (S : zv_S) (D : zv_D) : (zv_ws b x cA S D).length = S.1 := by
  simp [zv_ws]
theorem zv_ws_D (b : Nat) (x : Nat → Nat) (cA : Nat → ClassId) (S : zv_S) (D : zv_D) : va_D (fun q => b ≤ q) (zv_ws b x cA S D) := by
  have key : ∀ (i : Nat) (p : Nat × va_E), (zv_ws b x cA S D)[i]? = some p → p.1 = b + i := by
    intro i p h
    have hi : i < S.1 := by
      have := (List.getElem?_eq_some_iff.mp h).1
      rwa [zv_ws_len] at this
    rw [zv_ws_at b x cA S D hi] at h
    rw [← Option.some.inj h]
  refine ⟨fun i j p q hi hj e => ?_, fun k q h => ?_⟩
  · have h1 := key i p hi
    have h2 := key j q hj
    omega
  · have h1 := key k q h
    show b ≤ q.1
    omega
/-- one cell is written -/
theorem zv_ws_set (b : Nat) (x : Nat → Nat) (cA : Nat → ClassId) (S S' : zv_S) (D D' : zv_D) {q : Nat} {e : va_E} (hn : S'.1 = S.1) (hq : q < S.1) (he : zv_ce b x cA S' D' q = e) (ho : ∀ j, j ≠ q → zv_ce b x cA S' D' j = zv_ce b x cA S D j) : (zv_ws b x cA S D).set q (b + q, e) = zv_ws b x cA S' D' := by
  apply List.ext_getElem?
  intro j
  by_cases hj : j < S.1
  · by_cases hjq : j = q
    · subst hjq
      rw [List.getElem?_set_self (by rw [zv_ws_len]; exact hj), zv_ws_at b x cA S' D' (by rw [hn]; exact hj), he]
    · rw [List.getElem?_set_ne (fun h => hjq h.symm), zv_ws_at b x cA S D hj, zv_ws_at b x cA S' D' (by rw [hn]; exact hj), ho j hjq]
  · rw [List.getElem?_eq_none (by rw [List.length_set, zv_ws_len]; omega), List.getElem?_eq_none (by rw [zv_ws_len, hn]; omega)]
theorem zv_fs_at (b : Nat) (x : Nat → Nat) (S : zv_S) (D : zv_D) (q ci : Nat) {k : Nat} (h : k < zn_nf ci) : (zv_fs b x S D q ci)[k]? = some (zv_fv b x S D q k (zn_ft ci k)) := by
  unfold zv_fs
  rw [List.getElem?_map, List.getElem?_range h]
  rfl
theorem zv_fs_len (b : Nat) (x : Nat → Nat) (S : zv_S) (D : zv_D) (q ci : Nat) : (zv_fs b x S D q ci).length = zn_nf ci := by
  simp [zv_fs]
theorem zv_fs_set (b : Nat) (x : Nat → Nat) (S S' : zv_S) (D D' : zv_D) (q ci : Nat) {k : Nat} {v : Value} (hk : k < zn_nf ci) (hv : zv_fv b x S' D' q k (zn_ft ci k) = v) (ho : ∀ j, j ≠ k → zv_fv b x S' D' q j (zn_ft ci j) = zv_fv b x S D q j (zn_ft ci j)) : (zv_fs b x S D q ci).set k v = zv_fs b x S' D' q ci := by
  apply List.ext_getElem?
  intro j
  by_cases hj : j < zn_nf ci
  · by_cases hjk : j = k
    · subst hjk
      rw [List.getElem?_set_self (by rw [zv_fs_len]; exact hj), zv_fs_at b x S' D' q ci hj, hv]
    · rw [List.getElem?_set_ne (fun h => hjk h.symm), zv_fs_at b x S D q ci hj, zv_fs_at b x S' D' q ci hj, ho j hjk]
  · rw [List.getElem?_eq_none (by rw [List.length_set, zv_fs_len]; omega), List.getElem?_eq_none (by rw [zv_fs_len]; omega)]
theorem zv_ce_o (b : Nat) (x : Nat → Nat) (cA : Nat → ClassId) (S : zv_S) (D : zv_D) {q ci : Nat} (h : (S.2.2.1 q).1 = ci) (hc : ci < 10) : zv_ce b x cA S D q = .inr (ci, zv_fs b x S D q ci) := by
  unfold zv_ce
  rw [h, show Nat.blt ci 10 = true from by simp [hc]]
  rfl
theorem zv_ce_a (b : Nat) (x : Nat → Nat) (cA : Nat → ClassId) (S : zv_S) (D : zv_D) {q t : Nat} (h : (S.2.2.1 q).1 = t) (h1 : Nat.blt t 10 = false) (h2 : Nat.beq t 13 = false) : zv_ce b x cA S D q = .inl (cA t, (S.2.2.1 q).2, .inl (D.1 q)) := by
  unfold zv_ce
  rw [h, h1, h2]
  rfl
theorem zv_ce_q (b : Nat) (x : Nat → Nat) (cA : Nat → ClassId) (S : zv_S) (D : zv_D) {q : Nat} (h : (S.2.2.1 q).1 = 13) : zv_ce b x cA S D q = .inl (cA 13, (S.2.2.1 q).2, .inr (.inr (.inr (.inr fun i => (S.2.2.2 q i).map (zv_ad b x))))) := by
  unfold zv_ce
  rw [h]
  rfl
/-- a cell is as it was where its ints, longs, references and shape are -/
theorem zv_ce_congr (b : Nat) (x : Nat → Nat) (cA : Nat → ClassId) {S S' : zv_S} {D D' : zv_D} {q : Nat} (h1 : S'.2.2.1 q = S.2.2.1 q) (h2 : S'.2.2.2 q = S.2.2.2 q) (h3 : D'.1 q = D.1 q) (h4 : D'.2 q = D.2 q) : zv_ce b x cA S' D' q = zv_ce b x cA S D q := by
  unfold zv_ce zv_fs zv_fv
  rw [h1, h2, h3, h4]
def zv_ty (cA : Nat → ClassId) : List (ClassId × FieldType) := [(cA 10, .char), (cA 11, .int), (cA 12, .boolean), (cA 13, .object "HiddenExits$State")]
end
section
/-! ===== the locals ===== -/
/-- a value that a place of the list really says -/
def zv_ok (lv : zv_L) (i : Nat) (v : Value) : Prop := zv_at lv i = some v ∧ v ≠ .null ∧ (v.category = 2 → zv_at lv (i + 1) = some .null)
def zv_lr (b : Nat) (x : Nat → Nat) (ls : Array Slot) (nL : Nat) (lv : zv_L) : Prop := ls.size = nL ∧ lv_wf ls ∧ ∀ i v, zv_ok lv i v → ls[i]? = some (.val (zv_vl b x v))
def zv_pr (b : Nat) (x : Nat → Nat) (lv : zv_L) : List (Nat × Value) := (List.range lv.length).filterMap fun i => match zv_at lv i with
  | none => none
  | some v => bif !(decide (v = .null)) && (!(decide (v.category = 2)) || decide (zv_at lv (i + 1) = some .null)) then some (i, zv_vl b x v) else none
theorem zv_at_lt : ∀ (lv : zv_L) (i : Nat) {v : Value}, zv_at lv i = some v → i < lv.length
  | [], _, _, h => by cases h
  | _ :: _, 0, _, _ => Nat.zero_lt_succ _
  | _ :: t, n + 1, _, h => Nat.succ_lt_succ (zv_at_lt t n h)
theorem zv_at_get : ∀ (lv : zv_L) (i : Nat), zv_at lv i = (lv[i]?).getD none
  | [], _ => by simp [zv_at]
  | o :: _, 0 => by simp [zv_at]
  | _ :: t, n + 1 => by simp [zv_at, zv_at_get t n]
theorem zv_at_set (lv : zv_L) (i j : Nat) (o : Option Value) : zv_at (lv.set i o) j = if i = j ∧ i < lv.length then o else zv_at lv j := by
  rw [zv_at_get, zv_at_get]
  by_cases h : i = j
  · subst h
    by_cases hl : i < lv.length
    · rw [if_pos ⟨rfl, hl⟩, List.getElem?_set_self hl]; rfl
    · rw [if_neg (fun q => hl q.2), List.set_eq_of_length_le (by omega)]
  · rw [if_neg (fun q => h q.1), List.getElem?_set_ne h]
theorem zv_pr_mem {b : Nat} {x : Nat → Nat} {lv : zv_L} {i : Nat} {v : Value} (h : zv_ok lv i v) : (i, zv_vl b x v) ∈ zv_pr b x lv := by
  obtain ⟨h1, h2, h3⟩ := h
  refine List.mem_filterMap.mpr ⟨i, List.mem_range.mpr (zv_at_lt lv i h1), ?_⟩
  rw [h1]
  dsimp only
  by_cases hc : v.category = 2
  · simp [h2, hc, h3 hc]
  · simp [h2, hc]
theorem zv_pr_of {b : Nat} {x : Nat → Nat} {lv : zv_L} {q : Nat × Value} (h : q ∈ zv_pr b x lv) : ∃ v, zv_ok lv q.1 v ∧ q.2 = zv_vl b x v := by
  obtain ⟨i, -, h⟩ := List.mem_filterMap.mp h
  cases hv : zv_at lv i with
  | none => rw [hv] at h; cases h
  | some v =>
    rw [hv] at h
    dsimp only at h
    by_cases hb : (!(decide (v = .null)) && (!(decide (v.category = 2)) || decide (zv_at lv (i + 1) = some .null))) = true
    · rw [hb] at h
      have e : (i, zv_vl b x v) = q := Option.some.inj h
      subst e
      simp only [Bool.and_eq_true, Bool.not_eq_true', decide_eq_false_iff_not, Bool.or_eq_true, decide_eq_true_eq] at hb
      exact ⟨v, ⟨hv, hb.1, fun hc => hb.2.resolve_left (fun z => z hc)⟩, rfl⟩
    · rw [Bool.not_eq_true] at hb
      rw [hb] at h
      cases h
theorem zv_lr_has {b : Nat} {x : Nat → Nat} {ls : Array Slot} {nL : Nat} {lv : zv_L} (h : zv_lr b x ls nL lv) : lv_has ls nL (zv_pr b x lv) := by
  refine ⟨h.1, h.2.1, fun q hq => ?_⟩
  obtain ⟨v, hv, e⟩ := zv_pr_of hq
  rw [e]
  exact h.2.2 q.1 v hv
theorem zv_vl_cat (b : Nat) (x : Nat → Nat) (v : Value) : (zv_vl b x v).category = v.category := by cases v <;> rfl
theorem zv_lr_s1 {b : Nat} {x : Nat → Nat} {ls' : Array Slot} {nL i : Nat} {lv : zv_L} {v : Value} (hc : v.category = 1) (hn : v ≠ .null)
    (h : lv_has ls' nL ((i, zv_vl b x v) :: (zv_pr b x lv).filter (fun q => !(q.1 == i) && !(q.1 + 1 == i && q.2.category == 2)))) : zv_lr b x ls' nL (zv_s1 lv i v) := by
  refine ⟨h.1, h.2.1, fun j w hw => ?_⟩
  obtain ⟨h1, h2, h3⟩ := hw
  unfold zv_s1 at h1 h3
  rw [zv_at_set] at h1
  by_cases hj : i = j ∧ i < lv.length
  · rw [if_pos hj] at h1
    obtain ⟨rfl, -⟩ := hj
    cases h1
    exact h.2.2 (i, zv_vl b x v) List.mem_cons_self
  · rw [if_neg hj] at h1
    have hji : ¬ j = i := by
      intro e
      subst e
      exact hj ⟨rfl, zv_at_lt lv j h1⟩
    have hw2 : w.category = 2 → zv_at lv (j + 1) = some .null ∧ ¬ j + 1 = i := by
      intro hc2
      have h4 := h3 hc2
      rw [zv_at_set] at h4
      by_cases hk : i = j + 1 ∧ i < lv.length
      · rw [if_pos hk] at h4
        exact absurd (Option.some.inj h4) hn
      · rw [if_neg hk] at h4
        exact ⟨h4, fun e => hk ⟨e.symm, e ▸ zv_at_lt lv (j + 1) h4⟩⟩
    refine h.2.2 (j, zv_vl b x w) (List.mem_cons_of_mem _ (List.mem_filter.mpr ⟨zv_pr_mem ⟨h1, h2, fun q => (hw2 q).1⟩, ?_⟩))
    dsimp only
    by_cases hc2 : w.category = 2
    · simp [hji, (hw2 hc2).2]
    · simp [hji, zv_vl_cat, hc2]
theorem zv_lr_s2 {b : Nat} {x : Nat → Nat} {ls' : Array Slot} {nL i : Nat} {lv : zv_L} {v : Int64}
    (h : lv_has ls' nL ((i, .long v) :: (zv_pr b x lv).filter (fun q => !(q.1 == i) && (!(q.1 == i + 1) && !(q.1 + 1 == i && q.2.category == 2))))) : zv_lr b x ls' nL (zv_s2 lv i (.long v)) := by
  refine ⟨h.1, h.2.1, fun j w hw => ?_⟩
  obtain ⟨h1, h2, h3⟩ := hw
  unfold zv_s2 at h1 h3
  rw [zv_at_set, zv_at_set, List.length_set] at h1
  by_cases hj1 : i + 1 = j ∧ i + 1 < lv.length
  · rw [if_pos hj1] at h1
    exact absurd (Option.some.inj h1).symm h2
  · rw [if_neg hj1] at h1
    by_cases hj : i = j ∧ i < lv.length
    · rw [if_pos hj] at h1
      obtain ⟨rfl, -⟩ := hj
      cases h1
      exact h.2.2 (i, .long v) List.mem_cons_self
    · rw [if_neg hj] at h1
      have hlt := zv_at_lt lv j h1
      have hji : ¬ j = i := fun e => hj ⟨e.symm, e ▸ hlt⟩
      have hji1 : ¬ j = i + 1 := fun e => hj1 ⟨e.symm, e ▸ hlt⟩
      have hw2 : w.category = 2 → zv_at lv (j + 1) = some .null ∧ ¬ j + 1 = i := by
        intro hc2
        have h4 := h3 hc2
        rw [zv_at_set, zv_at_set, List.length_set] at h4
        rw [if_neg (fun q => hji (by omega))] at h4
        by_cases hk : i = j + 1 ∧ i < lv.length
        · rw [if_pos hk] at h4
          cases h4
        · rw [if_neg hk] at h4
          exact ⟨h4, fun e => hk ⟨e.symm, e ▸ zv_at_lt lv (j + 1) h4⟩⟩
      refine h.2.2 (j, zv_vl b x w) (List.mem_cons_of_mem _ (List.mem_filter.mpr ⟨zv_pr_mem ⟨h1, h2, fun q => (hw2 q).1⟩, ?_⟩))
      dsimp only
      by_cases hc2 : w.category = 2
      · simp [hji, hji1, (hw2 hc2).2]
      · simp [hji, hji1, zv_vl_cat, hc2]
theorem zv_at_rep (n i : Nat) {v : Value} (h : zv_at (List.replicate n none) i = some v) : False := by
  rw [zv_at_get, List.getElem?_replicate] at h
  by_cases hi : i < n
  · rw [if_pos hi] at h; cases h
  · rw [if_neg hi] at h; cases h
theorem zv_en_mem (b : Nat) (x : Nat → Nat) : ∀ (As : List Value) (n k i : Nat) (v : Value), zv_at (zv_en As n) i = some v → v ≠ .null → (k + i, zv_vl b x v) ∈ lv_args k (As.map (zv_vl b x)) := by
  intro As
  induction As with
  | nil => intro n k i v h _; exact (zv_at_rep n i h).elim
  | cons a t ih =>
    have one : ∀ (w : Value), w.category = 1 → ∀ (n k i : Nat) (v : Value), zv_at (some w :: zv_en t (n - 1)) i = some v → v ≠ .null → (k + i, zv_vl b x v) ∈ lv_args k ((w :: t).map (zv_vl b x)) := by
      intro w hw n k i v h hn
      rw [List.map_cons]
      unfold lv_args
      cases i with
      | zero => cases h; exact List.mem_cons_self
      | succ j =>
        refine List.mem_cons_of_mem _ ?_
        rw [if_neg (by rw [zv_vl_cat]; omega)]
        have := ih (n - 1) (k + 1) j v h hn
        rwa [show k + 1 + j = k + (j + 1) by omega] at this
    have two : ∀ (w : Value), w.category = 2 → ∀ (n k i : Nat) (v : Value), zv_at (some w :: some .null :: zv_en t (n - 2)) i = some v → v ≠ .null → (k + i, zv_vl b x v) ∈ lv_args k ((w :: t).map (zv_vl b x)) := by
      intro w hw n k i v h hn
      rw [List.map_cons]
      unfold lv_args
      match i, h with
      | 0, h => cases h; exact List.mem_cons_self
      | 1, h => exact absurd (Option.some.inj h).symm hn
      | j + 2, h =>
        refine List.mem_cons_of_mem _ ?_
        rw [if_pos (by rw [zv_vl_cat]; omega)]
        have := ih (n - 2) (k + 2) j v h hn
        rwa [show k + 2 + j = k + (j + 2) by omega] at this
    cases a with
    | long y => exact two _ rfl
    | double y => exact two _ rfl
    | int y => exact one _ rfl
    | float y => exact one _ rfl
    | null => exact one _ rfl
    | ref y => exact one _ rfl
    | retAddr y => exact one _ rfl
theorem zv_sl_len : ∀ (vs : List Value), (lg_sl vs).length = zv_cs vs
  | [] => rfl
  | v :: t => by
    have e : lg_sl (v :: t) = (if v.category = 2 then [Slot.val v, .second] else [.val v]) ++ lg_sl t := by simp [lg_sl]
    rw [e, List.length_append, zv_sl_len t]
    show _ = v.category + zv_cs t
    rcases lv_cat v with h | h <;> simp [h]
theorem zv_cs_map (b : Nat) (x : Nat → Nat) : ∀ (vs : List Value), zv_cs (vs.map (zv_vl b x)) = zv_cs vs
  | [] => rfl
  | v :: t => by
    rw [List.map_cons]
    show (zv_vl b x v).category + zv_cs (t.map (zv_vl b x)) = v.category + zv_cs t
    rw [zv_vl_cat, zv_cs_map b x t]
theorem zv_cs_sum : ∀ (vs : List Value), (vs.map fun v => v.category).sum = zv_cs vs
  | [] => rfl
  | v :: t => by
    rw [List.map_cons, List.sum_cons, zv_cs_sum t]
    rfl
/-- a method's entry -/
theorem zv_lr_en {b : Nat} {x : Nat → Nat} {As : List Value} {n : Nat} (h : zv_cs As ≤ n) : zv_lr b x ((lg_sl (As.map (zv_vl b x)) ++ List.replicate (n - (lg_sl (As.map (zv_vl b x))).length) Slot.unset).toArray) n (zv_en As n) := by
  have he := lv_entry (As.map (zv_vl b x)) (n := n) (by rw [zv_sl_len, zv_cs_map]; exact h)
  refine ⟨he.1, he.2.1, fun i v hv => ?_⟩
  have := he.2.2 (0 + i, zv_vl b x v) (zv_en_mem b x As n 0 i v hv.1 hv.2.1)
  rwa [Nat.zero_add] at this
end
section
/-! ===== the small machine says what the machine does ===== -/
/-- a method, as the tables have it: name, code, locals, what it returns; arguments, kind of answer, whose it is, how it is called (0 virtual, 1 static, 2 constructor); its rows -/
abbrev zv_Mt : Type := MethodName × ByteArray × Nat × Option FieldType × Nat × Nat × Nat × Nat × List (Nat × List zv_E)
def zv_rm (d mc ms : Nat) : Room := { frames := d, cells := mc, slots := ms, locals := 40 * d }
/-- links to private methods of nest mates -/
def znw : List Cond := tables_1.filter fun w => match w with
  | .methodLinkNest _ _ _ _ => true
  | _ => false
/-- what stays: the tables, the script, two static rows -/
def zv_env (b : Nat) (x : Nat → Nat) (cA : Nat → ClassId) (dD : va_G) (xs : Nat × (Nat → Int32)) (U : State) : Prop :=
  va_K dD vwCl (zv_ty cA) U ∧ va_Z "HiddenExits" "UNITS" "[J" (.ref (x 1000001)) (fun q => b ≤ q) U U.heap ∧ va_T .long (x 1000001) 5 (fun j => .long (zv_un j)) (fun q => b ≤ q) U U.heap ∧
  va_Z "HiddenExits" "FACTORIALS" "[I" (.ref (x 1000002)) (fun q => b ≤ q) U U.heap ∧ va_T .int (x 1000002) 5 (fun j => .int (zv_fa j)) (fun q => b ≤ q) U U.heap ∧
  va_X (x 1000000) xs.1 xs.2 U U.heap ∧ x 1000000 < b ∧ (∀ w ∈ znw, va_Nw w U) ∧ va_AO "HiddenExits$State" U
def zv_H (b : Nat) (x : Nat → Nat) (cA : Nat → ClassId) (dD : va_G) (S : zv_S) (D : zv_D) (H : Heap) : Prop := zv_wf S ∧ va_P dD vwCl (zv_ws b x cA S D) H
/-- a contract's start and end -/
def zv_Pc (b : Nat) (x : Nat → Nat) (cA : Nat → ClassId) (dD : va_G) (xs : Nat × (Nat → Int32)) (As : List Value) (S : zv_S) (D : zv_D) : Array Value → State → Prop := va_Pc (As.map (zv_vl b x)) fun U => U.heap.size = b + S.1 ∧ zv_H b x cA dD S D U.heap ∧ zv_env b x cA dD xs U
def zv_Qc (b : Nat) (x : Nat → Nat) (cA : Nat → ClassId) (dD : va_G) (rk : Nat) (r : zv_R) (S : zv_S) (D : zv_D) : Array Value → State → Outcome → State → Prop := match rk with
  | 0 => va_Qv (fun _ : Unit => True) (fun _ t => zv_H b x cA dD S D t.heap) (fun q => b ≤ q)
  | 1 => va_Qi (fun v (_ : Unit) => v = r.1) (fun _ t => zv_H b x cA dD S D t.heap) (fun q => b ≤ q)
  | 2 => va_Ql (fun v (_ : Unit) => v = r.2.1) (fun _ t => zv_H b x cA dD S D t.heap) (fun q => b ≤ q)
  | _ => va_Qr (fun _ : Unit => True) (fun _ a t => a = zv_ad b x r.2.2 ∧ zv_H b x cA dD S D t.heap) (fun q => b ≤ q)
def zv_wo (mt : zv_Mt) : List Cond := .code mt.1 mt.2.1 mt.2.2.1 mt.2.2.2.1 :: zgw
/-- a method's contract, at arguments and a memory where the small machine answers -/
def zv_ct (l : Launch) (b : Nat) (x : Nat → Nat) (cA : Nat → ClassId) (dD : va_G) (xs : Nat × (Nat → Int32)) (d : Nat) (mt : zv_Mt) (As : List Value) (S : zv_S) (D : zv_D) (o : zv_O) : Prop :=
  S.1 ≤ o.2.1.1 ∧ S.2.1 ≤ o.2.1.2.1 ∧ Met l mt.1 (zv_wo mt) (zv_rm d (o.2.1.1 - S.1) (o.2.1.2.1 - S.2.1)) (zv_Pc b x cA dD xs As S D) (zv_Qc b x cA dD mt.2.2.2.2.2.1 o.1 o.2.1 o.2.2) (o.2.1.1 - S.1) (o.2.1.2.1 - S.2.1) (fun q => b ≤ q)
/-- what the tables say of a method -/
def zv_mok (mt : zv_Mt) : Prop := Cond.code mt.1 mt.2.1 mt.2.2.1 mt.2.2.2.1 ∈ zgw ∧ Cond.initialized mt.1.cls ∈ zgw ∧ plainName mt.1.cls = true ∧ (mt.1.cls ≠ "java/lang/invoke/MethodHandle" ∧ mt.1.cls ≠ "java/lang/invoke/VarHandle") ∧ mt.1.cls = zn_own mt.2.2.2.2.2.2.1 ∧ mt.2.2.1 ≤ 21 ∧
  (match mt.2.2.2.2.2.2.2.1 with
    | 0 => Cond.instanceMethod mt.1 ∈ zgw ∧ Cond.selects mt.1.cls mt.1 mt.1 ∈ zgw ∧ mt.2.2.2.2.2.2.1 < 10 ∧ (parseMethodDescriptor mt.1.desc).map (fun q => q.parameters.length + 1) = some mt.2.2.2.2.1
    | 1 => Cond.static mt.1 ∈ zgw ∧ (parseMethodDescriptor mt.1.desc).map (fun q => q.parameters.length) = some mt.2.2.2.2.1
    | _ => Cond.instanceMethod mt.1 ∈ zgw ∧ mt.1.name = "<init>" ∧ mt.2.2.2.1 = none ∧ mt.2.2.2.2.2.1 = 0 ∧ (parseMethodDescriptor mt.1.desc).map (fun q => q.parameters.length + 1) = some mt.2.2.2.2.1) ∧
  (match mt.2.2.2.2.2.1 with
    | 0 => mt.2.2.2.1 = none
    | 1 => mt.2.2.2.1 = some .int ∨ mt.2.2.2.1 = some .boolean
    | 2 => mt.2.2.2.1 = some .long
    | _ => ∃ C, mt.2.2.2.1 = some (.object C))
end
section
/-! ===== a row for each instruction ===== -/
def zv_C (p : Program) (R : Room) (s : State) (m : MethodId) (args : Array Value) (meth : Method) (c : Code) (cc : ByteArray) (nL on : Nat) (ini : Bool) (b : Nat) (x : Nat → Nat) (cA : Nat → ClassId) (dD : va_G) (xs : Nat × (Nat → Int32)) (d n0 sl0 : Nat) (o : zv_O) : Prop :=
  p.tables.exec = Jvm.exec ∧ c.code = cc ∧ c.maxLocals = nL ∧ s.vm.findClass (zn_own on) = some m.cls ∧ (∀ w ∈ zgw, w.before args s = true) ∧ zv_env b x cA dD xs s ∧ s.heap.size = b + n0 ∧ (ini = true → meth.name = "<init>") ∧ d + 1 ≤ R.frames ∧ 40 * (d + 1) ≤ R.locals ∧ o.2.1.1 - n0 ≤ R.cells ∧ o.2.1.2.1 - sl0 ≤ R.slots
def zv_G (p : Program) (l : Launch) (e : Env) (R : Room) (s : State) (m : MethodId) (args : Array Value) (below : List Frame) (meth : Method) (c : Code) (Q : State → Prop) (nL b : Nat) (x : Nat → Nat) (cA : Nat → ClassId) (dD : va_G) (n0 sl0 : Nat) (o : zv_O) (pc : Nat) (lv : zv_L) (st : List Value) (S : zv_S) (D : zv_D) : Prop :=
  (S.1 ≤ o.2.1.1 ∧ S.2.1 ≤ o.2.1.2.1) ∧ ∀ (H : Heap) (locs : List Loc) (ls : Array Slot), zv_H b x cA dD S D H → n0 ≤ S.1 → sl0 ≤ S.2.1 → va_S (fun q => b ≤ q) s.heap H locs → zv_lr b x ls nL lv → W p l e R s m args below meth c H locs (S.1 - n0) (S.2.1 - sl0) Q (F0 m pc ls (st.map (zv_vl b x)))
section ZQ
variable {p : Program} {l : Launch} {e : Env} {R : Room} {s : State} {m : MethodId} {args : Array Value} {below : List Frame} {meth : Method} {c : Code} {Q : State → Prop}
variable {cc : ByteArray} {nL on : Nat} {ini : Bool} {b : Nat} {x : Nat → Nat} {cA : Nat → ClassId} {dD : va_G} {xs : Nat × (Nat → Int32)} {d n0 sl0 : Nat} {o : zv_O}
variable {pc pc' : Nat} {lv lv' : zv_L} {st st' : List Value} {S S' : zv_S} {D D' : zv_D}
/-- nothing but the stack changes -/
theorem zq_step (row : ∀ (H : Heap) (locs : List Loc) (cells slots : Nat) (ls : Array Slot), zv_lr b x ls nL lv → W p l e R s m args below meth c H locs cells slots Q (F0 m pc' ls (st'.map (zv_vl b x))) → W p l e R s m args below meth c H locs cells slots Q (F0 m pc ls (st.map (zv_vl b x)))) (hg : zv_G p l e R s m args below meth c Q nL b x cA dD n0 sl0 o pc' lv st' S D) : zv_G p l e R s m args below meth c Q nL b x cA dD n0 sl0 o pc lv st S D :=
  ⟨hg.1, fun H locs ls h1 h2 h3 h4 h5 => row H locs _ _ ls h5 (hg.2 H locs ls h1 h2 h3 h4 h5)⟩
/-- a branch -/
theorem zq_br {P : Prop} [hP : Decidable P] {F1 F2 : Option zv_O} {pc2 : Nat} (row : ∀ (H : Heap) (locs : List Loc) (cells slots : Nat) (ls : Array Slot), (P → W p l e R s m args below meth c H locs cells slots Q (F0 m pc' ls (st'.map (zv_vl b x)))) → (¬ P → W p l e R s m args below meth c H locs cells slots Q (F0 m pc2 ls (st'.map (zv_vl b x)))) → W p l e R s m args below meth c H locs cells slots Q (F0 m pc ls (st.map (zv_vl b x))))
    (h1 : F1 = some o → zv_G p l e R s m args below meth c Q nL b x cA dD n0 sl0 o pc' lv st' S D) (h2 : F2 = some o → zv_G p l e R s m args below meth c Q nL b x cA dD n0 sl0 o pc2 lv st' S D) (h : (if P then F1 else F2) = some o) : zv_G p l e R s m args below meth c Q nL b x cA dD n0 sl0 o pc lv st S D := by
  by_cases hp : P
  · rw [if_pos hp] at h
    exact ⟨(h1 h).1, fun H locs ls a1 a2 a3 a4 a5 => row H locs _ _ ls (fun _ => (h1 h).2 H locs ls a1 a2 a3 a4 a5) (fun q => absurd hp q)⟩
  · rw [if_neg hp] at h
    exact ⟨(h2 h).1, fun H locs ls a1 a2 a3 a4 a5 => row H locs _ _ ls (fun q => absurd q hp) (fun _ => (h2 h).2 H locs ls a1 a2 a3 a4 a5)⟩
/-- the locals change -/
theorem zq_loc (row : ∀ (H : Heap) (locs : List Loc) (cells slots : Nat) (ls : Array Slot), zv_lr b x ls nL lv → (∀ ls' : Array Slot, zv_lr b x ls' nL lv' → W p l e R s m args below meth c H locs cells slots Q (F0 m pc' ls' (st'.map (zv_vl b x)))) → W p l e R s m args below meth c H locs cells slots Q (F0 m pc ls (st.map (zv_vl b x)))) (hg : zv_G p l e R s m args below meth c Q nL b x cA dD n0 sl0 o pc' lv' st' S D) : zv_G p l e R s m args below meth c Q nL b x cA dD n0 sl0 o pc lv st S D :=
  ⟨hg.1, fun H locs ls h1 h2 h3 h4 h5 => row H locs _ _ ls h5 (fun ls' h => hg.2 H locs ls' h1 h2 h3 h4 h)⟩
/-- the heap is read -/
theorem zq_rd (row : ∀ (H : Heap) (locs : List Loc) (cells slots : Nat) (ls : Array Slot), zv_H b x cA dD S D H → va_S (fun q => b ≤ q) s.heap H locs → W p l e R s m args below meth c H locs cells slots Q (F0 m pc' ls (st'.map (zv_vl b x))) → W p l e R s m args below meth c H locs cells slots Q (F0 m pc ls (st.map (zv_vl b x)))) (hg : zv_G p l e R s m args below meth c Q nL b x cA dD n0 sl0 o pc' lv st' S D) : zv_G p l e R s m args below meth c Q nL b x cA dD n0 sl0 o pc lv st S D :=
  ⟨hg.1, fun H locs ls h1 h2 h3 h4 h5 => row H locs _ _ ls h1 h4 (hg.2 H locs ls h1 h2 h3 h4 h5)⟩
/-- the heap is written -/
theorem zq_wr (e1 : S'.1 = S.1) (e2 : S'.2.1 = S.2.1) (row : ∀ (H : Heap) (locs : List Loc) (cells slots : Nat) (ls : Array Slot), zv_H b x cA dD S D H → va_S (fun q => b ≤ q) s.heap H locs → zv_lr b x ls nL lv → (∀ (H1 : Heap) (locs1 : List Loc), zv_H b x cA dD S' D' H1 → va_S (fun q => b ≤ q) s.heap H1 locs1 → W p l e R s m args below meth c H1 locs1 cells slots Q (F0 m pc' ls (st'.map (zv_vl b x)))) → W p l e R s m args below meth c H locs cells slots Q (F0 m pc ls (st.map (zv_vl b x)))) (hg : zv_G p l e R s m args below meth c Q nL b x cA dD n0 sl0 o pc' lv st' S' D') : zv_G p l e R s m args below meth c Q nL b x cA dD n0 sl0 o pc lv st S D := by
  refine ⟨by rw [← e1, ← e2]; exact hg.1, fun H locs ls h1 h2 h3 h4 h5 => row H locs _ _ ls h1 h4 h5 (fun H1 locs1 q1 q2 => ?_)⟩
  have := hg.2 H1 locs1 ls q1 (by rw [e1]; exact h2) (by rw [e2]; exact h3) q2 h5
  rw [e1, e2] at this
  exact this
theorem zq_iconst (hC : zv_C p R s m args meth c cc nL on ini b x cA dD xs d n0 sl0 o) {i : Int} {v : Int32} (hv : Int32.ofInt i = v) (hd : decode cc pc = .ok (.iconst i, 1)) {k : zv_K} (hk : ∀ pc lv st S D, k pc lv st S D = some o → zv_G p l e R s m args below meth c Q nL b x cA dD n0 sl0 o pc lv st S D) (h : k (pc + 1) lv (.int v :: st) S D = some o) : zv_G p l e R s m args below meth c Q nL b x cA dD n0 sl0 o pc lv st S D := by
  exact zq_step (fun H locs cells slots ls _ w => lv_iconst hC.1 hC.2.1 hd hv w) (hk _ _ _ _ _ h)
theorem zq_bipush (hC : zv_C p R s m args meth c cc nL on ini b x cA dD xs d n0 sl0 o) {i : Int} {v : Int32} (hv : (Int8.ofInt i).toInt32 = v) (hd : decode cc pc = .ok (.bipush i, 2)) {k : zv_K} (hk : ∀ pc lv st S D, k pc lv st S D = some o → zv_G p l e R s m args below meth c Q nL b x cA dD n0 sl0 o pc lv st S D) (h : k (pc + 2) lv (.int v :: st) S D = some o) : zv_G p l e R s m args below meth c Q nL b x cA dD n0 sl0 o pc lv st S D := by
  exact zq_step (fun H locs cells slots ls _ w => lv_bipush hC.1 hC.2.1 hd hv w) (hk _ _ _ _ _ h)
theorem zq_sipush (hC : zv_C p R s m args meth c cc nL on ini b x cA dD xs d n0 sl0 o) {i : Int} {v : Int32} (hv : (Int16.ofInt i).toInt32 = v) (hd : decode cc pc = .ok (.sipush i, 3)) {k : zv_K} (hk : ∀ pc lv st S D, k pc lv st S D = some o → zv_G p l e R s m args below meth c Q nL b x cA dD n0 sl0 o pc lv st S D) (h : k (pc + 3) lv (.int v :: st) S D = some o) : zv_G p l e R s m args below meth c Q nL b x cA dD n0 sl0 o pc lv st S D := by
  exact zq_step (fun H locs cells slots ls _ w => lv_sipush hC.1 hC.2.1 hd hv w) (hk _ _ _ _ _ h)
theorem zq_ldcw (hC : zv_C p R s m args meth c cc nL on ini b x cA dD xs d n0 sl0 o) {i : Nat} {v : Int32} (hv : Cond.constant (zn_own on) i v ∈ zgw) (hd : decode cc pc = .ok (.ldc_w i, 3)) {k : zv_K} (hk : ∀ pc lv st S D, k pc lv st S D = some o → zv_G p l e R s m args below meth c Q nL b x cA dD n0 sl0 o pc lv st S D) (h : k (pc + 3) lv (.int v :: st) S D = some o) : zv_G p l e R s m args below meth c Q nL b x cA dD n0 sl0 o pc lv st S D := by
  exact zq_step (fun H locs cells slots ls _ w => lv_ldcw hC.1 hC.2.1 hC.2.2.2.1 (hC.2.2.2.2.1 _ hv) hd w) (hk _ _ _ _ _ h)
theorem zq_ldc2 (hC : zv_C p R s m args meth c cc nL on ini b x cA dD xs d n0 sl0 o) {i : Nat} {v : Int64} (hv : Cond.constantLong (zn_own on) i v ∈ zgw) (hd : decode cc pc = .ok (.ldc2_w i, 3)) {k : zv_K} (hk : ∀ pc lv st S D, k pc lv st S D = some o → zv_G p l e R s m args below meth c Q nL b x cA dD n0 sl0 o pc lv st S D) (h : k (pc + 3) lv (.long v :: st) S D = some o) : zv_G p l e R s m args below meth c Q nL b x cA dD n0 sl0 o pc lv st S D := by
  exact zq_step (fun H locs cells slots ls _ w => lv_ldc2 hC.1 hC.2.1 hC.2.2.2.1 (hC.2.2.2.2.1 _ hv) hd w) (hk _ _ _ _ _ h)
theorem zq_lconst (hC : zv_C p R s m args meth c cc nL on ini b x cA dD xs d n0 sl0 o) {i : Fin 2} {v : Int64} (hv : Int64.ofNat (i : Nat) = v) (hd : decode cc pc = .ok (.lconst i, 1)) {k : zv_K} (hk : ∀ pc lv st S D, k pc lv st S D = some o → zv_G p l e R s m args below meth c Q nL b x cA dD n0 sl0 o pc lv st S D) (h : k (pc + 1) lv (.long v :: st) S D = some o) : zv_G p l e R s m args below meth c Q nL b x cA dD n0 sl0 o pc lv st S D := by
  exact zq_step (fun H locs cells slots ls _ w => lv_lconst hC.1 hC.2.1 hd hv w) (hk _ _ _ _ _ h)
theorem zq_iload (hC : zv_C p R s m args meth c cc nL on ini b x cA dD xs d n0 sl0 o) {i : Nat} (hd : decode cc pc = .ok (.iload i, 2)) {k : zv_K} (hk : ∀ pc lv st S D, k pc lv st S D = some o → zv_G p l e R s m args below meth c Q nL b x cA dD n0 sl0 o pc lv st S D) (h : zv_li (zv_at lv i) (fun v => k (pc + 2) lv (.int v :: st) S D) = some o) : zv_G p l e R s m args below meth c Q nL b x cA dD n0 sl0 o pc lv st S D := by
  unfold zv_li at h; split at h
  · rename_i v hv
    exact zq_step (fun H locs cells slots ls hl w => lv_iload hC.1 hC.2.1 hd (hl.2.2 i _ ⟨hv, (fun q => by cases q), (fun q => by cases q)⟩) w) (hk _ _ _ _ _ h)
  · cases h
theorem zq_iloadn (hC : zv_C p R s m args meth c cc nL on ini b x cA dD xs d n0 sl0 o) {j : Fin 4} {i : Nat} (hj : (j : Nat) = i) (hd : decode cc pc = .ok (.iload_n j, 1)) {k : zv_K} (hk : ∀ pc lv st S D, k pc lv st S D = some o → zv_G p l e R s m args below meth c Q nL b x cA dD n0 sl0 o pc lv st S D) (h : zv_li (zv_at lv i) (fun v => k (pc + 1) lv (.int v :: st) S D) = some o) : zv_G p l e R s m args below meth c Q nL b x cA dD n0 sl0 o pc lv st S D := by
  unfold zv_li at h; split at h
  · rename_i v hv
    exact zq_step (fun H locs cells slots ls hl w => lv_iload_n hC.1 hC.2.1 hd hj (hl.2.2 i _ ⟨hv, (fun q => by cases q), (fun q => by cases q)⟩) w) (hk _ _ _ _ _ h)
  · cases h
theorem zq_aload (hC : zv_C p R s m args meth c cc nL on ini b x cA dD xs d n0 sl0 o) {i : Nat} (hd : decode cc pc = .ok (.aload i, 2)) {k : zv_K} (hk : ∀ pc lv st S D, k pc lv st S D = some o → zv_G p l e R s m args below meth c Q nL b x cA dD n0 sl0 o pc lv st S D) (h : zv_la (zv_at lv i) (fun v => k (pc + 2) lv (.ref v :: st) S D) = some o) : zv_G p l e R s m args below meth c Q nL b x cA dD n0 sl0 o pc lv st S D := by
  unfold zv_la at h; split at h
  · rename_i v hv
    exact zq_step (fun H locs cells slots ls hl w => lv_aload hC.1 hC.2.1 hd (hl.2.2 i _ ⟨hv, (fun q => by cases q), (fun q => by cases q)⟩) w) (hk _ _ _ _ _ h)
  · cases h
theorem zq_aloadn (hC : zv_C p R s m args meth c cc nL on ini b x cA dD xs d n0 sl0 o) {j : Fin 4} {i : Nat} (hj : (j : Nat) = i) (hd : decode cc pc = .ok (.aload_n j, 1)) {k : zv_K} (hk : ∀ pc lv st S D, k pc lv st S D = some o → zv_G p l e R s m args below meth c Q nL b x cA dD n0 sl0 o pc lv st S D) (h : zv_la (zv_at lv i) (fun v => k (pc + 1) lv (.ref v :: st) S D) = some o) : zv_G p l e R s m args below meth c Q nL b x cA dD n0 sl0 o pc lv st S D := by
  unfold zv_la at h; split at h
  · rename_i v hv
    exact zq_step (fun H locs cells slots ls hl w => lv_aload_n hC.1 hC.2.1 hd hj (hl.2.2 i _ ⟨hv, (fun q => by cases q), (fun q => by cases q)⟩) w) (hk _ _ _ _ _ h)
  · cases h
theorem zq_lload (hC : zv_C p R s m args meth c cc nL on ini b x cA dD xs d n0 sl0 o) {i : Nat} (hd : decode cc pc = .ok (.lload i, 2)) {k : zv_K} (hk : ∀ pc lv st S D, k pc lv st S D = some o → zv_G p l e R s m args below meth c Q nL b x cA dD n0 sl0 o pc lv st S D) (h : zv_ll (zv_at lv i) (zv_at lv (i + 1)) (fun v => k (pc + 2) lv (.long v :: st) S D) = some o) : zv_G p l e R s m args below meth c Q nL b x cA dD n0 sl0 o pc lv st S D := by
  unfold zv_ll at h; split at h
  · rename_i v hv
    split at h
    · rename_i hv2
      exact zq_step (fun H locs cells slots ls hl w => lv_lload hC.1 hC.2.1 hd (hl.2.2 i _ ⟨hv, (fun q => by cases q), (fun _ => hv2)⟩) w) (hk _ _ _ _ _ h)
    · cases h
  · cases h
theorem zq_lloadn (hC : zv_C p R s m args meth c cc nL on ini b x cA dD xs d n0 sl0 o) {j : Fin 4} {i : Nat} (hj : (j : Nat) = i) (hd : decode cc pc = .ok (.lload_n j, 1)) {k : zv_K} (hk : ∀ pc lv st S D, k pc lv st S D = some o → zv_G p l e R s m args below meth c Q nL b x cA dD n0 sl0 o pc lv st S D) (h : zv_ll (zv_at lv i) (zv_at lv (i + 1)) (fun v => k (pc + 1) lv (.long v :: st) S D) = some o) : zv_G p l e R s m args below meth c Q nL b x cA dD n0 sl0 o pc lv st S D := by
  unfold zv_ll at h; split at h
  · rename_i v hv
    split at h
    · rename_i hv2
      exact zq_step (fun H locs cells slots ls hl w => lv_lload_n hC.1 hC.2.1 hd hj (hl.2.2 i _ ⟨hv, (fun q => by cases q), (fun _ => hv2)⟩) w) (hk _ _ _ _ _ h)
    · cases h
  · cases h
theorem zq_istore (hC : zv_C p R s m args meth c cc nL on ini b x cA dD xs d n0 sl0 o) {i : Nat} (hn : i < nL) (hd : decode cc pc = .ok (.istore i, 2)) {k : zv_K} (hk : ∀ pc lv st S D, k pc lv st S D = some o → zv_G p l e R s m args below meth c Q nL b x cA dD n0 sl0 o pc lv st S D) (h : zv_i1 st (fun v r => k (pc + 2) (zv_s1 lv i (.int v)) r S D) = some o) : zv_G p l e R s m args below meth c Q nL b x cA dD n0 sl0 o pc lv st S D := by
  unfold zv_i1 at h; split at h
  · rename_i v r
    exact zq_loc (fun H locs cells slots ls hl w => lv_istore hC.1 hC.2.1 hd (zv_lr_has hl) hn rfl (fun ls' hh => w ls' (zv_lr_s1 (v := .int v) rfl (fun q => by cases q) hh))) (hk _ _ _ _ _ h)
  · cases h
theorem zq_istoren (hC : zv_C p R s m args meth c cc nL on ini b x cA dD xs d n0 sl0 o) {j : Fin 4} {i : Nat} (hj : (j : Nat) = i) (hn : i < nL) (hd : decode cc pc = .ok (.istore_n j, 1)) {k : zv_K} (hk : ∀ pc lv st S D, k pc lv st S D = some o → zv_G p l e R s m args below meth c Q nL b x cA dD n0 sl0 o pc lv st S D) (h : zv_i1 st (fun v r => k (pc + 1) (zv_s1 lv i (.int v)) r S D) = some o) : zv_G p l e R s m args below meth c Q nL b x cA dD n0 sl0 o pc lv st S D := by
  unfold zv_i1 at h; split at h
  · rename_i v r
    exact zq_loc (fun H locs cells slots ls hl w => lv_istore_n hC.1 hC.2.1 hd hj (zv_lr_has hl) hn rfl (fun ls' hh => w ls' (zv_lr_s1 (v := .int v) rfl (fun q => by cases q) hh))) (hk _ _ _ _ _ h)
  · cases h
theorem zq_astoren (hC : zv_C p R s m args meth c cc nL on ini b x cA dD xs d n0 sl0 o) {j : Fin 4} {i : Nat} (hj : (j : Nat) = i) (hn : i < nL) (hd : decode cc pc = .ok (.astore_n j, 1)) {k : zv_K} (hk : ∀ pc lv st S D, k pc lv st S D = some o → zv_G p l e R s m args below meth c Q nL b x cA dD n0 sl0 o pc lv st S D) (h : zv_a1 st (fun v r => k (pc + 1) (zv_s1 lv i (.ref v)) r S D) = some o) : zv_G p l e R s m args below meth c Q nL b x cA dD n0 sl0 o pc lv st S D := by
  unfold zv_a1 at h; split at h
  · rename_i v r
    exact zq_loc (fun H locs cells slots ls hl w => lv_astore_n hC.1 hC.2.1 hd hj (zv_lr_has hl) hn rfl (fun ls' hh => w ls' (zv_lr_s1 (v := .ref v) rfl (fun q => by cases q) hh))) (hk _ _ _ _ _ h)
  · cases h
theorem zq_lstore (hC : zv_C p R s m args meth c cc nL on ini b x cA dD xs d n0 sl0 o) {i : Nat} (hn : i + 1 < nL) (hd : decode cc pc = .ok (.lstore i, 2)) {k : zv_K} (hk : ∀ pc lv st S D, k pc lv st S D = some o → zv_G p l e R s m args below meth c Q nL b x cA dD n0 sl0 o pc lv st S D) (h : zv_l1 st (fun v r => k (pc + 2) (zv_s2 lv i (.long v)) r S D) = some o) : zv_G p l e R s m args below meth c Q nL b x cA dD n0 sl0 o pc lv st S D := by
  unfold zv_l1 at h; split at h
  · rename_i v r
    exact zq_loc (fun H locs cells slots ls hl w => lv_lstore hC.1 hC.2.1 hd (zv_lr_has hl) hn rfl (fun ls' hh => w ls' (zv_lr_s2 hh))) (hk _ _ _ _ _ h)
  · cases h
theorem zq_lstoren (hC : zv_C p R s m args meth c cc nL on ini b x cA dD xs d n0 sl0 o) {j : Fin 4} {i : Nat} (hj : (j : Nat) = i) (hn : i + 1 < nL) (hd : decode cc pc = .ok (.lstore_n j, 1)) {k : zv_K} (hk : ∀ pc lv st S D, k pc lv st S D = some o → zv_G p l e R s m args below meth c Q nL b x cA dD n0 sl0 o pc lv st S D) (h : zv_l1 st (fun v r => k (pc + 1) (zv_s2 lv i (.long v)) r S D) = some o) : zv_G p l e R s m args below meth c Q nL b x cA dD n0 sl0 o pc lv st S D := by
  unfold zv_l1 at h; split at h
  · rename_i v r
    exact zq_loc (fun H locs cells slots ls hl w => lv_lstore_n hC.1 hC.2.1 hd hj (zv_lr_has hl) hn rfl (fun ls' hh => w ls' (zv_lr_s2 hh))) (hk _ _ _ _ _ h)
  · cases h
theorem zq_iinc (hC : zv_C p R s m args meth c cc nL on ini b x cA dD xs d n0 sl0 o) {i : Nat} {z : Int} {v : Int32} (hv : Int32.ofInt z = v) (hn : i < nL) (hd : decode cc pc = .ok (.iinc i z, 3)) {k : zv_K} (hk : ∀ pc lv st S D, k pc lv st S D = some o → zv_G p l e R s m args below meth c Q nL b x cA dD n0 sl0 o pc lv st S D) (h : zv_li (zv_at lv i) (fun w => k (pc + 3) (zv_s1 lv i (.int (w + v))) st S D) = some o) : zv_G p l e R s m args below meth c Q nL b x cA dD n0 sl0 o pc lv st S D := by
  unfold zv_li at h; split at h
  · rename_i w hw
    have hm : (i, Value.int w) ∈ zv_pr b x lv := zv_pr_mem (v := .int w) ⟨hw, (fun q => by cases q), (fun q => by cases q)⟩
    obtain ⟨j, hj⟩ := List.getElem?_of_mem hm
    exact zq_loc (fun H locs cells slots ls hl w' => lv_iinc (v := w + v) hC.1 hC.2.1 hd (zv_lr_has hl) hj (by rw [hv]) hn rfl (fun ls' hh => w' ls' (zv_lr_s1 (v := .int (w + v)) rfl (fun q => by cases q) hh))) (hk _ _ _ _ _ h)
  · cases h
theorem zq_iadd (hC : zv_C p R s m args meth c cc nL on ini b x cA dD xs d n0 sl0 o) (hd : decode cc pc = .ok (.iadd, 1)) {k : zv_K} (hk : ∀ pc lv st S D, k pc lv st S D = some o → zv_G p l e R s m args below meth c Q nL b x cA dD n0 sl0 o pc lv st S D) (h : zv_i2 st (fun a b2 r => k (pc + 1) lv (.int (a + b2) :: r) S D) = some o) : zv_G p l e R s m args below meth c Q nL b x cA dD n0 sl0 o pc lv st S D := by
  unfold zv_i2 at h; split at h
  · exact zq_step (fun H locs cells slots ls _ w => lv_iadd hC.1 hC.2.1 hd w) (hk _ _ _ _ _ h)
  · cases h
theorem zq_isub (hC : zv_C p R s m args meth c cc nL on ini b x cA dD xs d n0 sl0 o) (hd : decode cc pc = .ok (.isub, 1)) {k : zv_K} (hk : ∀ pc lv st S D, k pc lv st S D = some o → zv_G p l e R s m args below meth c Q nL b x cA dD n0 sl0 o pc lv st S D) (h : zv_i2 st (fun a b2 r => k (pc + 1) lv (.int (a - b2) :: r) S D) = some o) : zv_G p l e R s m args below meth c Q nL b x cA dD n0 sl0 o pc lv st S D := by
  unfold zv_i2 at h; split at h
  · exact zq_step (fun H locs cells slots ls _ w => lv_isub hC.1 hC.2.1 hd w) (hk _ _ _ _ _ h)
  · cases h
theorem zq_imul (hC : zv_C p R s m args meth c cc nL on ini b x cA dD xs d n0 sl0 o) (hd : decode cc pc = .ok (.imul, 1)) {k : zv_K} (hk : ∀ pc lv st S D, k pc lv st S D = some o → zv_G p l e R s m args below meth c Q nL b x cA dD n0 sl0 o pc lv st S D) (h : zv_i2 st (fun a b2 r => k (pc + 1) lv (.int (a * b2) :: r) S D) = some o) : zv_G p l e R s m args below meth c Q nL b x cA dD n0 sl0 o pc lv st S D := by
  unfold zv_i2 at h; split at h
  · exact zq_step (fun H locs cells slots ls _ w => lv_imul hC.1 hC.2.1 hd w) (hk _ _ _ _ _ h)
  · cases h
theorem zq_iand (hC : zv_C p R s m args meth c cc nL on ini b x cA dD xs d n0 sl0 o) (hd : decode cc pc = .ok (.iand, 1)) {k : zv_K} (hk : ∀ pc lv st S D, k pc lv st S D = some o → zv_G p l e R s m args below meth c Q nL b x cA dD n0 sl0 o pc lv st S D) (h : zv_i2 st (fun a b2 r => k (pc + 1) lv (.int (a &&& b2) :: r) S D) = some o) : zv_G p l e R s m args below meth c Q nL b x cA dD n0 sl0 o pc lv st S D := by
  unfold zv_i2 at h; split at h
  · exact zq_step (fun H locs cells slots ls _ w => lv_iand hC.1 hC.2.1 hd w) (hk _ _ _ _ _ h)
  · cases h
theorem zq_ior (hC : zv_C p R s m args meth c cc nL on ini b x cA dD xs d n0 sl0 o) (hd : decode cc pc = .ok (.ior, 1)) {k : zv_K} (hk : ∀ pc lv st S D, k pc lv st S D = some o → zv_G p l e R s m args below meth c Q nL b x cA dD n0 sl0 o pc lv st S D) (h : zv_i2 st (fun a b2 r => k (pc + 1) lv (.int (a ||| b2) :: r) S D) = some o) : zv_G p l e R s m args below meth c Q nL b x cA dD n0 sl0 o pc lv st S D := by
  unfold zv_i2 at h; split at h
  · exact zq_step (fun H locs cells slots ls _ w => lv_ior hC.1 hC.2.1 hd w) (hk _ _ _ _ _ h)
  · cases h
theorem zq_ixor (hC : zv_C p R s m args meth c cc nL on ini b x cA dD xs d n0 sl0 o) (hd : decode cc pc = .ok (.ixor, 1)) {k : zv_K} (hk : ∀ pc lv st S D, k pc lv st S D = some o → zv_G p l e R s m args below meth c Q nL b x cA dD n0 sl0 o pc lv st S D) (h : zv_i2 st (fun a b2 r => k (pc + 1) lv (.int (a ^^^ b2) :: r) S D) = some o) : zv_G p l e R s m args below meth c Q nL b x cA dD n0 sl0 o pc lv st S D := by
  unfold zv_i2 at h; split at h
  · exact zq_step (fun H locs cells slots ls _ w => lv_ixor hC.1 hC.2.1 hd w) (hk _ _ _ _ _ h)
  · cases h
theorem zq_ishl (hC : zv_C p R s m args meth c cc nL on ini b x cA dD xs d n0 sl0 o) (hd : decode cc pc = .ok (.ishl, 1)) {k : zv_K} (hk : ∀ pc lv st S D, k pc lv st S D = some o → zv_G p l e R s m args below meth c Q nL b x cA dD n0 sl0 o pc lv st S D) (h : zv_i2 st (fun a b2 r => k (pc + 1) lv (.int (a <<< (b2 &&& 31)) :: r) S D) = some o) : zv_G p l e R s m args below meth c Q nL b x cA dD n0 sl0 o pc lv st S D := by
  unfold zv_i2 at h; split at h
  · exact zq_step (fun H locs cells slots ls _ w => lv_ishl hC.1 hC.2.1 hd w) (hk _ _ _ _ _ h)
  · cases h
theorem zq_ishr (hC : zv_C p R s m args meth c cc nL on ini b x cA dD xs d n0 sl0 o) (hd : decode cc pc = .ok (.ishr, 1)) {k : zv_K} (hk : ∀ pc lv st S D, k pc lv st S D = some o → zv_G p l e R s m args below meth c Q nL b x cA dD n0 sl0 o pc lv st S D) (h : zv_i2 st (fun a b2 r => k (pc + 1) lv (.int (a >>> (b2 &&& 31)) :: r) S D) = some o) : zv_G p l e R s m args below meth c Q nL b x cA dD n0 sl0 o pc lv st S D := by
  unfold zv_i2 at h; split at h
  · exact zq_step (fun H locs cells slots ls _ w => lv_ishr hC.1 hC.2.1 hd w) (hk _ _ _ _ _ h)
  · cases h
theorem zq_iushr (hC : zv_C p R s m args meth c cc nL on ini b x cA dD xs d n0 sl0 o) (hd : decode cc pc = .ok (.iushr, 1)) {k : zv_K} (hk : ∀ pc lv st S D, k pc lv st S D = some o → zv_G p l e R s m args below meth c Q nL b x cA dD n0 sl0 o pc lv st S D) (h : zv_i2 st (fun a b2 r => k (pc + 1) lv (.int (a.toUInt32 >>> (b2.toUInt32 &&& Int32.toUInt32 31)).toInt32 :: r) S D) = some o) : zv_G p l e R s m args below meth c Q nL b x cA dD n0 sl0 o pc lv st S D := by
  unfold zv_i2 at h; split at h
  · exact zq_step (fun H locs cells slots ls _ w => lv_iushr hC.1 hC.2.1 hd rfl w) (hk _ _ _ _ _ h)
  · cases h
theorem zq_idiv (hC : zv_C p R s m args meth c cc nL on ini b x cA dD xs d n0 sl0 o) (hd : decode cc pc = .ok (.idiv, 1)) {k : zv_K} (hk : ∀ pc lv st S D, k pc lv st S D = some o → zv_G p l e R s m args below meth c Q nL b x cA dD n0 sl0 o pc lv st S D) (h : zv_i2 st (fun a b2 r => if b2 = 0 then none else k (pc + 1) lv (.int (a / b2) :: r) S D) = some o) : zv_G p l e R s m args below meth c Q nL b x cA dD n0 sl0 o pc lv st S D := by
  unfold zv_i2 at h; split at h
  · dsimp only at h; split at h
    · cases h
    · rename_i hz
      exact zq_step (fun H locs cells slots ls _ w => lv_idiv hC.1 hC.2.1 hd hz w) (hk _ _ _ _ _ h)
  · cases h
theorem zq_irem (hC : zv_C p R s m args meth c cc nL on ini b x cA dD xs d n0 sl0 o) (hd : decode cc pc = .ok (.irem, 1)) {k : zv_K} (hk : ∀ pc lv st S D, k pc lv st S D = some o → zv_G p l e R s m args below meth c Q nL b x cA dD n0 sl0 o pc lv st S D) (h : zv_i2 st (fun a b2 r => if b2 = 0 then none else k (pc + 1) lv (.int (a - a / b2 * b2) :: r) S D) = some o) : zv_G p l e R s m args below meth c Q nL b x cA dD n0 sl0 o pc lv st S D := by
  unfold zv_i2 at h; split at h
  · dsimp only at h; split at h
    · cases h
    · rename_i hz
      exact zq_step (fun H locs cells slots ls _ w => lv_irem hC.1 hC.2.1 hd hz w) (hk _ _ _ _ _ h)
  · cases h
theorem zq_ineg (hC : zv_C p R s m args meth c cc nL on ini b x cA dD xs d n0 sl0 o) (hd : decode cc pc = .ok (.ineg, 1)) {k : zv_K} (hk : ∀ pc lv st S D, k pc lv st S D = some o → zv_G p l e R s m args below meth c Q nL b x cA dD n0 sl0 o pc lv st S D) (h : zv_i1 st (fun a r => k (pc + 1) lv (.int (-a) :: r) S D) = some o) : zv_G p l e R s m args below meth c Q nL b x cA dD n0 sl0 o pc lv st S D := by
  unfold zv_i1 at h; split at h
  · exact zq_step (fun H locs cells slots ls _ w => lv_ineg hC.1 hC.2.1 hd w) (hk _ _ _ _ _ h)
  · cases h
theorem zq_ladd (hC : zv_C p R s m args meth c cc nL on ini b x cA dD xs d n0 sl0 o) (hd : decode cc pc = .ok (.ladd, 1)) {k : zv_K} (hk : ∀ pc lv st S D, k pc lv st S D = some o → zv_G p l e R s m args below meth c Q nL b x cA dD n0 sl0 o pc lv st S D) (h : zv_l2 st (fun a b2 r => k (pc + 1) lv (.long (a + b2) :: r) S D) = some o) : zv_G p l e R s m args below meth c Q nL b x cA dD n0 sl0 o pc lv st S D := by
  unfold zv_l2 at h; split at h
  · exact zq_step (fun H locs cells slots ls _ w => lv_ladd hC.1 hC.2.1 hd w) (hk _ _ _ _ _ h)
  · cases h
theorem zq_lsub (hC : zv_C p R s m args meth c cc nL on ini b x cA dD xs d n0 sl0 o) (hd : decode cc pc = .ok (.lsub, 1)) {k : zv_K} (hk : ∀ pc lv st S D, k pc lv st S D = some o → zv_G p l e R s m args below meth c Q nL b x cA dD n0 sl0 o pc lv st S D) (h : zv_l2 st (fun a b2 r => k (pc + 1) lv (.long (a - b2) :: r) S D) = some o) : zv_G p l e R s m args below meth c Q nL b x cA dD n0 sl0 o pc lv st S D := by
  unfold zv_l2 at h; split at h
  · exact zq_step (fun H locs cells slots ls _ w => lv_lsub hC.1 hC.2.1 hd w) (hk _ _ _ _ _ h)
  · cases h
theorem zq_lmul (hC : zv_C p R s m args meth c cc nL on ini b x cA dD xs d n0 sl0 o) (hd : decode cc pc = .ok (.lmul, 1)) {k : zv_K} (hk : ∀ pc lv st S D, k pc lv st S D = some o → zv_G p l e R s m args below meth c Q nL b x cA dD n0 sl0 o pc lv st S D) (h : zv_l2 st (fun a b2 r => k (pc + 1) lv (.long (a * b2) :: r) S D) = some o) : zv_G p l e R s m args below meth c Q nL b x cA dD n0 sl0 o pc lv st S D := by
  unfold zv_l2 at h; split at h
  · exact zq_step (fun H locs cells slots ls _ w => lv_lmul hC.1 hC.2.1 hd w) (hk _ _ _ _ _ h)
  · cases h
theorem zq_land (hC : zv_C p R s m args meth c cc nL on ini b x cA dD xs d n0 sl0 o) (hd : decode cc pc = .ok (.land, 1)) {k : zv_K} (hk : ∀ pc lv st S D, k pc lv st S D = some o → zv_G p l e R s m args below meth c Q nL b x cA dD n0 sl0 o pc lv st S D) (h : zv_l2 st (fun a b2 r => k (pc + 1) lv (.long (a &&& b2) :: r) S D) = some o) : zv_G p l e R s m args below meth c Q nL b x cA dD n0 sl0 o pc lv st S D := by
  unfold zv_l2 at h; split at h
  · exact zq_step (fun H locs cells slots ls _ w => lv_land hC.1 hC.2.1 hd w) (hk _ _ _ _ _ h)
  · cases h
theorem zq_lor (hC : zv_C p R s m args meth c cc nL on ini b x cA dD xs d n0 sl0 o) (hd : decode cc pc = .ok (.lor, 1)) {k : zv_K} (hk : ∀ pc lv st S D, k pc lv st S D = some o → zv_G p l e R s m args below meth c Q nL b x cA dD n0 sl0 o pc lv st S D) (h : zv_l2 st (fun a b2 r => k (pc + 1) lv (.long (a ||| b2) :: r) S D) = some o) : zv_G p l e R s m args below meth c Q nL b x cA dD n0 sl0 o pc lv st S D := by
  unfold zv_l2 at h; split at h
  · exact zq_step (fun H locs cells slots ls _ w => lv_lor hC.1 hC.2.1 hd w) (hk _ _ _ _ _ h)
  · cases h
theorem zq_ldiv (hC : zv_C p R s m args meth c cc nL on ini b x cA dD xs d n0 sl0 o) (hd : decode cc pc = .ok (.ldiv, 1)) {k : zv_K} (hk : ∀ pc lv st S D, k pc lv st S D = some o → zv_G p l e R s m args below meth c Q nL b x cA dD n0 sl0 o pc lv st S D) (h : zv_l2 st (fun a b2 r => if b2 = 0 then none else k (pc + 1) lv (.long (a / b2) :: r) S D) = some o) : zv_G p l e R s m args below meth c Q nL b x cA dD n0 sl0 o pc lv st S D := by
  unfold zv_l2 at h; split at h
  · dsimp only at h; split at h
    · cases h
    · rename_i hz
      exact zq_step (fun H locs cells slots ls _ w => lv_ldiv hC.1 hC.2.1 hd hz w) (hk _ _ _ _ _ h)
  · cases h
theorem zq_lrem (hC : zv_C p R s m args meth c cc nL on ini b x cA dD xs d n0 sl0 o) (hd : decode cc pc = .ok (.lrem, 1)) {k : zv_K} (hk : ∀ pc lv st S D, k pc lv st S D = some o → zv_G p l e R s m args below meth c Q nL b x cA dD n0 sl0 o pc lv st S D) (h : zv_l2 st (fun a b2 r => if b2 = 0 then none else k (pc + 1) lv (.long (a - a / b2 * b2) :: r) S D) = some o) : zv_G p l e R s m args below meth c Q nL b x cA dD n0 sl0 o pc lv st S D := by
  unfold zv_l2 at h; split at h
  · dsimp only at h; split at h
    · cases h
    · rename_i hz
      exact zq_step (fun H locs cells slots ls _ w => lv_lrem hC.1 hC.2.1 hd hz w) (hk _ _ _ _ _ h)
  · cases h
theorem zq_lcmp (hC : zv_C p R s m args meth c cc nL on ini b x cA dD xs d n0 sl0 o) (hd : decode cc pc = .ok (.lcmp, 1)) {k : zv_K} (hk : ∀ pc lv st S D, k pc lv st S D = some o → zv_G p l e R s m args below meth c Q nL b x cA dD n0 sl0 o pc lv st S D) (h : zv_l2 st (fun a b2 r => k (pc + 1) lv (.int (lg_cmp a b2) :: r) S D) = some o) : zv_G p l e R s m args below meth c Q nL b x cA dD n0 sl0 o pc lv st S D := by
  unfold zv_l2 at h; split at h
  · exact zq_step (fun H locs cells slots ls _ w => W.lcmp hC.1 hC.2.1 hd w) (hk _ _ _ _ _ h)
  · cases h
theorem zq_lshl (hC : zv_C p R s m args meth c cc nL on ini b x cA dD xs d n0 sl0 o) (hd : decode cc pc = .ok (.lshl, 1)) {k : zv_K} (hk : ∀ pc lv st S D, k pc lv st S D = some o → zv_G p l e R s m args below meth c Q nL b x cA dD n0 sl0 o pc lv st S D) (h : zv_i1 st (fun b2 r => zv_l1 r fun a r => k (pc + 1) lv (.long (a <<< (b2.toInt64 &&& 63)) :: r) S D) = some o) : zv_G p l e R s m args below meth c Q nL b x cA dD n0 sl0 o pc lv st S D := by
  unfold zv_i1 at h; split at h
  · dsimp only at h; unfold zv_l1 at h; split at h
    · exact zq_step (fun H locs cells slots ls _ w => lv_lshl hC.1 hC.2.1 hd rfl w) (hk _ _ _ _ _ h)
    · cases h
  · cases h
theorem zq_lushr (hC : zv_C p R s m args meth c cc nL on ini b x cA dD xs d n0 sl0 o) (hd : decode cc pc = .ok (.lushr, 1)) {k : zv_K} (hk : ∀ pc lv st S D, k pc lv st S D = some o → zv_G p l e R s m args below meth c Q nL b x cA dD n0 sl0 o pc lv st S D) (h : zv_i1 st (fun b2 r => zv_l1 r fun a r => k (pc + 1) lv (.long (a.toUInt64 >>> (b2.toInt64.toUInt64 &&& Int64.toUInt64 63)).toInt64 :: r) S D) = some o) : zv_G p l e R s m args below meth c Q nL b x cA dD n0 sl0 o pc lv st S D := by
  unfold zv_i1 at h; split at h
  · dsimp only at h; unfold zv_l1 at h; split at h
    · exact zq_step (fun H locs cells slots ls _ w => lv_lushr hC.1 hC.2.1 hd rfl w) (hk _ _ _ _ _ h)
    · cases h
  · cases h
theorem zq_i2l (hC : zv_C p R s m args meth c cc nL on ini b x cA dD xs d n0 sl0 o) (hd : decode cc pc = .ok (.i2l, 1)) {k : zv_K} (hk : ∀ pc lv st S D, k pc lv st S D = some o → zv_G p l e R s m args below meth c Q nL b x cA dD n0 sl0 o pc lv st S D) (h : zv_i1 st (fun a r => k (pc + 1) lv (.long a.toInt64 :: r) S D) = some o) : zv_G p l e R s m args below meth c Q nL b x cA dD n0 sl0 o pc lv st S D := by
  unfold zv_i1 at h; split at h
  · exact zq_step (fun H locs cells slots ls _ w => lv_i2l hC.1 hC.2.1 hd rfl w) (hk _ _ _ _ _ h)
  · cases h
theorem zq_l2i (hC : zv_C p R s m args meth c cc nL on ini b x cA dD xs d n0 sl0 o) (hd : decode cc pc = .ok (.l2i, 1)) {k : zv_K} (hk : ∀ pc lv st S D, k pc lv st S D = some o → zv_G p l e R s m args below meth c Q nL b x cA dD n0 sl0 o pc lv st S D) (h : zv_l1 st (fun a r => k (pc + 1) lv (.int a.toInt32 :: r) S D) = some o) : zv_G p l e R s m args below meth c Q nL b x cA dD n0 sl0 o pc lv st S D := by
  unfold zv_l1 at h; split at h
  · exact zq_step (fun H locs cells slots ls _ w => lv_l2i hC.1 hC.2.1 hd rfl w) (hk _ _ _ _ _ h)
  · cases h
theorem zq_i2c (hC : zv_C p R s m args meth c cc nL on ini b x cA dD xs d n0 sl0 o) (hd : decode cc pc = .ok (.i2c, 1)) {k : zv_K} (hk : ∀ pc lv st S D, k pc lv st S D = some o → zv_G p l e R s m args below meth c Q nL b x cA dD n0 sl0 o pc lv st S D) (h : zv_i1 st (fun a r => k (pc + 1) lv (.int (a.toUInt32 % 65536).toInt32 :: r) S D) = some o) : zv_G p l e R s m args below meth c Q nL b x cA dD n0 sl0 o pc lv st S D := by
  unfold zv_i1 at h; split at h
  · exact zq_step (fun H locs cells slots ls _ w => lv_i2c hC.1 hC.2.1 hd rfl w) (hk _ _ _ _ _ h)
  · cases h
theorem zq_dup (hC : zv_C p R s m args meth c cc nL on ini b x cA dD xs d n0 sl0 o) (hd : decode cc pc = .ok (.dup, 1)) {k : zv_K} (hk : ∀ pc lv st S D, k pc lv st S D = some o → zv_G p l e R s m args below meth c Q nL b x cA dD n0 sl0 o pc lv st S D) (h : zv_dp st (fun r => k (pc + 1) lv r S D) = some o) : zv_G p l e R s m args below meth c Q nL b x cA dD n0 sl0 o pc lv st S D := by
  unfold zv_dp at h; split at h
  · exact zq_step (fun H locs cells slots ls _ w => lv_dup hC.1 hC.2.1 hd rfl w) (hk _ _ _ _ _ h)
  · exact zq_step (fun H locs cells slots ls _ w => lv_dup hC.1 hC.2.1 hd rfl w) (hk _ _ _ _ _ h)
  · cases h
theorem zq_dup2 (hC : zv_C p R s m args meth c cc nL on ini b x cA dD xs d n0 sl0 o) (hd : decode cc pc = .ok (.dup2, 1)) {k : zv_K} (hk : ∀ pc lv st S D, k pc lv st S D = some o → zv_G p l e R s m args below meth c Q nL b x cA dD n0 sl0 o pc lv st S D) (h : zv_ia st (fun i a r => k (pc + 1) lv (.int i :: .ref a :: .int i :: .ref a :: r) S D) = some o) : zv_G p l e R s m args below meth c Q nL b x cA dD n0 sl0 o pc lv st S D := by
  unfold zv_ia at h; split at h
  · exact zq_step (fun H locs cells slots ls _ w => lv_dup2_11 hC.1 hC.2.1 hd rfl rfl w) (hk _ _ _ _ _ h)
  · cases h
theorem zq_pop (hC : zv_C p R s m args meth c cc nL on ini b x cA dD xs d n0 sl0 o) (hd : decode cc pc = .ok (.pop, 1)) {k : zv_K} (hk : ∀ pc lv st S D, k pc lv st S D = some o → zv_G p l e R s m args below meth c Q nL b x cA dD n0 sl0 o pc lv st S D) (h : zv_i1 st (fun _ r => k (pc + 1) lv r S D) = some o) : zv_G p l e R s m args below meth c Q nL b x cA dD n0 sl0 o pc lv st S D := by
  unfold zv_i1 at h; split at h
  · exact zq_step (fun H locs cells slots ls _ w => lv_pop hC.1 hC.2.1 hd rfl w) (hk _ _ _ _ _ h)
  · cases h
theorem zq_if_eq (hC : zv_C p R s m args meth c cc nL on ini b x cA dD xs d n0 sl0 o) {off : Int} {tgt : Nat} (ht : (pc : Int) + off = (tgt : Int)) (hd : decode cc pc = .ok (.ifCond .eq off, 3)) {k : zv_K} (hk : ∀ pc lv st S D, k pc lv st S D = some o → zv_G p l e R s m args below meth c Q nL b x cA dD n0 sl0 o pc lv st S D) (h : zv_i1 st (fun a r => if a = 0 then k tgt lv r S D else k (pc + 3) lv r S D) = some o) : zv_G p l e R s m args below meth c Q nL b x cA dD n0 sl0 o pc lv st S D := by
  unfold zv_i1 at h; split at h
  · exact zq_br (fun H locs cells slots ls w1 w2 => lv_if_eq hC.1 hC.2.1 hd ht w1 w2) (hk _ _ _ _ _) (hk _ _ _ _ _) h
  · cases h
theorem zq_if_ne (hC : zv_C p R s m args meth c cc nL on ini b x cA dD xs d n0 sl0 o) {off : Int} {tgt : Nat} (ht : (pc : Int) + off = (tgt : Int)) (hd : decode cc pc = .ok (.ifCond .ne off, 3)) {k : zv_K} (hk : ∀ pc lv st S D, k pc lv st S D = some o → zv_G p l e R s m args below meth c Q nL b x cA dD n0 sl0 o pc lv st S D) (h : zv_i1 st (fun a r => if a = 0 then k (pc + 3) lv r S D else k tgt lv r S D) = some o) : zv_G p l e R s m args below meth c Q nL b x cA dD n0 sl0 o pc lv st S D := by
  unfold zv_i1 at h; split at h
  · exact zq_br (fun H locs cells slots ls w1 w2 => lv_if_ne hC.1 hC.2.1 hd ht w2 w1) (hk _ _ _ _ _) (hk _ _ _ _ _) h
  · cases h
theorem zq_if_lt (hC : zv_C p R s m args meth c cc nL on ini b x cA dD xs d n0 sl0 o) {off : Int} {tgt : Nat} (ht : (pc : Int) + off = (tgt : Int)) (hd : decode cc pc = .ok (.ifCond .lt off, 3)) {k : zv_K} (hk : ∀ pc lv st S D, k pc lv st S D = some o → zv_G p l e R s m args below meth c Q nL b x cA dD n0 sl0 o pc lv st S D) (h : zv_i1 st (fun a r => if a < 0 then k tgt lv r S D else k (pc + 3) lv r S D) = some o) : zv_G p l e R s m args below meth c Q nL b x cA dD n0 sl0 o pc lv st S D := by
  unfold zv_i1 at h; split at h
  · exact zq_br (fun H locs cells slots ls w1 w2 => lv_if_lt hC.1 hC.2.1 hd ht w1 w2) (hk _ _ _ _ _) (hk _ _ _ _ _) h
  · cases h
theorem zq_if_ge (hC : zv_C p R s m args meth c cc nL on ini b x cA dD xs d n0 sl0 o) {off : Int} {tgt : Nat} (ht : (pc : Int) + off = (tgt : Int)) (hd : decode cc pc = .ok (.ifCond .ge off, 3)) {k : zv_K} (hk : ∀ pc lv st S D, k pc lv st S D = some o → zv_G p l e R s m args below meth c Q nL b x cA dD n0 sl0 o pc lv st S D) (h : zv_i1 st (fun a r => if 0 ≤ a then k tgt lv r S D else k (pc + 3) lv r S D) = some o) : zv_G p l e R s m args below meth c Q nL b x cA dD n0 sl0 o pc lv st S D := by
  unfold zv_i1 at h; split at h
  · exact zq_br (fun H locs cells slots ls w1 w2 => lv_if_ge hC.1 hC.2.1 hd ht w1 w2) (hk _ _ _ _ _) (hk _ _ _ _ _) h
  · cases h
theorem zq_if_gt (hC : zv_C p R s m args meth c cc nL on ini b x cA dD xs d n0 sl0 o) {off : Int} {tgt : Nat} (ht : (pc : Int) + off = (tgt : Int)) (hd : decode cc pc = .ok (.ifCond .gt off, 3)) {k : zv_K} (hk : ∀ pc lv st S D, k pc lv st S D = some o → zv_G p l e R s m args below meth c Q nL b x cA dD n0 sl0 o pc lv st S D) (h : zv_i1 st (fun a r => if 0 < a then k tgt lv r S D else k (pc + 3) lv r S D) = some o) : zv_G p l e R s m args below meth c Q nL b x cA dD n0 sl0 o pc lv st S D := by
  unfold zv_i1 at h; split at h
  · exact zq_br (fun H locs cells slots ls w1 w2 => lv_if_gt hC.1 hC.2.1 hd ht w1 w2) (hk _ _ _ _ _) (hk _ _ _ _ _) h
  · cases h
theorem zq_if_le (hC : zv_C p R s m args meth c cc nL on ini b x cA dD xs d n0 sl0 o) {off : Int} {tgt : Nat} (ht : (pc : Int) + off = (tgt : Int)) (hd : decode cc pc = .ok (.ifCond .le off, 3)) {k : zv_K} (hk : ∀ pc lv st S D, k pc lv st S D = some o → zv_G p l e R s m args below meth c Q nL b x cA dD n0 sl0 o pc lv st S D) (h : zv_i1 st (fun a r => if a ≤ 0 then k tgt lv r S D else k (pc + 3) lv r S D) = some o) : zv_G p l e R s m args below meth c Q nL b x cA dD n0 sl0 o pc lv st S D := by
  unfold zv_i1 at h; split at h
  · exact zq_br (fun H locs cells slots ls w1 w2 => lv_if_le hC.1 hC.2.1 hd ht w1 w2) (hk _ _ _ _ _) (hk _ _ _ _ _) h
  · cases h
theorem zq_icmp_eq (hC : zv_C p R s m args meth c cc nL on ini b x cA dD xs d n0 sl0 o) {off : Int} {tgt : Nat} (ht : (pc : Int) + off = (tgt : Int)) (hd : decode cc pc = .ok (.if_icmp .eq off, 3)) {k : zv_K} (hk : ∀ pc lv st S D, k pc lv st S D = some o → zv_G p l e R s m args below meth c Q nL b x cA dD n0 sl0 o pc lv st S D) (h : zv_i2 st (fun a b2 r => if a = b2 then k tgt lv r S D else k (pc + 3) lv r S D) = some o) : zv_G p l e R s m args below meth c Q nL b x cA dD n0 sl0 o pc lv st S D := by
  unfold zv_i2 at h; split at h
  · exact zq_br (fun H locs cells slots ls w1 w2 => lv_icmp_eq hC.1 hC.2.1 hd ht w1 w2) (hk _ _ _ _ _) (hk _ _ _ _ _) h
  · cases h
theorem zq_icmp_ne (hC : zv_C p R s m args meth c cc nL on ini b x cA dD xs d n0 sl0 o) {off : Int} {tgt : Nat} (ht : (pc : Int) + off = (tgt : Int)) (hd : decode cc pc = .ok (.if_icmp .ne off, 3)) {k : zv_K} (hk : ∀ pc lv st S D, k pc lv st S D = some o → zv_G p l e R s m args below meth c Q nL b x cA dD n0 sl0 o pc lv st S D) (h : zv_i2 st (fun a b2 r => if a = b2 then k (pc + 3) lv r S D else k tgt lv r S D) = some o) : zv_G p l e R s m args below meth c Q nL b x cA dD n0 sl0 o pc lv st S D := by
  unfold zv_i2 at h; split at h
  · exact zq_br (fun H locs cells slots ls w1 w2 => lv_icmp_ne hC.1 hC.2.1 hd ht w2 w1) (hk _ _ _ _ _) (hk _ _ _ _ _) h
  · cases h
theorem zq_icmp_lt (hC : zv_C p R s m args meth c cc nL on ini b x cA dD xs d n0 sl0 o) {off : Int} {tgt : Nat} (ht : (pc : Int) + off = (tgt : Int)) (hd : decode cc pc = .ok (.if_icmp .lt off, 3)) {k : zv_K} (hk : ∀ pc lv st S D, k pc lv st S D = some o → zv_G p l e R s m args below meth c Q nL b x cA dD n0 sl0 o pc lv st S D) (h : zv_i2 st (fun a b2 r => if a < b2 then k tgt lv r S D else k (pc + 3) lv r S D) = some o) : zv_G p l e R s m args below meth c Q nL b x cA dD n0 sl0 o pc lv st S D := by
  unfold zv_i2 at h; split at h
  · exact zq_br (fun H locs cells slots ls w1 w2 => lv_icmp_lt hC.1 hC.2.1 hd ht w1 w2) (hk _ _ _ _ _) (hk _ _ _ _ _) h
  · cases h
theorem zq_icmp_ge (hC : zv_C p R s m args meth c cc nL on ini b x cA dD xs d n0 sl0 o) {off : Int} {tgt : Nat} (ht : (pc : Int) + off = (tgt : Int)) (hd : decode cc pc = .ok (.if_icmp .ge off, 3)) {k : zv_K} (hk : ∀ pc lv st S D, k pc lv st S D = some o → zv_G p l e R s m args below meth c Q nL b x cA dD n0 sl0 o pc lv st S D) (h : zv_i2 st (fun a b2 r => if b2 ≤ a then k tgt lv r S D else k (pc + 3) lv r S D) = some o) : zv_G p l e R s m args below meth c Q nL b x cA dD n0 sl0 o pc lv st S D := by
  unfold zv_i2 at h; split at h
  · exact zq_br (fun H locs cells slots ls w1 w2 => lv_icmp_ge hC.1 hC.2.1 hd ht w1 w2) (hk _ _ _ _ _) (hk _ _ _ _ _) h
  · cases h
theorem zq_icmp_gt (hC : zv_C p R s m args meth c cc nL on ini b x cA dD xs d n0 sl0 o) {off : Int} {tgt : Nat} (ht : (pc : Int) + off = (tgt : Int)) (hd : decode cc pc = .ok (.if_icmp .gt off, 3)) {k : zv_K} (hk : ∀ pc lv st S D, k pc lv st S D = some o → zv_G p l e R s m args below meth c Q nL b x cA dD n0 sl0 o pc lv st S D) (h : zv_i2 st (fun a b2 r => if b2 < a then k tgt lv r S D else k (pc + 3) lv r S D) = some o) : zv_G p l e R s m args below meth c Q nL b x cA dD n0 sl0 o pc lv st S D := by
  unfold zv_i2 at h; split at h
  · exact zq_br (fun H locs cells slots ls w1 w2 => lv_icmp_gt hC.1 hC.2.1 hd ht w1 w2) (hk _ _ _ _ _) (hk _ _ _ _ _) h
  · cases h
theorem zq_icmp_le (hC : zv_C p R s m args meth c cc nL on ini b x cA dD xs d n0 sl0 o) {off : Int} {tgt : Nat} (ht : (pc : Int) + off = (tgt : Int)) (hd : decode cc pc = .ok (.if_icmp .le off, 3)) {k : zv_K} (hk : ∀ pc lv st S D, k pc lv st S D = some o → zv_G p l e R s m args below meth c Q nL b x cA dD n0 sl0 o pc lv st S D) (h : zv_i2 st (fun a b2 r => if a ≤ b2 then k tgt lv r S D else k (pc + 3) lv r S D) = some o) : zv_G p l e R s m args below meth c Q nL b x cA dD n0 sl0 o pc lv st S D := by
  unfold zv_i2 at h; split at h
  · exact zq_br (fun H locs cells slots ls w1 w2 => lv_icmp_le hC.1 hC.2.1 hd ht w1 w2) (hk _ _ _ _ _) (hk _ _ _ _ _) h
  · cases h
theorem zq_goto (hC : zv_C p R s m args meth c cc nL on ini b x cA dD xs d n0 sl0 o) {off : Int} {tgt : Nat} (ht : (pc : Int) + off = (tgt : Int)) (hd : decode cc pc = .ok (.goto off, 3)) {k : zv_K} (hk : ∀ pc lv st S D, k pc lv st S D = some o → zv_G p l e R s m args below meth c Q nL b x cA dD n0 sl0 o pc lv st S D) (h : k tgt lv st S D = some o) : zv_G p l e R s m args below meth c Q nL b x cA dD n0 sl0 o pc lv st S D := by
  exact zq_step (fun H locs cells slots ls _ w => lv_goto hC.1 hC.2.1 hd ht w) (hk _ _ _ _ _ h)
end ZQ
end
section
/-! ===== rows that read and write cells ===== -/
section ZH
variable {p : Program} {l : Launch} {e : Env} {R : Room} {s : State} {m : MethodId} {args : Array Value} {below : List Frame} {meth : Method} {c : Code} {Q : State → Prop}
variable {cc : ByteArray} {nL on : Nat} {ini : Bool} {b : Nat} {x : Nat → Nat} {cA : Nat → ClassId} {dD : va_G} {xs : Nat × (Nat → Int32)} {d n0 sl0 : Nat} {o : zv_O}
variable {pc pc' : Nat} {lv lv' : zv_L} {st st' : List Value} {S S' : zv_S} {D D' : zv_D}
theorem zv_ad_in {q : Nat} (hw : zv_wf S) (h : (S.2.2.1 q).1 < 14) : q < S.1 ∧ zv_ad b x q = b + q := by
  have hq := hw.2.1 q h
  refine ⟨hq, ?_⟩
  unfold zv_ad
  rw [if_pos (Nat.lt_of_lt_of_le hq hw.1)]
theorem zv_blt {a n : Nat} (h : a < n) : Nat.blt a n = true := by simp [h]
theorem zv_in_of {i : Int32} {n : Nat} (h : zv_in i n = true) : vp_in i n := by
  unfold zv_in at h
  simp only [Bool.and_eq_true, Bool.not_eq_true', decide_eq_false_iff_not] at h
  have h2 : i.toNatClampNeg < n := by simpa using h.2
  intro q
  rcases q with q | q
  · exact h.1 q
  · omega
theorem zn_ft9 : ∀ ci, ci < 10 → ∀ k, k < zn_nf ci → zn_ft ci k ≠ 9 := by decide +kernel
theorem zq_getf (hC : zv_C p R s m args meth c cc nL on ini b x cA dD xs d n0 sl0 o) {i ci kf ft : Nat} (hci : ci < 10) (hkf : kf < zn_nf ci) (hft : zn_ft ci kf = ft) (hl : Cond.fieldLink (zn_own on) i (zn_own ci) (zn_T ci kf).2.1 (zn_T ci kf).2.2.1 ∈ zgw) (hd : decode cc pc = .ok (.getfield i, 3)) {k : zv_K} (hk : ∀ pc lv st S D, k pc lv st S D = some o → zv_G p l e R s m args below meth c Q nL b x cA dD n0 sl0 o pc lv st S D)
    (h : zv_a1 st (fun q r => bif Nat.beq (S.2.2.1 q).1 ci then (bif Nat.beq ft 0 then k (pc + 3) lv (.int (D.1 q kf) :: r) S D else bif Nat.beq ft 1 then k (pc + 3) lv (.long (D.2 q kf) :: r) S D else (S.2.2.2 q kf).bind fun a => k (pc + 3) lv (.ref a :: r) S D) else none) = some o) : zv_G p l e R s m args below meth c Q nL b x cA dD n0 sl0 o pc lv st S D := by
  unfold zv_a1 at h; split at h
  · rename_i q r
    dsimp only at h
    cases hq : Nat.beq (S.2.2.1 q).1 ci with
    | false => rw [hq] at h; cases h
    | true =>
      rw [hq] at h
      have hq' : (S.2.2.1 q).1 = ci := Nat.eq_of_beq_eq_true hq
      have key : ∀ v, zv_fv b x S D q kf ft = zv_vl b x v → zv_G p l e R s m args below meth c Q nL b x cA dD n0 sl0 o (pc + 3) lv (v :: r) S D → zv_G p l e R s m args below meth c Q nL b x cA dD n0 sl0 o pc lv (.ref q :: r) S D := by
        intro v hv hg
        refine zq_rd (fun H locs cells slots ls hH hS w => ?_) hg
        obtain ⟨hlt, had⟩ := zv_ad_in (b := b) (x := x) hH.1 (by rw [hq']; omega : (S.2.2.1 q).1 < 14)
        show W p l e R s m args below meth c H locs cells slots Q (F0 m pc ls (.ref (zv_ad b x q) :: r.map (zv_vl b x)))
        rw [had]
        exact va_get (D := dD) (ci := ci) (v := zv_vl b x v) (C := zn_own ci) (T := zn_T ci) (N := zn_nf ci) hC.1 hC.2.1 hC.2.2.2.2.1 (zn_words hci) hC.2.2.2.1 hC.2.2.2.2.2.1.1 hH.2 q ((zv_ws_at b x cA S D hlt).trans (by rw [zv_ce_o b x cA S D hq' hci])) (zn_cls hci) kf hkf (hC.2.2.2.2.1 _ hl) (fun y hy => by rw [zn_decl ci hci kf hkf] at hy; exact hy) ((zv_fs_at b x S D q ci hkf).trans (by rw [hft, hv])) hd w
      cases h0 : Nat.beq ft 0 with
      | true =>
        rw [h0] at h
        exact key _ (by unfold zv_fv; rw [h0]; rfl) (hk _ _ _ _ _ h)
      | false =>
        rw [h0] at h
        cases h1 : Nat.beq ft 1 with
        | true =>
          rw [h1] at h
          exact key _ (by unfold zv_fv; rw [h0, h1]; rfl) (hk _ _ _ _ _ h)
        | false =>
          rw [h1] at h
          cases hr : S.2.2.2 q kf with
          | none => rw [hr] at h; cases h
          | some a =>
            rw [hr] at h
            exact key (.ref a) (by unfold zv_fv; rw [h0, h1, hr]; rfl) (hk _ _ _ _ _ h)
  · cases h
theorem zq_putf (hC : zv_C p R s m args meth c cc nL on ini b x cA dD xs d n0 sl0 o) {i ci kf ft : Nat} (hci : ci < 10) (hkf : kf < zn_nf ci) (hft : zn_ft ci kf = ft) (hl : Cond.fieldLink (zn_own on) i (zn_own ci) (zn_T ci kf).2.1 (zn_T ci kf).2.2.1 ∈ zgw) (hf1 : ft < 2 → (zn_T ci kf).2.2.2 = false) (hf2 : ¬ ft < 2 → (zn_T ci kf).2.2.2 = true ∧ ini = true ∧ on = ci) (hd : decode cc pc = .ok (.putfield i, 3)) {k : zv_K} (hk : ∀ pc lv st S D, k pc lv st S D = some o → zv_G p l e R s m args below meth c Q nL b x cA dD n0 sl0 o pc lv st S D) {al : Bool}
    (h : (bif Nat.beq ft 0 then zv_i1 st fun v r => zv_a1 r fun q r => bif Nat.beq (S.2.2.1 q).1 ci then k (pc + 3) lv r S (zv_w D.1 q kf v, D.2) else none
      else bif Nat.beq ft 1 then zv_l1 st fun v r => zv_a1 r fun q r => bif Nat.beq (S.2.2.1 q).1 ci then k (pc + 3) lv r S (D.1, zv_wl D.2 q kf v) else none
      else bif al then zv_a1 st fun a r => zv_a1 r fun q r => bif Nat.beq (S.2.2.1 q).1 ci then k (pc + 3) lv r (zv_rw S q kf a) D else none
      else none) = some o) : zv_G p l e R s m args below meth c Q nL b x cA dD n0 sl0 o pc lv st S D := by
  cases h0 : Nat.beq ft 0 with
  | true =>
    rw [h0] at h
    replace h : zv_i1 st (fun v r => zv_a1 r fun q r => bif Nat.beq (S.2.2.1 q).1 ci then k (pc + 3) lv r S (zv_w D.1 q kf v, D.2) else none) = some o := h
    have hf0 : ft = 0 := Nat.eq_of_beq_eq_true h0
    unfold zv_i1 at h; split at h
    · dsimp only at h; unfold zv_a1 at h; split at h
      · rename_i v _ q r
        dsimp only at h
        cases hq : Nat.beq (S.2.2.1 q).1 ci with
        | false => rw [hq] at h; cases h
        | true =>
          rw [hq] at h
          have hq' : (S.2.2.1 q).1 = ci := Nat.eq_of_beq_eq_true hq
          have hty : zn_ty ci kf = .int := by
            have := zn_tys ci hci kf hkf
            rw [hft, hf0] at this
            revert this
            cases zn_ty ci kf <;> intro hh <;> first | rfl | cases hh
          refine zq_wr (S' := S) (D' := (zv_w D.1 q kf v, D.2)) rfl rfl (fun H locs cells slots ls hH hS hl2 w => ?_) (hk _ _ _ _ _ h)
          obtain ⟨hlt, had⟩ := zv_ad_in (b := b) (x := x) hH.1 (by rw [hq']; omega : (S.2.2.1 q).1 < 14)
          show W p l e R s m args below meth c H locs cells slots Q (F0 m pc ls (.int v :: .ref (zv_ad b x q) :: r.map (zv_vl b x)))
          rw [had]
          refine va_put (D := dD) (A := fun q => b ≤ q) (H0 := s.heap) (ci := ci) (v := .int v) (ty := .int) (C := zn_own ci) (T := zn_T ci) (N := zn_nf ci) hC.1 hC.2.1 hC.2.2.2.2.1 (zn_words hci) (zn_ty ci) (zn_parse hci) (zn_diff hci) hC.2.2.2.1 hC.2.2.2.2.2.1.1 hH.2 (zv_ws_D b x cA S D) hS q ((zv_ws_at b x cA S D hlt).trans (by rw [zv_ce_o b x cA S D hq' hci])) (zn_cls hci) kf hkf (hC.2.2.2.2.1 _ hl) (fun y hy => by rw [zn_decl ci hci kf hkf] at hy; exact hy) (hf1 (by omega)) (by rw [zn_parse hci kf hkf, hty]) rfl rfl (by rw [zv_fs_len]; exact hkf) hd (fun H1 locs1 hP1 hD1 hS1 => w H1 locs1 ⟨hH.1, ?_⟩ hS1)
          rw [zv_ws_set b x cA S S D (zv_w D.1 q kf v, D.2) rfl hlt (by
            rw [zv_ce_o b x cA S _ hq' hci, zv_fs_set b x S S D (zv_w D.1 q kf v, D.2) q ci hkf (v := .int v)]
            · rw [hft]; unfold zv_fv; rw [h0]; simp [zv_w, upd]
            · intro j hj
              unfold zv_fv
              simp [zv_w, upd, hj]) (fun j hj => zv_ce_congr b x cA rfl rfl (by simp [zv_w, hj]) rfl)] at hP1
          exact hP1
      · cases h
    · cases h
  | false =>
    rw [h0] at h
    cases h1 : Nat.beq ft 1 with
    | true =>
      rw [h1] at h
      replace h : zv_l1 st (fun v r => zv_a1 r fun q r => bif Nat.beq (S.2.2.1 q).1 ci then k (pc + 3) lv r S (D.1, zv_wl D.2 q kf v) else none) = some o := h
      have hf0 : ft = 1 := Nat.eq_of_beq_eq_true h1
      unfold zv_l1 at h; split at h
      · dsimp only at h; unfold zv_a1 at h; split at h
        · rename_i v _ q r
          dsimp only at h
          cases hq : Nat.beq (S.2.2.1 q).1 ci with
          | false => rw [hq] at h; cases h
          | true =>
            rw [hq] at h
            have hq' : (S.2.2.1 q).1 = ci := Nat.eq_of_beq_eq_true hq
            have hty : zn_ty ci kf = .long := by
              have := zn_tys ci hci kf hkf
              rw [hft, hf0] at this
              revert this
              cases zn_ty ci kf <;> intro hh <;> first | rfl | cases hh
            refine zq_wr (S' := S) (D' := (D.1, zv_wl D.2 q kf v)) rfl rfl (fun H locs cells slots ls hH hS hl2 w => ?_) (hk _ _ _ _ _ h)
            obtain ⟨hlt, had⟩ := zv_ad_in (b := b) (x := x) hH.1 (by rw [hq']; omega : (S.2.2.1 q).1 < 14)
            show W p l e R s m args below meth c H locs cells slots Q (F0 m pc ls (.long v :: .ref (zv_ad b x q) :: r.map (zv_vl b x)))
            rw [had]
            refine va_put (D := dD) (A := fun q => b ≤ q) (H0 := s.heap) (ci := ci) (v := .long v) (ty := .long) (C := zn_own ci) (T := zn_T ci) (N := zn_nf ci) hC.1 hC.2.1 hC.2.2.2.2.1 (zn_words hci) (zn_ty ci) (zn_parse hci) (zn_diff hci) hC.2.2.2.1 hC.2.2.2.2.2.1.1 hH.2 (zv_ws_D b x cA S D) hS q ((zv_ws_at b x cA S D hlt).trans (by rw [zv_ce_o b x cA S D hq' hci])) (zn_cls hci) kf hkf (hC.2.2.2.2.1 _ hl) (fun y hy => by rw [zn_decl ci hci kf hkf] at hy; exact hy) (hf1 (by omega)) (by rw [zn_parse hci kf hkf, hty]) rfl rfl (by rw [zv_fs_len]; exact hkf) hd (fun H1 locs1 hP1 hD1 hS1 => w H1 locs1 ⟨hH.1, ?_⟩ hS1)
            rw [zv_ws_set b x cA S S D (D.1, zv_wl D.2 q kf v) rfl hlt (by
              rw [zv_ce_o b x cA S _ hq' hci, zv_fs_set b x S S D (D.1, zv_wl D.2 q kf v) q ci hkf (v := .long v)]
              · rw [hft]; unfold zv_fv; rw [h0, h1]; simp [zv_wl, vp_updL]
              · intro j hj
                unfold zv_fv
                simp [zv_wl, vp_updL, hj]) (fun j hj => zv_ce_congr b x cA rfl rfl rfl (by simp [zv_wl, hj]))] at hP1
            exact hP1
        · cases h
      · cases h
    | false =>
      rw [h1] at h
      cases al with
      | false => cases h
      | true =>
        replace h : zv_a1 st (fun a r => zv_a1 r fun q r => bif Nat.beq (S.2.2.1 q).1 ci then k (pc + 3) lv r (zv_rw S q kf a) D else none) = some o := h
        have hge : ¬ ft < 2 := by
          intro hlt2
          have : ft = 0 ∨ ft = 1 := by omega
          rcases this with z | z
          · rw [z] at h0; cases h0
          · rw [z] at h1; cases h1
        obtain ⟨f1, f2, f3⟩ := hf2 hge
        unfold zv_a1 at h; split at h
        · dsimp only at h; split at h
          · rename_i a _ q r
            try dsimp only at h
            cases hq : Nat.beq (S.2.2.1 q).1 ci with
            | false => rw [hq] at h; cases h
            | true =>
              rw [hq] at h
              have hq' : (S.2.2.1 q).1 = ci := Nat.eq_of_beq_eq_true hq
              have hty : ((∃ n, zn_ty ci kf = .object n) ∨ ∃ t, zn_ty ci kf = .array t) := by
                have := zn_tys ci hci kf hkf
                have hz : ¬ zn_tyc (zn_ty ci kf) < 2 := by rw [this, hft]; exact hge
                have h9 : zn_tyc (zn_ty ci kf) ≠ 9 := by rw [this]; exact (zn_ft9 ci hci kf hkf)
                revert hz h9
                cases zn_ty ci kf with
                | object n => exact fun _ _ => Or.inl ⟨n, rfl⟩
                | array t => exact fun _ _ => Or.inr ⟨t, rfl⟩
                | int => exact fun hz _ => absurd (by decide) hz
                | long => exact fun hz _ => absurd (by decide) hz
                | _ => exact fun _ h9 => absurd rfl h9
              refine zq_wr (S' := zv_rw S q kf a) (D' := D) rfl rfl (fun H locs cells slots ls hH hS hl2 w => ?_) (hk _ _ _ _ _ h)
              obtain ⟨hlt, had⟩ := zv_ad_in (b := b) (x := x) hH.1 (by rw [hq']; omega : (S.2.2.1 q).1 < 14)
              show W p l e R s m args below meth c H locs cells slots Q (F0 m pc ls (.ref (zv_ad b x a) :: .ref (zv_ad b x q) :: r.map (zv_vl b x)))
              rw [had]
              refine va_putF (D := dD) (A := fun q => b ≤ q) (H0 := s.heap) (ci := ci) (v := .ref (zv_ad b x a)) (ty := zn_ty ci kf) (C := zn_own ci) (T := zn_T ci) (N := zn_nf ci) hC.1 hC.2.1 hC.2.2.2.2.1 (zn_words hci) (zn_ty ci) (zn_parse hci) (zn_diff hci) hC.2.2.2.1 hC.2.2.2.2.2.1.1 hH.2 (zv_ws_D b x cA S D) hS q ((zv_ws_at b x cA S D hlt).trans (by rw [zv_ce_o b x cA S D hq' hci])) (zn_cls hci) kf hkf (hC.2.2.2.2.1 _ hl) (fun y hy => by rw [zn_decl ci hci kf hkf] at hy; exact hy) f1 (hC.2.2.2.2.2.2.2.1 f2) (by rw [zn_decl ci hci kf hkf, f3]) (zn_parse hci kf hkf) (by rcases hty with ⟨n, e⟩ | ⟨t, e⟩ <;> rw [e] <;> rfl) (by rcases hty with ⟨n, e⟩ | ⟨t, e⟩ <;> rw [e] <;> rfl) (by rw [zv_fs_len]; exact hkf) hd (fun H1 locs1 hP1 hD1 hS1 => w H1 locs1 ⟨hH.1, ?_⟩ hS1)
              rw [zv_ws_set b x cA S (zv_rw S q kf a) D D rfl hlt (by
                rw [zv_ce_o b x cA (zv_rw S q kf a) _ hq' hci, zv_fs_set b x S (zv_rw S q kf a) D D q ci hkf (v := .ref (zv_ad b x a))]
                · rw [hft]; unfold zv_fv; rw [h0, h1]; simp [zv_rw, va_rf]
                · intro j hj
                  unfold zv_fv
                  simp [zv_rw, hj]) (fun j hj => zv_ce_congr b x cA rfl (by simp [zv_rw, hj]) rfl rfl)] at hP1
              exact hP1
          · cases h
        · cases h
theorem zq_iald (hC : zv_C p R s m args meth c cc nL on ini b x cA dD xs d n0 sl0 o) (hd : decode cc pc = .ok (.iaload, 1)) {k : zv_K} (hk : ∀ pc lv st S D, k pc lv st S D = some o → zv_G p l e R s m args below meth c Q nL b x cA dD n0 sl0 o pc lv st S D) {i : Int32} {a : Nat} {r : List Value} (hq : (S.2.2.1 a).1 = 11) (hi : zv_in i (S.2.2.1 a).2 = true) (h : k (pc + 1) lv (.int (D.1 a i.toNatClampNeg) :: r) S D = some o) : zv_G p l e R s m args below meth c Q nL b x cA dD n0 sl0 o pc lv (.int i :: .ref a :: r) S D := by
  refine zq_rd (fun H locs cells slots ls hH hS w => ?_) (hk _ _ _ _ _ h)
  obtain ⟨hlt, had⟩ := zv_ad_in (b := b) (x := x) hH.1 (by rw [hq]; decide : (S.2.2.1 a).1 < 14)
  show W p l e R s m args below meth c H locs cells slots Q (F0 m pc ls (.int i :: .ref (zv_ad b x a) :: r.map (zv_vl b x)))
  rw [had]
  exact va_iald hC.1 hC.2.1 hC.2.2.2.2.2.1.1 hH.2 a 1 ((zv_ws_at b x cA S D hlt).trans (by rw [zv_ce_a b x cA S D hq rfl rfl])) rfl (zv_in_of hi) hd w
theorem zq_cald (hC : zv_C p R s m args meth c cc nL on ini b x cA dD xs d n0 sl0 o) (hd : decode cc pc = .ok (.caload, 1)) {k : zv_K} (hk : ∀ pc lv st S D, k pc lv st S D = some o → zv_G p l e R s m args below meth c Q nL b x cA dD n0 sl0 o pc lv st S D) {i : Int32} {a : Nat} {r : List Value} (hq : (S.2.2.1 a).1 = 10) (hi : zv_in i (S.2.2.1 a).2 = true) (h : k (pc + 1) lv (.int (D.1 a i.toNatClampNeg) :: r) S D = some o) : zv_G p l e R s m args below meth c Q nL b x cA dD n0 sl0 o pc lv (.int i :: .ref a :: r) S D := by
  refine zq_rd (fun H locs cells slots ls hH hS w => ?_) (hk _ _ _ _ _ h)
  obtain ⟨hlt, had⟩ := zv_ad_in (b := b) (x := x) hH.1 (by rw [hq]; decide : (S.2.2.1 a).1 < 14)
  show W p l e R s m args below meth c H locs cells slots Q (F0 m pc ls (.int i :: .ref (zv_ad b x a) :: r.map (zv_vl b x)))
  rw [had]
  exact va_cald hC.1 hC.2.1 hC.2.2.2.2.2.1.1 hH.2 a 0 ((zv_ws_at b x cA S D hlt).trans (by rw [zv_ce_a b x cA S D hq rfl rfl])) rfl (zv_in_of hi) hd w
theorem zq_bald (hC : zv_C p R s m args meth c cc nL on ini b x cA dD xs d n0 sl0 o) (hd : decode cc pc = .ok (.baload, 1)) {k : zv_K} (hk : ∀ pc lv st S D, k pc lv st S D = some o → zv_G p l e R s m args below meth c Q nL b x cA dD n0 sl0 o pc lv st S D) {i : Int32} {a : Nat} {r : List Value} (hq : (S.2.2.1 a).1 = 12) (hi : zv_in i (S.2.2.1 a).2 = true) (h : k (pc + 1) lv (.int (D.1 a i.toNatClampNeg) :: r) S D = some o) : zv_G p l e R s m args below meth c Q nL b x cA dD n0 sl0 o pc lv (.int i :: .ref a :: r) S D := by
  refine zq_rd (fun H locs cells slots ls hH hS w => ?_) (hk _ _ _ _ _ h)
  obtain ⟨hlt, had⟩ := zv_ad_in (b := b) (x := x) hH.1 (by rw [hq]; decide : (S.2.2.1 a).1 < 14)
  show W p l e R s m args below meth c H locs cells slots Q (F0 m pc ls (.int i :: .ref (zv_ad b x a) :: r.map (zv_vl b x)))
  rw [had]
  exact va_zald hC.1 hC.2.1 hC.2.2.2.2.2.1.1 hH.2 a 2 ((zv_ws_at b x cA S D hlt).trans (by rw [zv_ce_a b x cA S D hq rfl rfl])) rfl (zv_in_of hi) hd w
theorem zq_aald (hC : zv_C p R s m args meth c cc nL on ini b x cA dD xs d n0 sl0 o) (hd : decode cc pc = .ok (.aaload, 1)) {k : zv_K} (hk : ∀ pc lv st S D, k pc lv st S D = some o → zv_G p l e R s m args below meth c Q nL b x cA dD n0 sl0 o pc lv st S D) {i : Int32} {a a2 : Nat} {r : List Value} (hq : (S.2.2.1 a).1 = 13) (hi : zv_in i (S.2.2.1 a).2 = true) (hr : S.2.2.2 a i.toNatClampNeg = some a2) (h : k (pc + 1) lv (.ref a2 :: r) S D = some o) : zv_G p l e R s m args below meth c Q nL b x cA dD n0 sl0 o pc lv (.int i :: .ref a :: r) S D := by
  refine zq_rd (fun H locs cells slots ls hH hS w => ?_) (hk _ _ _ _ _ h)
  obtain ⟨hlt, had⟩ := zv_ad_in (b := b) (x := x) hH.1 (by rw [hq]; decide : (S.2.2.1 a).1 < 14)
  show W p l e R s m args below meth c H locs cells slots Q (F0 m pc ls (.int i :: .ref (zv_ad b x a) :: r.map (zv_vl b x)))
  rw [had]
  refine va_aldq hC.1 hC.2.1 hC.2.2.2.2.2.1.1 hH.2 a 3 ((zv_ws_at b x cA S D hlt).trans (by rw [zv_ce_q b x cA S D hq])) rfl (zv_in_of hi) hd ?_
  rw [hr]
  exact w
theorem zq_sald (hC : zv_C p R s m args meth c cc nL on ini b x cA dD xs d n0 sl0 o) (hd : decode cc pc = .ok (.iaload, 1)) {k : zv_K} (hk : ∀ pc lv st S D, k pc lv st S D = some o → zv_G p l e R s m args below meth c Q nL b x cA dD n0 sl0 o pc lv st S D) {i : Int32} {a : Nat} {r : List Value} (hq : (S.2.2.1 a).1 = 21) (hi : zv_in i xs.1 = true) (h : k (pc + 1) lv (.int (xs.2 i.toNatClampNeg) :: r) S D = some o) : zv_G p l e R s m args below meth c Q nL b x cA dD n0 sl0 o pc lv (.int i :: .ref a :: r) S D := by
  refine zq_rd (fun H locs cells slots ls hH hS w => ?_) (hk _ _ _ _ _ h)
  have ha := hH.1.2.2.1 a hq
  subst ha
  show W p l e R s m args below meth c H locs cells slots Q (F0 m pc ls (.int i :: .ref (x 1000000) :: r.map (zv_vl b x)))
  have hxb := hC.2.2.2.2.2.1.2.2.2.2.2.2.1
  exact va_sld hC.1 hC.2.1 hC.2.2.2.2.2.1.2.2.2.2.2.1 (by have := hC.2.2.2.2.2.2.1; omega) (by show ¬ b ≤ _; omega) hS (zv_in_of hi) hd w
theorem zq_fald (hC : zv_C p R s m args meth c cc nL on ini b x cA dD xs d n0 sl0 o) (hd : decode cc pc = .ok (.iaload, 1)) {k : zv_K} (hk : ∀ pc lv st S D, k pc lv st S D = some o → zv_G p l e R s m args below meth c Q nL b x cA dD n0 sl0 o pc lv st S D) {i : Int32} {a : Nat} {r : List Value} (hq : (S.2.2.1 a).1 = 22) (hi : zv_in i 5 = true) (h : k (pc + 1) lv (.int (zv_fa i.toNatClampNeg) :: r) S D = some o) : zv_G p l e R s m args below meth c Q nL b x cA dD n0 sl0 o pc lv (.int i :: .ref a :: r) S D := by
  refine zq_rd (fun H locs cells slots ls hH hS w => ?_) (hk _ _ _ _ _ h)
  have ha := hH.1.2.2.2.1 a hq
  subst ha
  show W p l e R s m args below meth c H locs cells slots Q (F0 m pc ls (.int i :: .ref (x 1000002) :: r.map (zv_vl b x)))
  exact va_ti hC.1 hC.2.1 hC.2.2.2.2.2.1.2.2.2.2.1 hS (zv_in_of hi) rfl hd w
theorem zq_lald (hC : zv_C p R s m args meth c cc nL on ini b x cA dD xs d n0 sl0 o) (hd : decode cc pc = .ok (.laload, 1)) {k : zv_K} (hk : ∀ pc lv st S D, k pc lv st S D = some o → zv_G p l e R s m args below meth c Q nL b x cA dD n0 sl0 o pc lv st S D) {i : Int32} {a : Nat} {r : List Value} (hq : (S.2.2.1 a).1 = 24) (hi : zv_in i 5 = true) (h : k (pc + 1) lv (.long (zv_un i.toNatClampNeg) :: r) S D = some o) : zv_G p l e R s m args below meth c Q nL b x cA dD n0 sl0 o pc lv (.int i :: .ref a :: r) S D := by
  refine zq_rd (fun H locs cells slots ls hH hS w => ?_) (hk _ _ _ _ _ h)
  have ha := hH.1.2.2.2.2 a hq
  subst ha
  show W p l e R s m args below meth c H locs cells slots Q (F0 m pc ls (.int i :: .ref (x 1000001) :: r.map (zv_vl b x)))
  exact va_tl hC.1 hC.2.1 hC.2.2.2.2.2.1.2.2.1 hS (zv_in_of hi) rfl hd w
theorem zq_gets (hC : zv_C p R s m args meth c cc nL on ini b x cA dD xs d n0 sl0 o) {i q : Nat} (hl : (q = 1000001 ∧ Cond.fieldLink (zn_own on) i "HiddenExits" "UNITS" "[J" ∈ zgw) ∨ (q = 1000002 ∧ Cond.fieldLink (zn_own on) i "HiddenExits" "FACTORIALS" "[I" ∈ zgw)) (hd : decode cc pc = .ok (.getstatic i, 3)) {k : zv_K} (hk : ∀ pc lv st S D, k pc lv st S D = some o → zv_G p l e R s m args below meth c Q nL b x cA dD n0 sl0 o pc lv st S D) (h : k (pc + 3) lv (.ref q :: st) S D = some o) : zv_G p l e R s m args below meth c Q nL b x cA dD n0 sl0 o pc lv st S D := by
  refine zq_rd (fun H locs cells slots ls hH hS w => ?_) (hk _ _ _ _ _ h)
  rcases hl with ⟨rfl, hl⟩ | ⟨rfl, hl⟩
  · exact va_gets hC.1 hC.2.1 hC.2.2.2.2.2.1.2.1 hS hC.2.2.2.1 (hC.2.2.2.2.1 _ hl) (fun _ q => q) hd w
  · exact va_gets hC.1 hC.2.1 hC.2.2.2.2.2.1.2.2.2.1 hS hC.2.2.2.1 (hC.2.2.2.2.1 _ hl) (fun _ q => q) hd w
theorem zq_iast (hC : zv_C p R s m args meth c cc nL on ini b x cA dD xs d n0 sl0 o) (hd : decode cc pc = .ok (.iastore, 1)) {k : zv_K} (hk : ∀ pc lv st S D, k pc lv st S D = some o → zv_G p l e R s m args below meth c Q nL b x cA dD n0 sl0 o pc lv st S D) {v i : Int32} {a : Nat} {r : List Value} (hq : (S.2.2.1 a).1 = 11) (hi : zv_in i (S.2.2.1 a).2 = true) (h : k (pc + 1) lv r S (zv_w D.1 a i.toNatClampNeg v, D.2) = some o) : zv_G p l e R s m args below meth c Q nL b x cA dD n0 sl0 o pc lv (.int v :: .int i :: .ref a :: r) S D := by
  refine zq_wr (S' := S) (D' := (zv_w D.1 a i.toNatClampNeg v, D.2)) rfl rfl (fun H locs cells slots ls hH hS hl2 w => ?_) (hk _ _ _ _ _ h)
  obtain ⟨hlt, had⟩ := zv_ad_in (b := b) (x := x) hH.1 (by rw [hq]; decide : (S.2.2.1 a).1 < 14)
  show W p l e R s m args below meth c H locs cells slots Q (F0 m pc ls (.int v :: .int i :: .ref (zv_ad b x a) :: r.map (zv_vl b x)))
  rw [had]
  refine va_iast (A := fun q => b ≤ q) (H0 := s.heap) hC.1 hC.2.1 hC.2.2.2.2.2.1.1 hH.2 (zv_ws_D b x cA S D) hS a 1 ((zv_ws_at b x cA S D hlt).trans (by rw [zv_ce_a b x cA S D hq rfl rfl])) rfl (zv_in_of hi) hd (fun H1 locs1 hP1 hD1 hS1 => w H1 locs1 ⟨hH.1, ?_⟩ hS1)
  rw [zv_ws_set b x cA S S D (zv_w D.1 a i.toNatClampNeg v, D.2) rfl hlt (by rw [zv_ce_a b x cA S _ hq rfl rfl]; simp [zv_w]) (fun j hj => zv_ce_congr b x cA rfl rfl (by simp [zv_w, hj]) rfl)] at hP1
  exact hP1
theorem zq_cast (hC : zv_C p R s m args meth c cc nL on ini b x cA dD xs d n0 sl0 o) (hd : decode cc pc = .ok (.castore, 1)) {k : zv_K} (hk : ∀ pc lv st S D, k pc lv st S D = some o → zv_G p l e R s m args below meth c Q nL b x cA dD n0 sl0 o pc lv st S D) {v i : Int32} {a : Nat} {r : List Value} (hq : (S.2.2.1 a).1 = 10) (hi : zv_in i (S.2.2.1 a).2 = true) (h : k (pc + 1) lv r S (zv_w D.1 a i.toNatClampNeg (vp_nar .char v), D.2) = some o) : zv_G p l e R s m args below meth c Q nL b x cA dD n0 sl0 o pc lv (.int v :: .int i :: .ref a :: r) S D := by
  refine zq_wr (S' := S) (D' := (zv_w D.1 a i.toNatClampNeg (vp_nar .char v), D.2)) rfl rfl (fun H locs cells slots ls hH hS hl2 w => ?_) (hk _ _ _ _ _ h)
  obtain ⟨hlt, had⟩ := zv_ad_in (b := b) (x := x) hH.1 (by rw [hq]; decide : (S.2.2.1 a).1 < 14)
  show W p l e R s m args below meth c H locs cells slots Q (F0 m pc ls (.int v :: .int i :: .ref (zv_ad b x a) :: r.map (zv_vl b x)))
  rw [had]
  refine va_cast (A := fun q => b ≤ q) (H0 := s.heap) hC.1 hC.2.1 hC.2.2.2.2.2.1.1 hH.2 (zv_ws_D b x cA S D) hS a 0 ((zv_ws_at b x cA S D hlt).trans (by rw [zv_ce_a b x cA S D hq rfl rfl])) rfl (zv_in_of hi) hd (fun H1 locs1 hP1 hD1 hS1 => w H1 locs1 ⟨hH.1, ?_⟩ hS1)
  rw [zv_ws_set b x cA S S D (zv_w D.1 a i.toNatClampNeg (vp_nar .char v), D.2) rfl hlt (by rw [zv_ce_a b x cA S _ hq rfl rfl]; simp [zv_w]) (fun j hj => zv_ce_congr b x cA rfl rfl (by simp [zv_w, hj]) rfl)] at hP1
  exact hP1
theorem zq_bast (hC : zv_C p R s m args meth c cc nL on ini b x cA dD xs d n0 sl0 o) (hd : decode cc pc = .ok (.bastore, 1)) {k : zv_K} (hk : ∀ pc lv st S D, k pc lv st S D = some o → zv_G p l e R s m args below meth c Q nL b x cA dD n0 sl0 o pc lv st S D) {v i : Int32} {a : Nat} {r : List Value} (hq : (S.2.2.1 a).1 = 12) (hi : zv_in i (S.2.2.1 a).2 = true) (h : k (pc + 1) lv r S (zv_w D.1 a i.toNatClampNeg (vp_nar .boolean v), D.2) = some o) : zv_G p l e R s m args below meth c Q nL b x cA dD n0 sl0 o pc lv (.int v :: .int i :: .ref a :: r) S D := by
  refine zq_wr (S' := S) (D' := (zv_w D.1 a i.toNatClampNeg (vp_nar .boolean v), D.2)) rfl rfl (fun H locs cells slots ls hH hS hl2 w => ?_) (hk _ _ _ _ _ h)
  obtain ⟨hlt, had⟩ := zv_ad_in (b := b) (x := x) hH.1 (by rw [hq]; decide : (S.2.2.1 a).1 < 14)
  show W p l e R s m args below meth c H locs cells slots Q (F0 m pc ls (.int v :: .int i :: .ref (zv_ad b x a) :: r.map (zv_vl b x)))
  rw [had]
  refine va_zast (A := fun q => b ≤ q) (H0 := s.heap) hC.1 hC.2.1 hC.2.2.2.2.2.1.1 hH.2 (zv_ws_D b x cA S D) hS a 2 ((zv_ws_at b x cA S D hlt).trans (by rw [zv_ce_a b x cA S D hq rfl rfl])) rfl (zv_in_of hi) hd (fun H1 locs1 hP1 hD1 hS1 => w H1 locs1 ⟨hH.1, ?_⟩ hS1)
  rw [zv_ws_set b x cA S S D (zv_w D.1 a i.toNatClampNeg (vp_nar .boolean v), D.2) rfl hlt (by rw [zv_ce_a b x cA S _ hq rfl rfl]; simp [zv_w]) (fun j hj => zv_ce_congr b x cA rfl rfl (by simp [zv_w, hj]) rfl)] at hP1
  exact hP1
theorem zq_alen (hC : zv_C p R s m args meth c cc nL on ini b x cA dD xs d n0 sl0 o) (hd : decode cc pc = .ok (.arraylength, 1)) {k : zv_K} (hk : ∀ pc lv st S D, k pc lv st S D = some o → zv_G p l e R s m args below meth c Q nL b x cA dD n0 sl0 o pc lv st S D) {a : Nat} {r : List Value} {al : Bool}
    (h : (bif Nat.beq (S.2.2.1 a).1 21 then (bif al then k (pc + 1) lv (.int (Int32.ofNat xs.1) :: r) S D else none) else bif Nat.ble 10 (S.2.2.1 a).1 then k (pc + 1) lv (.int (Int32.ofNat (S.2.2.1 a).2) :: r) S D else none) = some o) (hkd : (S.2.2.1 a).1 = 21 ∨ (S.2.2.1 a).1 = 10 ∨ (S.2.2.1 a).1 = 11 ∨ (S.2.2.1 a).1 = 12 ∨ (S.2.2.1 a).1 = 13 ∨ ((S.2.2.1 a).1 = 22 ∧ (S.2.2.1 a).2 = 5)) : zv_G p l e R s m args below meth c Q nL b x cA dD n0 sl0 o pc lv (.ref a :: r) S D := by
  rcases hkd with hq | hq | hq | hq | hq | ⟨hq, h5⟩
  · rw [hq] at h
    cases al with
    | false => cases h
    | true =>
      refine zq_rd (fun H locs cells slots ls hH hS w => ?_) (hk _ _ _ _ _ h)
      have ha := hH.1.2.2.1 a hq
      subst ha
      show W p l e R s m args below meth c H locs cells slots Q (F0 m pc ls (.ref (x 1000000) :: r.map (zv_vl b x)))
      have hxb := hC.2.2.2.2.2.1.2.2.2.2.2.2.1
      exact va_slen hC.1 hC.2.1 hC.2.2.2.2.2.1.2.2.2.2.2.1 (by have := hC.2.2.2.2.2.2.1; omega) (by show ¬ b ≤ _; omega) hS hd w
  · rw [hq] at h
    refine zq_rd (fun H locs cells slots ls hH hS w => ?_) (hk _ _ _ _ _ h)
    obtain ⟨hlt, had⟩ := zv_ad_in (b := b) (x := x) hH.1 (by rw [hq]; decide : (S.2.2.1 a).1 < 14)
    show W p l e R s m args below meth c H locs cells slots Q (F0 m pc ls (.ref (zv_ad b x a) :: r.map (zv_vl b x)))
    rw [had]
    exact va_alen (x := ((S.2.2.1 a).2, .inl (D.1 a))) hC.1 hC.2.1 hC.2.2.2.2.2.1.1 hH.2 a 0 ((zv_ws_at b x cA S D hlt).trans (by rw [zv_ce_a b x cA S D hq rfl rfl])) rfl rfl hd w
  · rw [hq] at h
    refine zq_rd (fun H locs cells slots ls hH hS w => ?_) (hk _ _ _ _ _ h)
    obtain ⟨hlt, had⟩ := zv_ad_in (b := b) (x := x) hH.1 (by rw [hq]; decide : (S.2.2.1 a).1 < 14)
    show W p l e R s m args below meth c H locs cells slots Q (F0 m pc ls (.ref (zv_ad b x a) :: r.map (zv_vl b x)))
    rw [had]
    exact va_alen (x := ((S.2.2.1 a).2, .inl (D.1 a))) hC.1 hC.2.1 hC.2.2.2.2.2.1.1 hH.2 a 1 ((zv_ws_at b x cA S D hlt).trans (by rw [zv_ce_a b x cA S D hq rfl rfl])) rfl rfl hd w
  · rw [hq] at h
    refine zq_rd (fun H locs cells slots ls hH hS w => ?_) (hk _ _ _ _ _ h)
    obtain ⟨hlt, had⟩ := zv_ad_in (b := b) (x := x) hH.1 (by rw [hq]; decide : (S.2.2.1 a).1 < 14)
    show W p l e R s m args below meth c H locs cells slots Q (F0 m pc ls (.ref (zv_ad b x a) :: r.map (zv_vl b x)))
    rw [had]
    exact va_alen (x := ((S.2.2.1 a).2, .inl (D.1 a))) hC.1 hC.2.1 hC.2.2.2.2.2.1.1 hH.2 a 2 ((zv_ws_at b x cA S D hlt).trans (by rw [zv_ce_a b x cA S D hq rfl rfl])) rfl rfl hd w
  · rw [hq] at h
    refine zq_rd (fun H locs cells slots ls hH hS w => ?_) (hk _ _ _ _ _ h)
    obtain ⟨hlt, had⟩ := zv_ad_in (b := b) (x := x) hH.1 (by rw [hq]; decide : (S.2.2.1 a).1 < 14)
    show W p l e R s m args below meth c H locs cells slots Q (F0 m pc ls (.ref (zv_ad b x a) :: r.map (zv_vl b x)))
    rw [had]
    exact va_alen (x := ((S.2.2.1 a).2, .inr (.inr (.inr (.inr fun i => (S.2.2.2 a i).map (zv_ad b x)))))) hC.1 hC.2.1 hC.2.2.2.2.2.1.1 hH.2 a 3 ((zv_ws_at b x cA S D hlt).trans (by rw [zv_ce_q b x cA S D hq])) rfl rfl hd w
  · rw [hq, h5] at h
    refine zq_rd (fun H locs cells slots ls hH hS w => ?_) (hk _ _ _ _ _ h)
    have ha := hH.1.2.2.2.1 a hq
    subst ha
    show W p l e R s m args below meth c H locs cells slots Q (F0 m pc ls (.ref (x 1000002) :: r.map (zv_vl b x)))
    obtain ⟨cell, q1, q2, q3, q4, q5, q6, q7⟩ := hC.2.2.2.2.2.1.2.2.2.2.1
    exact W.alen hC.1 hC.2.1 (by rw [hS.2.1 _ (Array.getElem?_eq_some_iff.mp q1).1 q7]; exact q1) q2 q5 rfl rfl hd w
theorem zq_acp (hC : zv_C p R s m args meth c cc nL on ini b x cA dD xs d n0 sl0 o) {i : Nat} (hl : Cond.methodLink (zn_own on) i arraycopyName ∈ zgw) (hw : Cond.native arraycopyName ∈ zgw ∧ Cond.static arraycopyName ∈ zgw ∧ Cond.initialized "java/lang/System" ∈ zgw) (hd : decode cc pc = .ok (.invokestatic i, 3)) {k : zv_K} (hk : ∀ pc lv st S D, k pc lv st S D = some o → zv_G p l e R s m args below meth c Q nL b x cA dD n0 sl0 o pc lv st S D) (h : zv_acp st S D (fun r D' => k (pc + 3) lv r S D') = some o) : zv_G p l e R s m args below meth c Q nL b x cA dD n0 sl0 o pc lv st S D := by
  unfold zv_acp at h; split at h
  · rename_i n dp a sp a0 r
    dsimp only at h
    cases hb : (Nat.beq (S.2.2.1 a0).1 11 && (Nat.beq (S.2.2.1 a).1 11 && (Nat.ble (zv_cs r) 8 && zv_cok sp dp n (S.2.2.1 a0).2 (S.2.2.1 a).2))) with
    | false => rw [hb] at h; cases h
    | true =>
      rw [hb] at h
      simp only [Bool.and_eq_true] at hb
      obtain ⟨g1, g2, g3, g4⟩ := hb
      have g1 : (S.2.2.1 a0).1 = 11 := Nat.eq_of_beq_eq_true g1
      have g2 : (S.2.2.1 a).1 = 11 := Nat.eq_of_beq_eq_true g2
      have g3 : zv_cs r ≤ 8 := Nat.le_of_ble_eq_true g3
      unfold zv_cok at g4
      simp only [Bool.and_eq_true, Bool.not_eq_true', decide_eq_false_iff_not] at g4
      obtain ⟨c1, c2, c3, c4, c5⟩ := g4
      refine zq_wr (S' := S) (D' := (zv_cp D.1 a0 a sp.toNatClampNeg dp.toNatClampNeg n.toNatClampNeg, D.2)) rfl rfl (fun H locs cells slots ls hH hS hl2 w => ?_) (hk _ _ _ _ _ h)
      obtain ⟨hlt, had⟩ := zv_ad_in (b := b) (x := x) hH.1 (by rw [g2]; decide : (S.2.2.1 a).1 < 14)
      obtain ⟨hlt0, had0⟩ := zv_ad_in (b := b) (x := x) hH.1 (by rw [g1]; decide : (S.2.2.1 a0).1 < 14)
      show W p l e R s m args below meth c H locs cells slots Q (F0 m pc ls (.int n :: .int dp :: .ref (zv_ad b x a) :: .int sp :: .ref (zv_ad b x a0) :: r.map (zv_vl b x)))
      rw [had, had0]
      refine va_copyi (A := fun q => b ≤ q) (H0 := s.heap) (ty := .int) hC.1 hC.2.1 (by rw [hC.2.2.1]; exact hl2.1.symm) hC.2.2.2.1 (hC.2.2.2.2.1 _ hl) (hC.2.2.2.2.1 _ hw.1) (hC.2.2.2.2.1 _ hw.2.1) (hC.2.2.2.2.1 _ hw.2.2) hC.2.2.2.2.2.1.1 hH.2 (zv_ws_D b x cA S D) hS a0 a 1 1 ((zv_ws_at b x cA S D hlt0).trans (by rw [zv_ce_a b x cA S D g1 rfl rfl])) ((zv_ws_at b x cA S D hlt).trans (by rw [zv_ce_a b x cA S D g2 rfl rfl])) rfl rfl rfl c1 c2 c3 (Nat.le_of_ble_eq_true c4) (Nat.le_of_ble_eq_true c5) (fun _ _ => rfl) (by have := hC.2.2.2.2.2.2.2.2.1; omega) (by
        rw [zv_cs_sum, zv_cs_map]
        have := hC.2.2.2.2.2.2.2.2.2.1
        have e7 : nativeFrameWords "java/lang/System" "arraycopy" 5 = 7 := by decide +kernel
        omega) hd (fun H1 locs1 hP1 hD1 hS1 => w H1 locs1 ⟨hH.1, ?_⟩ hS1)
      rw [zv_ws_set b x cA S S D (zv_cp D.1 a0 a sp.toNatClampNeg dp.toNatClampNeg n.toNatClampNeg, D.2) rfl hlt (by rw [zv_ce_a b x cA S _ g2 rfl rfl]; simp [zv_cp]) (fun j hj => zv_ce_congr b x cA rfl rfl (by simp [zv_cp, hj]) rfl)] at hP1
      exact hP1
  · cases h
theorem zq_obj (hC : zv_C p R s m args meth c cc nL on ini b x cA dD xs d n0 sl0 o) {i : Nat} (hl : Cond.methodLink (zn_own on) i objectInit ∈ zgw) (hw : Cond.instanceMethod objectInit ∈ zgw ∧ Cond.code objectInit ⟨#[0xb1]⟩ 1 none ∈ zgw) (hd : decode cc pc = .ok (.invokespecial i, 3)) {k : zv_K} (hk : ∀ pc lv st S D, k pc lv st S D = some o → zv_G p l e R s m args below meth c Q nL b x cA dD n0 sl0 o pc lv st S D) (h : zv_a1 st (fun _ r => bif Nat.ble (zv_cs r) 8 then k (pc + 3) lv r S D else none) = some o) : zv_G p l e R s m args below meth c Q nL b x cA dD n0 sl0 o pc lv st S D := by
  unfold zv_a1 at h; split at h
  · rename_i q r
    dsimp only at h
    cases hb : Nat.ble (zv_cs r) 8 with
    | false => rw [hb] at h; cases h
    | true =>
      rw [hb] at h
      refine zq_step (fun H locs cells slots ls hl2 w => ?_) (hk _ _ _ _ _ h)
      have hb' : zv_cs r ≤ 8 := Nat.le_of_ble_eq_true hb
      refine W.objInit hC.1 hC.2.1 hC.2.2.2.1 (hC.2.2.2.2.1 _ hl) (hC.2.2.2.2.1 _ hw.1) (hC.2.2.2.2.1 _ hw.2) (a := zv_ad b x q) (rest := r.map (zv_vl b x)) rfl (by rw [hC.2.2.1]; exact hl2.1) rfl hd (by have := hC.2.2.2.2.2.2.2.2.1; omega) ?_ w
      rw [zv_cs_sum, zv_cs_map]
      show 2 * 0 + _ + 12 ≤ _
      have := hC.2.2.2.2.2.2.2.2.2.1
      omega
  · cases h
end ZH
end
section
/-! ===== rows that make cells; switches ===== -/
section ZA
variable {p : Program} {l : Launch} {e : Env} {R : Room} {s : State} {m : MethodId} {args : Array Value} {below : List Frame} {meth : Method} {c : Code} {Q : State → Prop}
variable {cc : ByteArray} {nL on : Nat} {ini : Bool} {b : Nat} {x : Nat → Nat} {cA : Nat → ClassId} {dD : va_G} {xs : Nat × (Nat → Int32)} {d n0 sl0 : Nat} {o : zv_O}
variable {pc pc' : Nat} {lv lv' : zv_L} {st st' : List Value} {S S' : zv_S} {D D' : zv_D}
/-- the heap is no larger than what was made -/
theorem zq_size {H : Heap} {locs : List Loc} {cells slots : Nat} {g : JFrame} (h : H.size ≤ s.heap.size + cells → W p l e R s m args below meth c H locs cells slots Q g) : W p l e R s m args below meth c H locs cells slots Q g := fun T hT X => h (by rw [← hT]; exact X.heapSize) T hT X
theorem zv_size {H : Heap} {locs : List Loc} (hH : zv_H b x cA dD S D H) (hS : va_S (fun q => b ≤ q) s.heap H locs) (hs : s.heap.size = b + n0) (hn : n0 ≤ S.1) (hle : H.size ≤ s.heap.size + (S.1 - n0)) : H.size = b + S.1 := by
  have h1 := hS.1
  by_cases h0 : S.1 = 0
  · omega
  · have h2 : b + (S.1 - 1) < H.size := (hH.2 (S.1 - 1) _ (zv_ws_at b x cA S D (by omega))).lt
    omega
theorem zv_wf_new {kd N : Nat} (hw : zv_wf S) (h1 : S.1 ≤ 100000) (hk : kd < 14) : zv_wf (zv_new S kd N) := by
  obtain ⟨w1, w2, w3, w4, w5⟩ := hw
  refine ⟨?_, fun q h => ?_, fun q h => ?_, fun q h => ?_, fun q h => ?_⟩
  · show S.1 + 1 ≤ 1000000
    omega
  · show q < S.1 + 1
    by_cases hq : q = S.1
    · omega
    · have : (S.2.2.1 q).1 < 14 := by simpa [zv_new, hq] using h
      have := w2 q this
      omega
  · by_cases hq : q = S.1
    · have h : kd = 21 := by simpa [zv_new, hq] using h
      omega
    · exact w3 q (by simpa [zv_new, hq] using h)
  · by_cases hq : q = S.1
    · have h : kd = 22 := by simpa [zv_new, hq] using h
      omega
    · exact w4 q (by simpa [zv_new, hq] using h)
  · by_cases hq : q = S.1
    · have h : kd = 24 := by simpa [zv_new, hq] using h
      omega
    · exact w5 q (by simpa [zv_new, hq] using h)
theorem zv_ws_new (kd N : Nat) : zv_ws b x cA (zv_new S kd N) (zv_zer S D) = zv_ws b x cA S D ++ [(b + S.1, zv_ce b x cA (zv_new S kd N) (zv_zer S D) S.1)] := by
  unfold zv_ws
  rw [show (zv_new S kd N).1 = S.1 + 1 from rfl, List.range_succ, List.map_append]
  congr 1
  apply List.map_congr_left
  intro q hq
  have hq' : q ≠ S.1 := Nat.ne_of_lt (List.mem_range.mp hq)
  rw [zv_ce_congr b x cA (S := S) (S' := zv_new S kd N) (D := D) (D' := zv_zer S D) (by simp [zv_new, hq']) (by simp [zv_new, hq']) (by simp [zv_zer, hq']) (by simp [zv_zer, hq'])]
theorem zq_al (hC : zv_C p R s m args meth c cc nL on ini b x cA dD xs d n0 sl0 o) {kd N : Nat} (hn1 : S.1 ≤ 100000) (hkd : kd < 14) (row : ∀ (H : Heap) (locs : List Loc) (cells slots : Nat) (ls : Array Slot), H.size = b + S.1 → cells + 1 ≤ R.cells → slots + N ≤ R.slots → (∀ H1 : Heap, va_at dD vwCl (b + S.1, zv_ce b x cA (zv_new S kd N) (zv_zer S D) S.1) H1 → (∀ q, q < b + S.1 → H1[q]? = H[q]?) → H1.size = b + S.1 + 1 → W p l e R s m args below meth c H1 locs (cells + 1) (slots + N) Q (F0 m pc' ls (st'.map (zv_vl b x)))) → W p l e R s m args below meth c H locs cells slots Q (F0 m pc ls (st.map (zv_vl b x))))
    (hg : zv_G p l e R s m args below meth c Q nL b x cA dD n0 sl0 o pc' lv st' (zv_new S kd N) (zv_zer S D)) : zv_G p l e R s m args below meth c Q nL b x cA dD n0 sl0 o pc lv st S D := by
  have e1 : (zv_new S kd N).1 = S.1 + 1 := rfl
  have e2 : (zv_new S kd N).2.1 = S.2.1 + N := rfl
  have hm := hg.1
  rw [e1, e2] at hm
  refine ⟨⟨by omega, by omega⟩, fun H locs ls h1 h2 h3 h4 h5 => zq_size fun hle => ?_⟩
  have hsz := zv_size h1 h4 hC.2.2.2.2.2.2.1 h2 hle
  have hRc := hC.2.2.2.2.2.2.2.2.2.2.1
  have hRs := hC.2.2.2.2.2.2.2.2.2.2.2
  refine row H locs _ _ ls hsz (by omega) (by omega) fun H1 q1 q2 q3 => ?_
  have hP1 : va_P dD vwCl (zv_ws b x cA (zv_new S kd N) (zv_zer S D)) H1 := by
    rw [zv_ws_new]
    refine va_P.app (h1.2.kept fun k y hy => q2 y.1 ?_) (fun k y hy => ?_)
    · have := (h1.2 k y hy).lt
      omega
    · match k, hy with
      | 0, hy => cases hy; exact q1
      | k + 1, hy => cases hy
  have := hg.2 H1 locs ls ⟨zv_wf_new h1.1 hn1 hkd, hP1⟩ (by omega) (by omega) ⟨by have := h4.1; omega, fun q g1 g2 => by
    have hq : q < b + S.1 := by
      have := h4.1
      omega
    rw [q2 q hq]
    exact h4.2.1 q g1 g2, h4.2.2⟩ h5
  rw [show (zv_new S kd N).1 - n0 = S.1 - n0 + 1 by omega, show (zv_new S kd N).2.1 - sl0 = S.2.1 - sl0 + N by omega] at this
  exact this
theorem zq_new (hC : zv_C p R s m args meth c cc nL on ini b x cA dD xs d n0 sl0 o) {i ci : Nat} (hci : ci < 10) (hl : Cond.classLink (zn_own on) i (zn_own ci) ∈ zgw) (hi : Cond.instantiable (zn_own ci) (zn_nf ci) ∈ zgw) (hin : Cond.initialized (zn_own ci) ∈ zgw) (hd : decode cc pc = .ok (.new i, 3)) {k : zv_K} (hk : ∀ pc lv st S D, k pc lv st S D = some o → zv_G p l e R s m args below meth c Q nL b x cA dD n0 sl0 o pc lv st S D) (hn1 : S.1 ≤ 100000) (h : k (pc + 3) lv (.ref S.1 :: st) (zv_new S ci (zn_nf ci)) (zv_zer S D) = some o) : zv_G p l e R s m args below meth c Q nL b x cA dD n0 sl0 o pc lv st S D := by
  refine zq_al hC hn1 (by omega) (fun H locs cells slots ls hsz hc1 hc2 w => ?_) (hk _ _ _ _ _ h)
  have hKn := hC.2.2.2.2.2.1.1.1 ci _ (zn_cls hci)
  refine W.newcK hC.1 hC.2.1 hC.2.2.2.1 (hC.2.2.2.2.1 _ hl) (hC.2.2.2.2.1 _ hi) (hC.2.2.2.2.1 _ hin) rfl hd hc1 hc2 hKn.2.1 hsz fun H1 kC hkC e1 z1 o1 => ?_
  have had : zv_ad b x S.1 = b + S.1 := by unfold zv_ad; rw [if_pos (by omega)]
  have := w H1 (by
    rw [zv_ce_o b x cA (zv_new S ci (zn_nf ci)) _ (ci := ci) (by simp [zv_new]) hci]
    refine ⟨_, zn_cls hci, (u_born (zn_ty ci) hC.2.2.2.2.1 (zn_words hci) hKn hkC e1 (zn_parse hci)).to fun j hj => ?_⟩
    have hj : j < zn_nf ci := hj
    show _ = (zv_fs b x (zv_new S ci (zn_nf ci)) (zv_zer S D) S.1 ci).getD j .null
    rw [List.getD_eq_getElem?_getD, zv_fs_at _ _ _ _ _ _ hj, Option.getD_some]
    have ht := zn_tys ci hci j hj
    have h9 := zn_ft9 ci hci j hj
    rw [← ht] at h9 ⊢
    unfold zv_fv
    revert h9
    cases zn_ty ci j <;> intro h9 <;> first | (exact absurd rfl h9) | (simp [zn_tyc, zv_zer, zv_new, defaultValue, va_rf] <;> rfl)) o1 z1
  rw [List.map_cons, show zv_vl b x (.ref S.1) = .ref (b + S.1) from congrArg Value.ref had] at this
  exact this
theorem zq_newa_int (hC : zv_C p R s m args meth c cc nL on ini b x cA dD xs d n0 sl0 o) (hw : Cond.arrayClass .int ∈ zgw) (hd : decode cc pc = .ok (.newarray .int, 2)) {k : zv_K} (hk : ∀ pc lv st S D, k pc lv st S D = some o → zv_G p l e R s m args below meth c Q nL b x cA dD n0 sl0 o pc lv st S D) {n : Int32} {r : List Value} (hn : ¬ n < 0) (hn2 : n.toNatClampNeg ≤ 65536) (hn1 : S.1 ≤ 100000) (h : k (pc + 2) lv (.ref S.1 :: r) (zv_new S 11 n.toNatClampNeg) (zv_zer S D) = some o) : zv_G p l e R s m args below meth c Q nL b x cA dD n0 sl0 o pc lv (.int n :: r) S D := by
  refine zq_al hC hn1 (by omega) (fun H locs cells slots ls hsz hc1 hc2 w => ?_) (hk _ _ _ _ _ h)
  refine va_newaK hC.1 hC.2.1 (atype := .int) (hC.2.2.2.2.1 _ hw) rfl hd rfl hn rfl (by
    have e4 : componentBytes (newarray.typeOf .int) ≤ 8 := by decide
    calc n.toNatClampNeg * componentBytes (newarray.typeOf .int) ≤ 65536 * 8 := Nat.mul_le_mul hn2 e4
      _ ≤ 536870912 := by decide) hc1 hc2 hsz fun H1 cA' e1 z1 o1 hAr hNm => ?_
  have hcA : cA' = cA 11 := Option.some.inj (hNm.symm.trans (hC.2.2.2.2.2.1.1.2 1 _ rfl).2)
  subst hcA
  have had : zv_ad b x S.1 = b + S.1 := by unfold zv_ad; rw [if_pos (by omega)]
  have := w H1 (by
    rw [zv_ce_a b x cA (zv_new S 11 n.toNatClampNeg) _ (t := 11) (by simp [zv_new]) rfl rfl]
    show H1[b + S.1]? = some (vp_cell _ _)
    rw [e1]
    simp [zv_new, zv_zer, vp_cell, defaultValue, newarray.typeOf]) o1 z1
  rw [List.map_cons, show zv_vl b x (.ref S.1) = .ref (b + S.1) from congrArg Value.ref had] at this
  exact this
theorem zq_newa_char (hC : zv_C p R s m args meth c cc nL on ini b x cA dD xs d n0 sl0 o) (hw : Cond.arrayClass .char ∈ zgw) (hd : decode cc pc = .ok (.newarray .char, 2)) {k : zv_K} (hk : ∀ pc lv st S D, k pc lv st S D = some o → zv_G p l e R s m args below meth c Q nL b x cA dD n0 sl0 o pc lv st S D) {n : Int32} {r : List Value} (hn : ¬ n < 0) (hn2 : n.toNatClampNeg ≤ 65536) (hn1 : S.1 ≤ 100000) (h : k (pc + 2) lv (.ref S.1 :: r) (zv_new S 10 n.toNatClampNeg) (zv_zer S D) = some o) : zv_G p l e R s m args below meth c Q nL b x cA dD n0 sl0 o pc lv (.int n :: r) S D := by
  refine zq_al hC hn1 (by omega) (fun H locs cells slots ls hsz hc1 hc2 w => ?_) (hk _ _ _ _ _ h)
  refine va_newaK hC.1 hC.2.1 (atype := .char) (hC.2.2.2.2.1 _ hw) rfl hd rfl hn rfl (by
    have e4 : componentBytes (newarray.typeOf .char) ≤ 8 := by decide
    calc n.toNatClampNeg * componentBytes (newarray.typeOf .char) ≤ 65536 * 8 := Nat.mul_le_mul hn2 e4
      _ ≤ 536870912 := by decide) hc1 hc2 hsz fun H1 cA' e1 z1 o1 hAr hNm => ?_
  have hcA : cA' = cA 10 := Option.some.inj (hNm.symm.trans (hC.2.2.2.2.2.1.1.2 0 _ rfl).2)
  subst hcA
  have had : zv_ad b x S.1 = b + S.1 := by unfold zv_ad; rw [if_pos (by omega)]
  have := w H1 (by
    rw [zv_ce_a b x cA (zv_new S 10 n.toNatClampNeg) _ (t := 10) (by simp [zv_new]) rfl rfl]
    show H1[b + S.1]? = some (vp_cell _ _)
    rw [e1]
    simp [zv_new, zv_zer, vp_cell, defaultValue, newarray.typeOf]) o1 z1
  rw [List.map_cons, show zv_vl b x (.ref S.1) = .ref (b + S.1) from congrArg Value.ref had] at this
  exact this
theorem zq_newa_boolean (hC : zv_C p R s m args meth c cc nL on ini b x cA dD xs d n0 sl0 o) (hw : Cond.arrayClass .boolean ∈ zgw) (hd : decode cc pc = .ok (.newarray .boolean, 2)) {k : zv_K} (hk : ∀ pc lv st S D, k pc lv st S D = some o → zv_G p l e R s m args below meth c Q nL b x cA dD n0 sl0 o pc lv st S D) {n : Int32} {r : List Value} (hn : ¬ n < 0) (hn2 : n.toNatClampNeg ≤ 65536) (hn1 : S.1 ≤ 100000) (h : k (pc + 2) lv (.ref S.1 :: r) (zv_new S 12 n.toNatClampNeg) (zv_zer S D) = some o) : zv_G p l e R s m args below meth c Q nL b x cA dD n0 sl0 o pc lv (.int n :: r) S D := by
  refine zq_al hC hn1 (by omega) (fun H locs cells slots ls hsz hc1 hc2 w => ?_) (hk _ _ _ _ _ h)
  refine va_newaK hC.1 hC.2.1 (atype := .boolean) (hC.2.2.2.2.1 _ hw) rfl hd rfl hn rfl (by
    have e4 : componentBytes (newarray.typeOf .boolean) ≤ 8 := by decide
    calc n.toNatClampNeg * componentBytes (newarray.typeOf .boolean) ≤ 65536 * 8 := Nat.mul_le_mul hn2 e4
      _ ≤ 536870912 := by decide) hc1 hc2 hsz fun H1 cA' e1 z1 o1 hAr hNm => ?_
  have hcA : cA' = cA 12 := Option.some.inj (hNm.symm.trans (hC.2.2.2.2.2.1.1.2 2 _ rfl).2)
  subst hcA
  have had : zv_ad b x S.1 = b + S.1 := by unfold zv_ad; rw [if_pos (by omega)]
  have := w H1 (by
    rw [zv_ce_a b x cA (zv_new S 12 n.toNatClampNeg) _ (t := 12) (by simp [zv_new]) rfl rfl]
    show H1[b + S.1]? = some (vp_cell _ _)
    rw [e1]
    simp [zv_new, zv_zer, vp_cell, defaultValue, newarray.typeOf]) o1 z1
  rw [List.map_cons, show zv_vl b x (.ref S.1) = .ref (b + S.1) from congrArg Value.ref had] at this
  exact this
theorem zq_anew (hC : zv_C p R s m args meth c cc nL on ini b x cA dD xs d n0 sl0 o) {i : Nat} (hl : Cond.classLink (zn_own on) i "HiddenExits$State" ∈ zgw) (hd : decode cc pc = .ok (.anewarray i, 3)) {k : zv_K} (hk : ∀ pc lv st S D, k pc lv st S D = some o → zv_G p l e R s m args below meth c Q nL b x cA dD n0 sl0 o pc lv st S D) {n : Int32} {r : List Value} (hn : ¬ n < 0) (hn2 : n.toNatClampNeg ≤ 65536) (hn1 : S.1 ≤ 100000) (h : k (pc + 3) lv (.ref S.1 :: r) (zv_new S 13 n.toNatClampNeg) (zv_zer S D) = some o) : zv_G p l e R s m args below meth c Q nL b x cA dD n0 sl0 o pc lv (.int n :: r) S D := by
  refine zq_al hC hn1 (by omega) (fun H locs cells slots ls hsz hc1 hc2 w => ?_) (hk _ _ _ _ _ h)
  refine W.anew hC.1 hC.2.1 hC.2.2.2.1 (hC.2.2.2.2.1 _ hl) (va_AO.use hC.2.2.2.2.2.1.2.2.2.2.2.2.2.2) rfl hd rfl hn (by omega) hc1 hc2 fun cA' kA comp f1 f2 f3 f4 => ?_
  obtain ⟨kA2, comp2, g1, g2, g3, g4⟩ := (hC.2.2.2.2.2.1.1.2 3 _ rfl).2
  have hcA : cA' = cA 13 := Option.some.inj (f1.symm.trans g4)
  subst hcA
  have had : zv_ad b x S.1 = b + S.1 := by unfold zv_ad; rw [if_pos (by omega)]
  have := w (H.push { cls := cA 13, slots := Array.replicate n.toNatClampNeg .null, vm := .none }) (by
    rw [zv_ce_q b x cA (zv_new S 13 n.toNatClampNeg) _ (by simp [zv_new])]
    show (H.push _)[b + S.1]? = some (vp_cell _ _)
    rw [← hsz, Array.getElem?_push_size, arrV_new]
    simp [zv_new, vp_cell, va_rf]) (fun q hq => by rw [Array.getElem?_push, if_neg (by omega)]) (by rw [Array.size_push, hsz])
  rw [List.map_cons, show zv_vl b x (.ref S.1) = .ref (b + S.1) from congrArg Value.ref had, ← hsz] at this
  exact this
theorem zq_aast (hC : zv_C p R s m args meth c cc nL on ini b x cA dD xs d n0 sl0 o) (hd : decode cc pc = .ok (.aastore, 1)) {k : zv_K} (hk : ∀ pc lv st S D, k pc lv st S D = some o → zv_G p l e R s m args below meth c Q nL b x cA dD n0 sl0 o pc lv st S D) {i : Int32} {a a2 : Nat} {r : List Value} (hq : (S.2.2.1 a).1 = 13) (hq2 : (S.2.2.1 a2).1 = 7) (hi : zv_in i (S.2.2.1 a).2 = true) (h : k (pc + 1) lv r (zv_rw S a i.toNatClampNeg a2) D = some o) : zv_G p l e R s m args below meth c Q nL b x cA dD n0 sl0 o pc lv (.ref a2 :: .int i :: .ref a :: r) S D := by
  refine zq_wr (S' := zv_rw S a i.toNatClampNeg a2) (D' := D) rfl rfl (fun H locs cells slots ls hH hS hl2 w => ?_) (hk _ _ _ _ _ h)
  obtain ⟨hlt, had⟩ := zv_ad_in (b := b) (x := x) hH.1 (by rw [hq]; decide : (S.2.2.1 a).1 < 14)
  obtain ⟨hlt2, had2⟩ := zv_ad_in (b := b) (x := x) hH.1 (by rw [hq2]; decide : (S.2.2.1 a2).1 < 14)
  show W p l e R s m args below meth c H locs cells slots Q (F0 m pc ls (.ref (zv_ad b x a2) :: .int i :: .ref (zv_ad b x a) :: r.map (zv_vl b x)))
  rw [had, had2]
  refine va_astq (A := fun q => b ≤ q) (H0 := s.heap) (r := (zn_own 7, zn_T 7, zn_nf 7)) hC.1 hC.2.1 hC.2.2.2.2.2.1.1 hH.2 (zv_ws_D b x cA S D) hS a 3 a2 7 ((zv_ws_at b x cA S D hlt).trans (by rw [zv_ce_q b x cA S D hq])) rfl ((zv_ws_at b x cA S D hlt2).trans (by rw [zv_ce_o b x cA S D hq2 (by decide)])) (zn_cls (by decide)) (zv_in_of hi) hd (fun H1 locs1 hP1 hD1 hS1 => w H1 locs1 ⟨hH.1, ?_⟩ hS1)
  rw [zv_ws_set b x cA S (zv_rw S a i.toNatClampNeg a2) D D rfl hlt (by
    rw [zv_ce_q b x cA (zv_rw S a i.toNatClampNeg a2) _ hq]
    have e : (fun j => ((zv_rw S a i.toNatClampNeg a2).2.2.2 a j).map (zv_ad b x)) = va_up (fun j => (S.2.2.2 a j).map (zv_ad b x)) i.toNatClampNeg (some (b + a2)) := by
      funext j
      by_cases hj : j = i.toNatClampNeg
      · simp [zv_rw, va_up, hj, had2]
      · simp [zv_rw, va_up, hj]
    rw [e]
    rfl) (fun j hj => zv_ce_congr b x cA rfl (by simp [zv_rw, hj]) rfl rfl)] at hP1
  exact hP1
def zc_ts (pc lo : Int) : List Int → List (Int32 × Nat) → Bool
  | [], [] => true
  | o :: os, (v, t) :: cs => decide (v.toInt = lo) && (decide (pc + o = (t : Int)) && zc_ts pc (lo + 1) os cs)
  | _, _ => false
def zc_ls (pc : Int) : List (Int × Int) → List (Int32 × Nat) → Bool
  | [], [] => true
  | (a, o) :: os, (v, t) :: cs => decide (v.toInt = a) && (decide (pc + o = (t : Int)) && zc_ls pc os cs)
  | _, _ => false
theorem zc_ts_spec (a : Int32) (dflt : Nat) (F : Nat → Option zv_O) : ∀ (offs : List Int) (cs : List (Int32 × Nat)) (lo : Int), zc_ts (pc : Int) lo offs cs = true → zv_sw cs a dflt F = some o →
    (∃ (j : Nat) (off : Int) (t : Nat), offs[j]? = some off ∧ a.toInt = lo + j ∧ (pc : Int) + off = (t : Int) ∧ F t = some o) ∨ ((a.toInt < lo ∨ lo + offs.length ≤ a.toInt) ∧ F dflt = some o) := by
  intro offs
  induction offs with
  | nil =>
    intro cs lo hc h
    cases cs with
    | nil => exact Or.inr ⟨by simp; omega, h⟩
    | cons q r => cases hc
  | cons off os ih =>
    intro cs lo hc h
    cases cs with
    | nil => cases hc
    | cons q r =>
      obtain ⟨v, t⟩ := q
      unfold zc_ts at hc
      simp only [Bool.and_eq_true, decide_eq_true_eq] at hc
      obtain ⟨c1, c2, c3⟩ := hc
      unfold zv_sw at h
      by_cases ha : a = v
      · rw [if_pos ha] at h
        exact Or.inl ⟨0, off, t, rfl, by rw [ha, c1]; simp, c2, h⟩
      · rw [if_neg ha] at h
        have hne : a.toInt ≠ lo := fun q => ha (Int32.toInt_inj.mp (by rw [c1, q]))
        rcases ih r (lo + 1) c3 h with ⟨j, off', t', g1, g2, g3, g4⟩ | ⟨g1, g2⟩
        · exact Or.inl ⟨j + 1, off', t', by simpa using g1, by rw [g2]; push_cast; omega, g3, g4⟩
        · refine Or.inr ⟨?_, g2⟩
          rw [List.length_cons]
          push_cast
          omega
theorem zc_ls_spec (a : Int32) (dflt : Nat) (F : Nat → Option zv_O) {df : Int} (hdf : (pc : Int) + df = (dflt : Int)) : ∀ (ps : List (Int × Int)) (cs : List (Int32 × Nat)), zc_ls (pc : Int) ps cs = true → zv_sw cs a dflt F = some o →
    ∃ (t : Nat), (pc : Int) + Op.lookupswitch.offset ps df a.toInt = (t : Int) ∧ F t = some o := by
  intro ps
  induction ps with
  | nil =>
    intro cs hc h
    cases cs with
    | nil => exact ⟨dflt, hdf, h⟩
    | cons q r => cases hc
  | cons u os ih =>
    intro cs hc h
    cases cs with
    | nil => cases hc
    | cons q r =>
      obtain ⟨v, t⟩ := q
      obtain ⟨ua, uo⟩ := u
      unfold zc_ls at hc
      simp only [Bool.and_eq_true, decide_eq_true_eq] at hc
      obtain ⟨c1, c2, c3⟩ := hc
      unfold zv_sw at h
      by_cases ha : a = v
      · rw [if_pos ha] at h
        refine ⟨t, ?_, h⟩
        rw [Op.lookupswitch.offset_cons, if_pos (by rw [ha, c1])]
        exact c2
      · rw [if_neg ha] at h
        rw [lv_osw ha c1]
        exact ih r c3 h
theorem zq_tsw (hC : zv_C p R s m args meth c cc nL on ini b x cA dD xs d n0 sl0 o) {df lo hi : Int} {offs : Array Int} {len dflt : Nat} {cs : List (Int32 × Nat)} (hdf : (pc : Int) + df = (dflt : Int)) (hhi : hi = lo + offs.toList.length - 1) (hcs : zc_ts (pc : Int) lo offs.toList cs = true) (hd : decode cc pc = .ok (.tableswitch df lo hi offs, len)) {k : zv_K} (hk : ∀ pc lv st S D, k pc lv st S D = some o → zv_G p l e R s m args below meth c Q nL b x cA dD n0 sl0 o pc lv st S D) (h : zv_i1 st (fun a r => zv_sw cs a dflt fun t => k t lv r S D) = some o) : zv_G p l e R s m args below meth c Q nL b x cA dD n0 sl0 o pc lv st S D := by
  unfold zv_i1 at h; split at h
  · rename_i a r
    dsimp only at h
    rcases zc_ts_spec a dflt _ offs.toList cs lo hcs h with ⟨j, off, t, g1, g2, g3, g4⟩ | ⟨g1, g2⟩
    · have hlt : j < offs.toList.length := (List.getElem?_eq_some_iff.mp g1).1
      refine zq_step (fun H locs cells slots ls _ w => lv_tableIn hC.1 hC.2.1 hd (by omega) (by omega) (off := off) ?_ g3 w) (hk _ _ _ _ _ g4)
      rw [show (a.toInt - lo).toNat = j by omega, ← Array.getElem?_toList]
      exact g1
    · exact zq_step (fun H locs cells slots ls _ w => lv_tableOut hC.1 hC.2.1 hd (by omega) hdf w) (hk _ _ _ _ _ g2)
  · cases h
theorem zq_lsw (hC : zv_C p R s m args meth c cc nL on ini b x cA dD xs d n0 sl0 o) {df : Int} {ps : Array (Int × Int)} {len dflt : Nat} {cs : List (Int32 × Nat)} (hdf : (pc : Int) + df = (dflt : Int)) (hso : (ps.toList.zip (ps.toList.drop 1)).all (fun (a, next) => a.1 < next.1) = true) (hcs : zc_ls (pc : Int) ps.toList cs = true) (hd : decode cc pc = .ok (.lookupswitch df ps, len)) {k : zv_K} (hk : ∀ pc lv st S D, k pc lv st S D = some o → zv_G p l e R s m args below meth c Q nL b x cA dD n0 sl0 o pc lv st S D) (h : zv_i1 st (fun a r => zv_sw cs a dflt fun t => k t lv r S D) = some o) : zv_G p l e R s m args below meth c Q nL b x cA dD n0 sl0 o pc lv st S D := by
  unfold zv_i1 at h; split at h
  · rename_i a r
    dsimp only at h
    obtain ⟨t, g1, g2⟩ := zc_ls_spec a dflt _ hdf ps.toList cs hcs h
    exact zq_step (fun H locs cells slots ls _ w => lv_lookup hC.1 hC.2.1 hd hso rfl g1 w) (hk _ _ _ _ _ g2)
  · cases h
end ZA
end
section
/-! ===== calls ===== -/
theorem zg_in {ws : List Cond} (h : ∀ w ∈ ws, w ∈ zgw) : GoodIn zgw ws := fun w hw => ⟨h w hw, good_of_word (zgw_good (h w hw))⟩
theorem zg_wo {mt : zv_Mt} (h : zv_mok mt) : ∀ w ∈ zv_wo mt, w ∈ zgw := fun w hw => (List.mem_cons.mp hw).elim (fun e => e ▸ h.1) (fun q => q)
theorem znw_of {w : Cond} (h : w ∈ znw) : ∃ a i y hh, w = .methodLinkNest a i y hh := by
  have h2 := (List.mem_filter.mp h).2
  cases w with
  | methodLinkNest a i y hh => exact ⟨a, i, y, hh, rfl⟩
  | _ => cases h2
theorem zv_env_at {b : Nat} {x : Nat → Nat} {cA : Nat → ClassId} {dD : va_G} {xs : Nat × (Nat → Int32)} {s U : State} {H : Heap} {locs : List Loc} (h : zv_env b x cA dD xs s) (hS : va_S (fun q => b ≤ q) s.heap H locs) (hb : b ≤ s.heap.size) (hU : U.heap = H) (hW : s.WarmedH U.vm) : zv_env b x cA dD xs U := by
  obtain ⟨h1, h2, h3, h4, h5, h6, h7, h8, h9⟩ := h
  have hq : ∀ a : Nat, a < s.heap.size → ¬ b ≤ a → U.heap[a]? = s.heap[a]? := fun a g1 g2 => by rw [hU]; exact hS.2.1 a g1 g2
  refine ⟨h1.moved hW.alike, (h2.kept hq).moved hW.alike, (h3.kept hq).moved hW.alike, (h4.kept hq).moved hW.alike, (h5.kept hq).moved hW.alike, (h6.kept (hq _ (by omega) (by omega))).moved hW.alike, h7, fun w hw => ?_, h9.moved hW.alike⟩
  obtain ⟨a, i, y, hh, rfl⟩ := znw_of hw
  exact va_Nw.warmM hW (h8 _ hw)
theorem zv_blind {b : Nat} {x : Nat → Nat} {cA : Nat → ClassId} {dD : va_G} {xs : Nat × (Nat → Int32)} {As : List Value} {S : zv_S} {D : zv_D} : FrameBlind (zv_Pc b x cA dD xs As S D) := by
  intro a U g mk q
  obtain ⟨q0, q1, q2, h1, h2, h3, h4, h5, h6, h7, h8, h9⟩ := q
  have hr : U.vm.Alike (U.calling g mk a).vm := Vm.Alike.refl U.vm
  refine ⟨q0, q1, q2, h1.moved hr, h2.moved hr, h3.moved hr, h4.moved hr, h5.moved hr, h6.moved hr, h7, fun w hw => ?_, h9.moved hr⟩
  obtain ⟨a', i, y, hh, rfl⟩ := znw_of hw
  exact va_Nw.same rfl rfl (h8 _ hw)
section ZC
variable {p : Program} {l : Launch} {e : Env} {R : Room} {s : State} {m : MethodId} {args : Array Value} {below : List Frame} {meth : Method} {c : Code} {Q : State → Prop}
variable {cc : ByteArray} {nL on : Nat} {ini : Bool} {b : Nat} {x : Nat → Nat} {cA : Nat → ClassId} {dD : va_G} {xs : Nat × (Nat → Int32)} {d n0 sl0 : Nat} {o : zv_O}
variable {pc pc' : Nat} {lv lv' : zv_L} {st st' : List Value} {S S' : zv_S} {D D' : zv_D}
theorem zq_after {rk : Nat} {r : zv_R} {H : Heap} {locs : List Loc} {cells slots mc ms : Nat} {ls : Array Slot} {st0 rest : List Value} {a : Array Value} (run : va_Run p l e R s m args below meth c H locs cells slots mc ms (F0 m pc ls st0) (rest.map (zv_vl b x)) (zv_Qc b x cA dD rk r S' D' a) (fun q => b ≤ q)) (hS : va_S (fun q => b ≤ q) s.heap H locs)
    (w : ∀ (H1 : Heap) (locs1 : List Loc), zv_H b x cA dD S' D' H1 → va_S (fun q => b ≤ q) s.heap H1 locs1 → W p l e R s m args below meth c H1 locs1 (cells + mc) (slots + ms) Q (F0 m (pc + 3) ls ((zv_psh rk r rest).map (zv_vl b x)))) : W p l e R s m args below meth c H locs cells slots Q (F0 m pc ls st0) := by
  match rk, run, w with
  | 0, run, w =>
    refine va_callv (a := a) run hS (fun q _ h => h) (fun q h => h) fun u t H1 locs1 ht hvm hp hB hz hk1 hS1 => ?_
    rw [ht] at hB
    exact w H1 locs1 hB hS1
  | 1, run, w =>
    refine va_calli (a := a) run hS (fun q _ h => h) (fun q h => h) fun v u t H1 locs1 ht hvm hp hB hz hk1 hS1 => ?_
    rw [ht] at hB
    rw [hp]
    exact w H1 locs1 hB hS1
  | 2, run, w =>
    refine va_calll (a := a) run hS (fun q _ h => h) (fun q h => h) fun v u t H1 locs1 ht hvm hp hB hz hk1 hS1 => ?_
    rw [ht] at hB
    rw [hp]
    exact w H1 locs1 hB hS1
  | k + 3, run, w =>
    refine va_callr (a := a) run hS (fun q _ h => h) (fun q h => h) fun u ra t H1 locs1 ht hvm hp hB hz hk1 hS1 => ?_
    rw [ht] at hB
    rw [hB.1]
    exact w H1 locs1 hB.2 hS1
/-- the room of a callee -/
theorem zq_room (hC : zv_C p R s m args meth c cc nL on ini b x cA dD xs d n0 sl0 o) {maxL mc ms : Nat} (hm : maxL ≤ 21) : (zv_rm d mc ms).frames + 1 ≤ R.frames ∧ 8 + (maxL + 11) + (zv_rm d mc ms).locals ≤ R.locals := by
  have h1 := hC.2.2.2.2.2.2.2.2.1
  have h2 := hC.2.2.2.2.2.2.2.2.2.1
  refine ⟨h1, ?_⟩
  show 8 + (maxL + 11) + 40 * d ≤ R.locals
  omega
theorem zq_pre (hC : zv_C p R s m args meth c cc nL on ini b x cA dD xs d n0 sl0 o) {H : Heap} {locs : List Loc} {As : List Value} (hsz : H.size = b + S.1) (h1 : zv_H b x cA dD S D H) (h4 : va_S (fun q => b ≤ q) s.heap H locs) : ∀ U : State, U.heap = H → s.WarmedH U.vm → zv_Pc b x cA dD xs As S D (As.map (zv_vl b x)).toArray U := fun U hU hW =>
  ⟨rfl, by rw [hU]; exact hsz, by rw [hU]; exact h1, zv_env_at hC.2.2.2.2.2.1 h4 (by have := hC.2.2.2.2.2.2.1; omega) hU hW⟩
theorem zq_stk (As rest : List Value) : (As.reverse ++ rest).map (zv_vl b x) = (As.map (zv_vl b x)).reverse ++ rest.map (zv_vl b x) := by
  rw [List.map_append, List.map_reverse]
theorem zq_W {rest : List Value} (h : zv_cs rest ≤ 8) : ((rest.map (zv_vl b x)).map fun v => v.category).sum ≤ 8 := by
  rw [zv_cs_sum, zv_cs_map]
  exact h
theorem zq_callV (hC : zv_C p R s m args meth c cc nL on ini b x cA dD xs d n0 sl0 o) {i q : Nat} {mt : zv_Mt} {Ps rest : List Value} {r : zv_R} (hmk : zv_mok mt) (hkd : mt.2.2.2.2.2.2.2.1 = 0) (hl : Cond.methodLink (zn_own on) i mt.1 ∈ zgw) (hd : decode cc pc = .ok (.invokevirtual i, 3)) (hqk : (S.2.2.1 q).1 = mt.2.2.2.2.2.2.1) (hlen : Ps.length + 1 = mt.2.2.2.2.1) (hcs : zv_cs rest ≤ 8) (hct : zv_ct l b x cA dD xs d mt (.ref q :: Ps) S D (r, S, D')) (hg : zv_G p l e R s m args below meth c Q nL b x cA dD n0 sl0 o (pc + 3) lv (zv_psh mt.2.2.2.2.2.1 r rest) S D') : zv_G p l e R s m args below meth c Q nL b x cA dD n0 sl0 o pc lv ((.ref q :: Ps).reverse ++ rest) S D := by
  refine ⟨hg.1, fun H locs ls h1 h2 h3 h4 h5 => zq_size fun hle => ?_⟩
  have hsz := zv_size h1 h4 hC.2.2.2.2.2.2.1 h2 hle
  obtain ⟨m1, m2, m3, m4, m5, m6, m7, m8⟩ := hmk
  rw [hkd] at m7
  obtain ⟨k1, k2, k3, k4⟩ := m7
  obtain ⟨hlt, had⟩ := zv_ad_in (b := b) (x := x) h1.1 (by rw [hqk]; omega : (S.2.2.1 q).1 < 14)
  rw [zq_stk]
  have hcw := cwV (R := R) (own := zn_own on) (index := i) (C := mt.1.cls) (mc := S.1 - S.1) (ms := S.2.1 - S.2.1) (rm := zv_rm d (S.1 - S.1) (S.2.1 - S.2.1)) Ps.length hC.2.2.2.2.1 (zg_in (ws := wsV (zn_own on) i mt.1.cls mt.1 (zv_wo mt)) (fun w hw => by
    rcases List.mem_append.mp hw with g | g
    · simp only [List.mem_cons, List.not_mem_nil, or_false] at g
      rcases g with rfl | rfl | rfl | rfl
      · exact hl
      · exact k1
      · exact k2
      · exact m2
    · exact (List.mem_cons.mp g).elim (fun e => e ▸ m1) (fun z => z))) rfl rfl rfl ⟨rfl, m4.1, m4.2, by
      revert k4
      cases parseMethodDescriptor mt.1.desc with
      | none => intro k4; cases k4
      | some sg =>
        intro k4
        have k4 : sg.parameters.length + 1 = mt.2.2.2.2.1 := Option.some.inj k4
        show some sg.parameters.length = some Ps.length
        rw [show sg.parameters.length = Ps.length by omega]⟩ (zq_room hC m6)
  refine zq_after (va_runV (As := Ps.map (zv_vl b x)) (b := zv_ad b x q) ⟨hC.1, hC.2.1, hC.2.2.1, hC.2.2.2.1, hC.2.2.2.2.1⟩ hct.2.2 hcw ⟨zv_blind, ?_, zq_pre hC (As := .ref q :: Ps) hsz h1 h4⟩ rfl (by rw [List.length_map]) h5.1 ?_ (lv_room (zq_W hcs)) hd ?_) h4 (fun H1 locs1 q1 q2 => ?_)
  · have := va_recv hC.2.2.2.2.2.1.1 h1.2 (zn_cls k3) ((zv_ws_at b x cA S D hlt).trans (by rw [zv_ce_o b x cA S D hqk k3]))
    rw [had, m5]
    exact this
  · show _ = (Ps.map (zv_vl b x)).reverse ++ .ref (zv_ad b x q) :: rest.map (zv_vl b x)
    rw [List.map_cons, List.reverse_cons, List.append_assoc]
    rfl
  · have := hC.2.2.2.2.2.2.2.2.2.2
    have := hg.1
    show (S.1 - n0) + (S.1 - S.1) ≤ R.cells ∧ (S.2.1 - sl0) + (S.2.1 - S.2.1) ≤ R.slots
    constructor <;> omega
  · have := hg.2 H1 locs1 ls q1 h2 h3 q2 h5
    rw [Nat.sub_self, Nat.sub_self]
    exact this
theorem zq_callS (hC : zv_C p R s m args meth c cc nL on ini b x cA dD xs d n0 sl0 o) {i : Nat} {mt : zv_Mt} {As rest : List Value} {r : zv_R} (hmk : zv_mok mt) (hkd : mt.2.2.2.2.2.2.2.1 = 1) (hl : Cond.methodLink (zn_own on) i mt.1 ∈ zgw ∨ ∃ host, Cond.methodLinkNest (zn_own on) i mt.1 host ∈ znw) (hd : decode cc pc = .ok (.invokestatic i, 3)) (hlen : As.length = mt.2.2.2.2.1) (hcs : zv_cs rest ≤ 8) (hct : zv_ct l b x cA dD xs d mt As S D (r, S, D')) (hg : zv_G p l e R s m args below meth c Q nL b x cA dD n0 sl0 o (pc + 3) lv (zv_psh mt.2.2.2.2.2.1 r rest) S D') : zv_G p l e R s m args below meth c Q nL b x cA dD n0 sl0 o pc lv (As.reverse ++ rest) S D := by
  refine ⟨hg.1, fun H locs ls h1 h2 h3 h4 h5 => zq_size fun hle => ?_⟩
  have hsz := zv_size h1 h4 hC.2.2.2.2.2.2.1 h2 hle
  obtain ⟨m1, m2, m3, m4, m5, m6, m7, m8⟩ := hmk
  rw [hkd] at m7
  obtain ⟨k1, k4⟩ := m7
  rw [zq_stk]
  have hpar : (parseMethodDescriptor mt.1.desc).map (fun q => q.parameters.length) = some As.length := by rw [hlen]; exact k4
  have hf : (S.1 - n0) + (S.1 - S.1) ≤ R.cells ∧ (S.2.1 - sl0) + (S.2.1 - S.2.1) ≤ R.slots := by
    have := hC.2.2.2.2.2.2.2.2.2.2
    have := hg.1
    constructor <;> omega
  rcases hl with hl | ⟨host, hl⟩
  · have hcw := va_cwS (R := R) (s := s) (args := args) (own := zn_own on) (index := i) (mc := S.1 - S.1) (ms := S.2.1 - S.2.1) (rm := zv_rm d (S.1 - S.1) (S.2.1 - S.2.1)) As.length hC.2.2.2.2.1 (zg_in (ws := va_wsS (zn_own on) i mt.1 (zv_wo mt)) (fun w hw => by
      rcases List.mem_append.mp hw with g | g
      · simp only [List.mem_cons, List.not_mem_nil, or_false] at g
        rcases g with rfl | rfl | rfl
        · exact hl
        · exact k1
        · exact m2
      · exact (List.mem_cons.mp g).elim (fun e => e ▸ m1) (fun z => z))) rfl rfl rfl ⟨m4.1, m4.2, hpar⟩ (zq_room hC m6)
    refine zq_after (va_runS (As := As.map (zv_vl b x)) ⟨hC.1, hC.2.1, hC.2.2.1, hC.2.2.2.1, hC.2.2.2.2.1⟩ hct.2.2 hcw ⟨zv_blind, zq_pre hC hsz h1 h4⟩ rfl (by rw [List.length_map]) h5.1 rfl (lv_room (zq_W hcs)) hd hf) h4 (fun H1 locs1 q1 q2 => ?_)
    have := hg.2 H1 locs1 ls q1 h2 h3 q2 h5
    rw [Nat.sub_self, Nat.sub_self]
    exact this
  · have hcw := va_cnB (R := R) (s := s) (args := args) (own := zn_own on) (host := host) (index := i) (mc := S.1 - S.1) (ms := S.2.1 - S.2.1) (rm := zv_rm d (S.1 - S.1) (S.2.1 - S.2.1)) As.length hC.2.2.2.2.1 (zg_in (ws := zv_wo mt) (fun w g => (List.mem_cons.mp g).elim (fun e => e ▸ m1) (fun z => z))) rfl rfl rfl (hC.2.2.2.2.2.1.2.2.2.2.2.2.2.1 _ hl) (hC.2.2.2.2.1 _ m2) ⟨m4.1, m4.2, hpar⟩ (zq_room hC m6)
    refine zq_after (va_runSN (As := As.map (zv_vl b x)) ⟨hC.1, hC.2.1, hC.2.2.1, hC.2.2.2.1, hC.2.2.2.2.1⟩ hct.2.2 ⟨hcw, hC.2.2.2.2.1 _ k1, trivial⟩ ⟨zv_blind, zq_pre hC hsz h1 h4⟩ rfl (by rw [List.length_map]) h5.1 rfl (lv_room (zq_W hcs)) hd hf) h4 (fun H1 locs1 q1 q2 => ?_)
    have := hg.2 H1 locs1 ls q1 h2 h3 q2 h5
    rw [Nat.sub_self, Nat.sub_self]
    exact this
theorem zq_callI (hC : zv_C p R s m args meth c cc nL on ini b x cA dD xs d n0 sl0 o) {i q : Nat} {mt : zv_Mt} {Ps rest : List Value} {o' : zv_O} (hmk : zv_mok mt) (hkd : mt.2.2.2.2.2.2.2.1 = 2) (hl : Cond.methodLink (zn_own on) i mt.1 ∈ zgw ∨ ∃ host, Cond.methodLinkNest (zn_own on) i mt.1 host ∈ znw) (hd : decode cc pc = .ok (.invokespecial i, 3)) (hlen : Ps.length + 1 = mt.2.2.2.2.1) (hcs : zv_cs rest ≤ 8) (hct : zv_ct l b x cA dD xs d mt (.ref q :: Ps) S D o') (hg : zv_G p l e R s m args below meth c Q nL b x cA dD n0 sl0 o (pc + 3) lv rest o'.2.1 o'.2.2) : zv_G p l e R s m args below meth c Q nL b x cA dD n0 sl0 o pc lv ((.ref q :: Ps).reverse ++ rest) S D := by
  obtain ⟨t1, t2, t3⟩ := hct
  refine ⟨⟨Nat.le_trans t1 hg.1.1, Nat.le_trans t2 hg.1.2⟩, fun H locs ls h1 h2 h3 h4 h5 => zq_size fun hle => ?_⟩
  have hsz := zv_size h1 h4 hC.2.2.2.2.2.2.1 h2 hle
  obtain ⟨m1, m2, m3, m4, m5, m6, m7, m8⟩ := hmk
  rw [hkd] at m7
  obtain ⟨k1, k2, k3, k5, k4⟩ := m7
  rw [k5] at t3
  rw [zq_stk]
  have hwo : zv_wo mt = Cond.code mt.1 mt.2.1 mt.2.2.1 none :: zgw := by unfold zv_wo; rw [k3]
  have hpar : (parseMethodDescriptor mt.1.desc).map (fun q => q.parameters.length) = some Ps.length := by
    revert k4
    cases parseMethodDescriptor mt.1.desc with
    | none => intro k4; cases k4
    | some sg =>
      intro k4
      have k4 : sg.parameters.length + 1 = mt.2.2.2.2.1 := Option.some.inj k4
      show some sg.parameters.length = some Ps.length
      rw [show sg.parameters.length = Ps.length by omega]
  have hf : (S.1 - n0) + (o'.2.1.1 - S.1) ≤ R.cells ∧ (S.2.1 - sl0) + (o'.2.1.2.1 - S.2.1) ≤ R.slots := by
    have := hC.2.2.2.2.2.2.2.2.2.2
    have := hg.1
    constructor <;> omega
  have hst : (List.map (zv_vl b x) (.ref q :: Ps)).reverse ++ rest.map (zv_vl b x) = (Ps.map (zv_vl b x)).reverse ++ .ref (zv_ad b x q) :: rest.map (zv_vl b x) := by
    rw [List.map_cons, List.reverse_cons, List.append_assoc]
    rfl
  have fin : ∀ (H1 : Heap) (locs1 : List Loc), zv_H b x cA dD o'.2.1 o'.2.2 H1 → va_S (fun q => b ≤ q) s.heap H1 locs1 → W p l e R s m args below meth c H1 locs1 (S.1 - n0 + (o'.2.1.1 - S.1)) (S.2.1 - sl0 + (o'.2.1.2.1 - S.2.1)) Q (F0 m (pc + 3) ls ((zv_psh 0 o'.1 rest).map (zv_vl b x))) := by
    intro H1 locs1 q1 q2
    have := hg.2 H1 locs1 ls q1 (by omega) (by omega) q2 h5
    rw [show o'.2.1.1 - n0 = S.1 - n0 + (o'.2.1.1 - S.1) by omega, show o'.2.1.2.1 - sl0 = S.2.1 - sl0 + (o'.2.1.2.1 - S.2.1) by omega] at this
    exact this
  rcases hl with hl | ⟨host, hl⟩
  · have hcw := cwI (R := R) (own := zn_own on) (index := i) (mc := o'.2.1.1 - S.1) (ms := o'.2.1.2.1 - S.2.1) (rm := zv_rm d (o'.2.1.1 - S.1) (o'.2.1.2.1 - S.2.1)) Ps.length hC.2.2.2.2.1 (zg_in (ws := zv_wo mt) (fun w g => (List.mem_cons.mp g).elim (fun e => e ▸ m1) (fun z => z))) hwo rfl rfl (hC.2.2.2.2.1 _ m2) (hC.2.2.2.2.1 _ hl) (hC.2.2.2.2.1 _ k1) k2 ⟨m4.1, m4.2, hpar⟩ (zq_room hC m6)
    exact zq_after (va_runI (As := Ps.map (zv_vl b x)) (b := zv_ad b x q) ⟨hC.1, hC.2.1, hC.2.2.1, hC.2.2.2.1, hC.2.2.2.2.1⟩ t3 hcw ⟨zv_blind, zq_pre hC (As := .ref q :: Ps) hsz h1 h4⟩ rfl (by rw [List.length_map]) h5.1 hst (lv_room (zq_W hcs)) hd hf) h4 fin
  · have hcw := va_cnB (R := R) (s := s) (args := args) (own := zn_own on) (host := host) (index := i) (mc := o'.2.1.1 - S.1) (ms := o'.2.1.2.1 - S.2.1) (rm := zv_rm d (o'.2.1.1 - S.1) (o'.2.1.2.1 - S.2.1)) Ps.length hC.2.2.2.2.1 (zg_in (ws := zv_wo mt) (fun w g => (List.mem_cons.mp g).elim (fun e => e ▸ m1) (fun z => z))) hwo rfl rfl (hC.2.2.2.2.2.1.2.2.2.2.2.2.2.1 _ hl) (hC.2.2.2.2.1 _ m2) ⟨m4.1, m4.2, hpar⟩ (zq_room hC m6)
    exact zq_after (va_runIN (As := Ps.map (zv_vl b x)) (b := zv_ad b x q) ⟨hC.1, hC.2.1, hC.2.2.1, hC.2.2.2.1, hC.2.2.2.2.1⟩ t3 ⟨hcw, k2, hC.2.2.2.2.1 _ k1⟩ ⟨zv_blind, zq_pre hC (As := .ref q :: Ps) hsz h1 h4⟩ rfl (by rw [List.length_map]) h5.1 hst (lv_room (zq_W hcs)) hd hf) h4 fin
end ZC
end
section
/-! ===== rows of the methods ===== -/
def zt_J_bitCount : List (Nat × List zv_E) := [
  (9, [(0, .iload_n 0, 1, (0, 0, 0, 0, 0, [])), (1, .iload_n 0, 1, (0, 0, 0, 0, 0, [])), (2, .iconst 1, 1, (0, 0, 0, 1, 0, [])), (3, .iushr, 1, (0, 0, 0, 0, 0, [])), (4, .ldc_w 265, 3, (0, 0, 0, 1431655765, 0, [])), (7, .iand, 1, (0, 0, 0, 0, 0, [])), (8, .isub, 1, (0, 0, 0, 0, 0, []))]),
  (18, [(9, .istore_n 0, 1, (0, 0, 0, 0, 0, [])), (10, .iload_n 0, 1, (0, 0, 0, 0, 0, [])), (11, .ldc_w 266, 3, (0, 0, 0, 858993459, 0, [])), (14, .iand, 1, (0, 0, 0, 0, 0, [])), (15, .iload_n 0, 1, (0, 0, 0, 0, 0, [])), (16, .iconst 2, 1, (0, 0, 0, 2, 0, [])), (17, .iushr, 1, (0, 0, 0, 0, 0, []))]),
  (27, [(18, .ldc_w 266, 3, (0, 0, 0, 858993459, 0, [])), (21, .iand, 1, (0, 0, 0, 0, 0, [])), (22, .iadd, 1, (0, 0, 0, 0, 0, [])), (23, .istore_n 0, 1, (0, 0, 0, 0, 0, [])), (24, .iload_n 0, 1, (0, 0, 0, 0, 0, [])), (25, .iload_n 0, 1, (0, 0, 0, 0, 0, [])), (26, .iconst 4, 1, (0, 0, 0, 4, 0, []))]),
  (36, [(27, .iushr, 1, (0, 0, 0, 0, 0, [])), (28, .iadd, 1, (0, 0, 0, 0, 0, [])), (29, .ldc_w 267, 3, (0, 0, 0, 252645135, 0, [])), (32, .iand, 1, (0, 0, 0, 0, 0, [])), (33, .istore_n 0, 1, (0, 0, 0, 0, 0, [])), (34, .iload_n 0, 1, (0, 0, 0, 0, 0, [])), (35, .iload_n 0, 1, (0, 0, 0, 0, 0, []))]),
  (44, [(36, .bipush 8, 2, (0, 0, 0, 8, 0, [])), (38, .iushr, 1, (0, 0, 0, 0, 0, [])), (39, .iadd, 1, (0, 0, 0, 0, 0, [])), (40, .istore_n 0, 1, (0, 0, 0, 0, 0, [])), (41, .iload_n 0, 1, (0, 0, 0, 0, 0, [])), (42, .iload_n 0, 1, (0, 0, 0, 0, 0, [])), (43, .bipush 16, 2, (0, 0, 0, 16, 0, []))]),
  (53, [(45, .iushr, 1, (0, 0, 0, 0, 0, [])), (46, .iadd, 1, (0, 0, 0, 0, 0, [])), (47, .istore_n 0, 1, (0, 0, 0, 0, 0, [])), (48, .iload_n 0, 1, (0, 0, 0, 0, 0, [])), (49, .bipush 63, 2, (0, 0, 0, 63, 0, [])), (51, .iand, 1, (0, 0, 0, 0, 0, [])), (52, .ireturn, 1, (0, 0, 0, 0, 0, []))])]
def zt_J_fill : List (Nat × List zv_E) := [
  (6, [(0, .iconst 0, 1, (0, 0, 0, 0, 0, [])), (1, .istore_n 2, 1, (2, 0, 0, 0, 0, [])), (2, .aload_n 0, 1, (0, 0, 0, 0, 0, [])), (3, .arraylength, 1, (0, 0, 0, 0, 0, [])), (4, .istore_n 3, 1, (3, 0, 0, 0, 0, [])), (5, .iload_n 2, 1, (2, 0, 0, 0, 0, []))]),
  (14, [(6, .iload_n 3, 1, (3, 0, 0, 0, 0, [])), (7, .if_icmp .ge 13, 3, (20, 0, 0, 0, 0, [])), (10, .aload_n 0, 1, (0, 0, 0, 0, 0, [])), (11, .iload_n 2, 1, (2, 0, 0, 0, 0, [])), (12, .iload_n 1, 1, (1, 0, 0, 0, 0, [])), (13, .iastore, 1, (0, 0, 0, 0, 0, []))]),
  (21, [(14, .iinc 2 1, 3, (2, 0, 0, 1, 0, [])), (17, .goto (-12), 3, (5, 0, 0, 0, 0, [])), (20, .return_, 1, (0, 0, 0, 0, 0, []))])]
def zt_X0_init : List (Nat × List zv_E) := [
  (11, [(0, .aload_n 0, 1, (0, 0, 0, 0, 0, [])), (1, .invokespecial 3, 3, (998, 1, 0, 0, 0, [])), (4, .aload_n 0, 1, (0, 0, 0, 0, 0, [])), (5, .sipush 305, 3, (0, 0, 0, 305, 0, [])), (8, .newarray .int, 2, (11, 0, 0, 0, 0, [])), (10, .putfield 9, 3, (0, 3, 2, 0, 0, []))]),
  (14, [(13, .return_, 1, (0, 0, 0, 0, 0, []))])]
def zt_X0_follow : List (Nat × List zv_E) := [
  (12, [(0, .aload_n 0, 1, (0, 0, 0, 0, 0, [])), (1, .iconst 2, 1, (0, 0, 0, 2, 0, [])), (2, .putfield 15, 3, (0, 0, 0, 0, 0, [])), (5, .aload_n 0, 1, (0, 0, 0, 0, 0, [])), (6, .iconst 0, 1, (0, 0, 0, 0, 0, [])), (7, .putfield 19, 3, (0, 1, 0, 0, 0, [])), (10, .aload_n 0, 1, (0, 0, 0, 0, 0, [])), (11, .iconst 0, 1, (0, 0, 0, 0, 0, []))]),
  (24, [(12, .putfield 22, 3, (0, 2, 0, 0, 0, [])), (15, .aload_n 0, 1, (0, 0, 0, 0, 0, [])), (16, .aload_n 1, 1, (1, 0, 0, 0, 0, [])), (17, .iconst 0, 1, (0, 0, 0, 0, 0, [])), (18, .invokevirtual 25, 3, (5, 3, 0, 0, 0, [])), (21, .iconst 1, 1, (0, 0, 0, 1, 0, [])), (22, .istore_n 2, 1, (2, 0, 0, 0, 0, [])), (23, .iload_n 2, 1, (2, 0, 0, 0, 0, []))]),
  (39, [(24, .bipush 60, 2, (0, 0, 0, 60, 0, [])), (26, .if_icmp .gt 63, 3, (89, 0, 0, 0, 0, [])), (29, .aload_n 1, 1, (1, 0, 0, 0, 0, [])), (30, .invokevirtual 29, 3, (57, 1, 1, 0, 0, [])), (33, .ifCond .ne 16, 3, (49, 0, 0, 0, 0, [])), (36, .aload_n 0, 1, (0, 0, 0, 0, 0, [])), (37, .iconst 0, 1, (0, 0, 0, 0, 0, [])), (38, .putfield 15, 3, (0, 0, 0, 0, 0, []))]),
  (51, [(41, .aload_n 0, 1, (0, 0, 0, 0, 0, [])), (42, .iload_n 2, 1, (2, 0, 0, 0, 0, [])), (43, .iconst 1, 1, (0, 0, 0, 1, 0, [])), (44, .isub, 1, (0, 0, 0, 0, 0, [])), (45, .putfield 19, 3, (0, 1, 0, 0, 0, [])), (48, .return_, 1, (0, 0, 0, 0, 0, [])), (49, .aload_n 0, 1, (0, 0, 0, 0, 0, [])), (50, .aload_n 1, 1, (1, 0, 0, 0, 0, []))]),
  (63, [(51, .iload_n 2, 1, (2, 0, 0, 0, 0, [])), (52, .invokevirtual 25, 3, (5, 3, 0, 0, 0, [])), (55, .aload_n 0, 1, (0, 0, 0, 0, 0, [])), (56, .iload_n 2, 1, (2, 0, 0, 0, 0, [])), (57, .invokevirtual 35, 3, (6, 2, 1, 0, 0, [])), (60, .istore_n 3, 1, (3, 0, 0, 0, 0, [])), (61, .iload_n 3, 1, (3, 0, 0, 0, 0, [])), (62, .ifCond .lt 21, 3, (83, 0, 0, 0, 0, []))]),
  (77, [(65, .aload_n 0, 1, (0, 0, 0, 0, 0, [])), (66, .iconst 1, 1, (0, 0, 0, 1, 0, [])), (67, .putfield 15, 3, (0, 0, 0, 0, 0, [])), (70, .aload_n 0, 1, (0, 0, 0, 0, 0, [])), (71, .iload_n 3, 1, (3, 0, 0, 0, 0, [])), (72, .putfield 19, 3, (0, 1, 0, 0, 0, [])), (75, .aload_n 0, 1, (0, 0, 0, 0, 0, [])), (76, .iload_n 2, 1, (2, 0, 0, 0, 0, []))]),
  (90, [(77, .iload_n 3, 1, (3, 0, 0, 0, 0, [])), (78, .isub, 1, (0, 0, 0, 0, 0, [])), (79, .putfield 22, 3, (0, 2, 0, 0, 0, [])), (82, .return_, 1, (0, 0, 0, 0, 0, [])), (83, .iinc 2 1, 3, (2, 0, 0, 1, 0, [])), (86, .goto (-63), 3, (23, 0, 0, 0, 0, [])), (89, .return_, 1, (0, 0, 0, 0, 0, []))])]
def zt_X0_takeBack : List (Nat × List zv_E) := [
  (10, [(0, .aload_n 0, 1, (0, 0, 0, 0, 0, [])), (1, .getfield 9, 3, (0, 3, 2, 0, 0, [])), (4, .iconst 0, 1, (0, 0, 0, 0, 0, [])), (5, .aload_n 1, 1, (1, 0, 0, 0, 0, [])), (6, .getfield 39, 3, (6, 1, 2, 0, 0, [])), (9, .getfield 43, 3, (7, 2, 2, 0, 0, []))]),
  (18, [(12, .iconst 0, 1, (0, 0, 0, 0, 0, [])), (13, .iconst 5, 1, (0, 0, 0, 5, 0, [])), (14, .invokestatic 48, 3, (999, 5, 0, 0, 0, [])), (17, .return_, 1, (0, 0, 0, 0, 0, []))])]
def zt_X0_record : List (Nat × List zv_E) := [
  (11, [(0, .iload_n 2, 1, (2, 0, 0, 0, 0, [])), (1, .ifCond .lt 28, 3, (29, 0, 0, 0, 0, [])), (4, .iload_n 2, 1, (2, 0, 0, 0, 0, [])), (5, .bipush 60, 2, (0, 0, 0, 60, 0, [])), (7, .if_icmp .gt 22, 3, (29, 0, 0, 0, 0, [])), (10, .aload_n 1, 1, (1, 0, 0, 0, 0, []))]),
  (23, [(11, .getfield 39, 3, (6, 1, 2, 0, 0, [])), (14, .getfield 43, 3, (7, 2, 2, 0, 0, [])), (17, .iconst 0, 1, (0, 0, 0, 0, 0, [])), (18, .aload_n 0, 1, (0, 0, 0, 0, 0, [])), (19, .getfield 9, 3, (0, 3, 2, 0, 0, [])), (22, .iload_n 2, 1, (2, 0, 0, 0, 0, []))]),
  (30, [(23, .iconst 5, 1, (0, 0, 0, 5, 0, [])), (24, .imul, 1, (0, 0, 0, 0, 0, [])), (25, .iconst 5, 1, (0, 0, 0, 5, 0, [])), (26, .invokestatic 48, 3, (999, 5, 0, 0, 0, [])), (29, .return_, 1, (0, 0, 0, 0, 0, []))])]
def zt_X0_earlier : List (Nat × List zv_E) := [
  (8, [(0, .iconst 0, 1, (0, 0, 0, 0, 0, [])), (1, .istore_n 2, 1, (2, 0, 0, 0, 0, [])), (2, .iload_n 2, 1, (2, 0, 0, 0, 0, [])), (3, .iload_n 1, 1, (1, 0, 0, 0, 0, [])), (4, .if_icmp .ge 20, 3, (24, 0, 0, 0, 0, [])), (7, .aload_n 0, 1, (0, 0, 0, 0, 0, []))]),
  (18, [(8, .iload_n 2, 1, (2, 0, 0, 0, 0, [])), (9, .iload_n 1, 1, (1, 0, 0, 0, 0, [])), (10, .invokevirtual 54, 3, (7, 3, 1, 0, 0, [])), (13, .ifCond .eq 5, 3, (18, 0, 0, 0, 0, [])), (16, .iload_n 2, 1, (2, 0, 0, 0, 0, [])), (17, .ireturn, 1, (0, 0, 0, 0, 0, []))]),
  (26, [(18, .iinc 2 1, 3, (2, 0, 0, 1, 0, [])), (21, .goto (-19), 3, (2, 0, 0, 0, 0, [])), (24, .iconst (-1), 1, (0, 0, 0, (-1), 0, [])), (25, .ireturn, 1, (0, 0, 0, 0, 0, []))])]
def zt_X0_alike : List (Nat × List zv_E) := [
  (12, [(0, .iload_n 1, 1, (1, 0, 0, 0, 0, [])), (1, .ifCond .lt 19, 3, (20, 0, 0, 0, 0, [])), (4, .iload_n 1, 1, (1, 0, 0, 0, 0, [])), (5, .bipush 60, 2, (0, 0, 0, 60, 0, [])), (7, .if_icmp .gt 13, 3, (20, 0, 0, 0, 0, [])), (10, .iload_n 2, 1, (2, 0, 0, 0, 0, [])), (11, .ifCond .lt 9, 3, (20, 0, 0, 0, 0, []))]),
  (24, [(14, .iload_n 2, 1, (2, 0, 0, 0, 0, [])), (15, .bipush 60, 2, (0, 0, 0, 60, 0, [])), (17, .if_icmp .le 5, 3, (22, 0, 0, 0, 0, [])), (20, .iconst 0, 1, (0, 0, 0, 0, 0, [])), (21, .ireturn, 1, (0, 0, 0, 0, 0, [])), (22, .iconst 0, 1, (0, 0, 0, 0, 0, [])), (23, .istore_n 3, 1, (3, 0, 0, 0, 0, []))]),
  (35, [(24, .iload_n 3, 1, (3, 0, 0, 0, 0, [])), (25, .iconst 5, 1, (0, 0, 0, 5, 0, [])), (26, .if_icmp .ge 34, 3, (60, 0, 0, 0, 0, [])), (29, .aload_n 0, 1, (0, 0, 0, 0, 0, [])), (30, .getfield 9, 3, (0, 3, 2, 0, 0, [])), (33, .iload_n 1, 1, (1, 0, 0, 0, 0, [])), (34, .iconst 5, 1, (0, 0, 0, 5, 0, []))]),
  (44, [(35, .imul, 1, (0, 0, 0, 0, 0, [])), (36, .iload_n 3, 1, (3, 0, 0, 0, 0, [])), (37, .iadd, 1, (0, 0, 0, 0, 0, [])), (38, .iaload, 1, (0, 0, 0, 0, 0, [])), (39, .aload_n 0, 1, (0, 0, 0, 0, 0, [])), (40, .getfield 9, 3, (0, 3, 2, 0, 0, [])), (43, .iload_n 2, 1, (2, 0, 0, 0, 0, []))]),
  (53, [(44, .iconst 5, 1, (0, 0, 0, 5, 0, [])), (45, .imul, 1, (0, 0, 0, 0, 0, [])), (46, .iload_n 3, 1, (3, 0, 0, 0, 0, [])), (47, .iadd, 1, (0, 0, 0, 0, 0, [])), (48, .iaload, 1, (0, 0, 0, 0, 0, [])), (49, .if_icmp .eq 5, 3, (54, 0, 0, 0, 0, [])), (52, .iconst 0, 1, (0, 0, 0, 0, 0, []))]),
  (62, [(53, .ireturn, 1, (0, 0, 0, 0, 0, [])), (54, .iinc 3 1, 3, (3, 0, 0, 1, 0, [])), (57, .goto (-33), 3, (24, 0, 0, 0, 0, [])), (60, .iconst 1, 1, (0, 0, 0, 1, 0, [])), (61, .ireturn, 1, (0, 0, 0, 0, 0, []))])]
def zt_X1_init : List (Nat × List zv_E) := [
  (9, [(0, .aload_n 0, 1, (0, 0, 0, 0, 0, [])), (1, .invokespecial 3, 3, (998, 1, 0, 0, 0, [])), (4, .aload_n 0, 1, (0, 0, 0, 0, 0, [])), (5, .iconst 5, 1, (0, 0, 0, 5, 0, [])), (6, .newarray .int, 2, (11, 0, 0, 0, 0, [])), (8, .putfield 9, 3, (1, 3, 2, 0, 0, []))]),
  (21, [(11, .aload_n 0, 1, (0, 0, 0, 0, 0, [])), (12, .bipush 120, 2, (0, 0, 0, 120, 0, [])), (14, .newarray .int, 2, (11, 0, 0, 0, 0, [])), (16, .putfield 15, 3, (1, 4, 2, 0, 0, [])), (19, .aload_n 0, 1, (0, 0, 0, 0, 0, [])), (20, .iconst 5, 1, (0, 0, 0, 5, 0, []))]),
  (27, [(21, .newarray .int, 2, (11, 0, 0, 0, 0, [])), (23, .putfield 18, 3, (1, 5, 2, 0, 0, [])), (26, .return_, 1, (0, 0, 0, 0, 0, []))])]
def zt_X1_tryAll : List (Nat × List zv_E) := [
  (14, [(0, .aload_n 1, 1, (1, 0, 0, 0, 0, [])), (1, .getfield 21, 3, (6, 0, 2, 0, 0, [])), (4, .getfield 27, 3, (3, 0, 0, 0, 0, [])), (7, .iconst 5, 1, (0, 0, 0, 5, 0, [])), (8, .invokestatic 33, 3, (997, 2, 1, 0, 0, [])), (11, .istore_n 2, 1, (2, 0, 0, 0, 0, [])), (12, .aload_n 0, 1, (0, 0, 0, 0, 0, [])), (13, .iconst 0, 1, (0, 0, 0, 0, 0, []))]),
  (28, [(14, .putfield 39, 3, (1, 0, 0, 0, 0, [])), (17, .aload_n 0, 1, (0, 0, 0, 0, 0, [])), (18, .iconst 0, 1, (0, 0, 0, 0, 0, [])), (19, .putfield 42, 3, (1, 1, 0, 0, 0, [])), (22, .aload_n 0, 1, (0, 0, 0, 0, 0, [])), (23, .iconst 0, 1, (0, 0, 0, 0, 0, [])), (24, .putfield 45, 3, (1, 2, 0, 0, 0, [])), (27, .iconst 0, 1, (0, 0, 0, 0, 0, []))]),
  (40, [(28, .istore_n 3, 1, (3, 0, 0, 0, 0, [])), (29, .iload_n 3, 1, (3, 0, 0, 0, 0, [])), (30, .iconst 5, 1, (0, 0, 0, 5, 0, [])), (31, .if_icmp .ge 16, 3, (47, 0, 0, 0, 0, [])), (34, .aload_n 0, 1, (0, 0, 0, 0, 0, [])), (35, .getfield 9, 3, (1, 3, 2, 0, 0, [])), (38, .iload_n 3, 1, (3, 0, 0, 0, 0, [])), (39, .iload_n 3, 1, (3, 0, 0, 0, 0, []))]),
  (53, [(40, .iastore, 1, (0, 0, 0, 0, 0, [])), (41, .iinc 3 1, 3, (3, 0, 0, 1, 0, [])), (44, .goto (-15), 3, (29, 0, 0, 0, 0, [])), (47, .iconst 0, 1, (0, 0, 0, 0, 0, [])), (48, .istore_n 3, 1, (3, 0, 0, 0, 0, [])), (49, .iload_n 3, 1, (3, 0, 0, 0, 0, [])), (50, .bipush 120, 2, (0, 0, 0, 120, 0, [])), (52, .if_icmp .ge 45, 3, (97, 0, 0, 0, 0, []))]),
  (67, [(55, .aload_n 0, 1, (0, 0, 0, 0, 0, [])), (56, .aload_n 1, 1, (1, 0, 0, 0, 0, [])), (57, .iload_n 2, 1, (2, 0, 0, 0, 0, [])), (58, .invokevirtual 48, 3, (10, 3, 1, 0, 0, [])), (61, .ifCond .eq 21, 3, (82, 0, 0, 0, 0, [])), (64, .aload_n 0, 1, (0, 0, 0, 0, 0, [])), (65, .dup, 1, (0, 0, 0, 0, 0, [])), (66, .getfield 39, 3, (1, 0, 0, 0, 0, []))]),
  (83, [(69, .iconst 1, 1, (0, 0, 0, 1, 0, [])), (70, .iadd, 1, (0, 0, 0, 0, 0, [])), (71, .putfield 39, 3, (1, 0, 0, 0, 0, [])), (74, .aload_n 0, 1, (0, 0, 0, 0, 0, [])), (75, .aload_n 1, 1, (1, 0, 0, 0, 0, [])), (76, .invokevirtual 52, 3, (66, 1, 1, 0, 0, [])), (79, .invokevirtual 56, 3, (13, 2, 0, 0, 0, [])), (82, .aload_n 0, 1, (0, 0, 0, 0, 0, []))]),
  (98, [(83, .iload_n 2, 1, (2, 0, 0, 0, 0, [])), (84, .invokevirtual 60, 3, (14, 2, 1, 0, 0, [])), (87, .ifCond .ne 4, 3, (91, 0, 0, 0, 0, [])), (90, .return_, 1, (0, 0, 0, 0, 0, [])), (91, .iinc 3 1, 3, (3, 0, 0, 1, 0, [])), (94, .goto (-45), 3, (49, 0, 0, 0, 0, [])), (97, .return_, 1, (0, 0, 0, 0, 0, []))])]
def zt_X1_restsInOrder : List (Nat × List zv_E) := [
  (12, [(0, .aload_n 1, 1, (1, 0, 0, 0, 0, [])), (1, .getfield 64, 3, (6, 1, 2, 0, 0, [])), (4, .invokevirtual 68, 3, (70, 1, 0, 0, 0, [])), (7, .iconst 1, 1, (0, 0, 0, 1, 0, [])), (8, .istore_n 3, 1, (3, 0, 0, 0, 0, [])), (9, .aload_n 0, 1, (0, 0, 0, 0, 0, [])), (10, .aload_n 1, 1, (1, 0, 0, 0, 0, [])), (11, .invokevirtual 73, 3, (11, 2, 0, 0, 0, []))]),
  (28, [(14, .iconst 1, 1, (0, 0, 0, 1, 0, [])), (15, .istore 4, 2, (4, 0, 0, 0, 0, [])), (17, .iload 4, 2, (4, 0, 0, 0, 0, [])), (19, .bipush 30, 2, (0, 0, 0, 30, 0, [])), (21, .if_icmp .gt 81, 3, (102, 0, 0, 0, 0, [])), (24, .iconst 0, 1, (0, 0, 0, 0, 0, [])), (25, .istore 5, 2, (5, 0, 0, 0, 0, [])), (27, .iconst 0, 1, (0, 0, 0, 0, 0, []))]),
  (43, [(28, .istore 6, 2, (6, 0, 0, 0, 0, [])), (30, .iload 6, 2, (6, 0, 0, 0, 0, [])), (32, .iload_n 2, 1, (2, 0, 0, 0, 0, [])), (33, .if_icmp .ge 31, 3, (64, 0, 0, 0, 0, [])), (36, .iload 6, 2, (6, 0, 0, 0, 0, [])), (38, .iconst 5, 1, (0, 0, 0, 5, 0, [])), (39, .if_icmp .ge 25, 3, (64, 0, 0, 0, 0, [])), (42, .iload 5, 2, (5, 0, 0, 0, 0, []))]),
  (57, [(44, .aload_n 1, 1, (1, 0, 0, 0, 0, [])), (45, .aload_n 0, 1, (0, 0, 0, 0, 0, [])), (46, .getfield 9, 3, (1, 3, 2, 0, 0, [])), (49, .iload 6, 2, (6, 0, 0, 0, 0, [])), (51, .iaload, 1, (0, 0, 0, 0, 0, [])), (52, .invokevirtual 77, 3, (56, 2, 1, 0, 0, [])), (55, .ior, 1, (0, 0, 0, 0, 0, [])), (56, .istore 5, 2, (5, 0, 0, 0, 0, []))]),
  (73, [(58, .iinc 6 1, 3, (6, 0, 0, 1, 0, [])), (61, .goto (-31), 3, (30, 0, 0, 0, 0, [])), (64, .iload 5, 2, (5, 0, 0, 0, 0, [])), (66, .ifCond .ne 5, 3, (71, 0, 0, 0, 0, [])), (69, .iconst 1, 1, (0, 0, 0, 1, 0, [])), (70, .ireturn, 1, (0, 0, 0, 0, 0, [])), (71, .aload_n 0, 1, (0, 0, 0, 0, 0, [])), (72, .aload_n 1, 1, (1, 0, 0, 0, 0, []))]),
  (88, [(73, .invokevirtual 80, 3, (12, 2, 1, 0, 0, [])), (76, .ifCond .eq 5, 3, (81, 0, 0, 0, 0, [])), (79, .iconst 0, 1, (0, 0, 0, 0, 0, [])), (80, .ireturn, 1, (0, 0, 0, 0, 0, [])), (81, .iload 4, 2, (4, 0, 0, 0, 0, [])), (83, .iload_n 3, 1, (3, 0, 0, 0, 0, [])), (84, .if_icmp .ne 12, 3, (96, 0, 0, 0, 0, [])), (87, .aload_n 0, 1, (0, 0, 0, 0, 0, []))]),
  (100, [(88, .aload_n 1, 1, (1, 0, 0, 0, 0, [])), (89, .invokevirtual 73, 3, (11, 2, 0, 0, 0, [])), (92, .iload_n 3, 1, (3, 0, 0, 0, 0, [])), (93, .iconst 2, 1, (0, 0, 0, 2, 0, [])), (94, .imul, 1, (0, 0, 0, 0, 0, [])), (95, .istore_n 3, 1, (3, 0, 0, 0, 0, [])), (96, .iinc 4 1, 3, (4, 0, 0, 1, 0, [])), (99, .goto (-82), 3, (17, 0, 0, 0, 0, []))]),
  (104, [(102, .iconst 0, 1, (0, 0, 0, 0, 0, [])), (103, .ireturn, 1, (0, 0, 0, 0, 0, []))])]
def zt_X1_mark : List (Nat × List zv_E) := [
  (10, [(0, .aload_n 1, 1, (1, 0, 0, 0, 0, [])), (1, .getfield 64, 3, (6, 1, 2, 0, 0, [])), (4, .getfield 84, 3, (7, 2, 2, 0, 0, [])), (7, .iconst 0, 1, (0, 0, 0, 0, 0, [])), (8, .aload_n 0, 1, (0, 0, 0, 0, 0, [])), (9, .getfield 18, 3, (1, 5, 2, 0, 0, []))]),
  (18, [(12, .iconst 0, 1, (0, 0, 0, 0, 0, [])), (13, .iconst 5, 1, (0, 0, 0, 5, 0, [])), (14, .invokestatic 87, 3, (999, 5, 0, 0, 0, [])), (17, .return_, 1, (0, 0, 0, 0, 0, []))])]
def zt_X1_isMarked : List (Nat × List zv_E) := [
  (8, [(0, .iconst 0, 1, (0, 0, 0, 0, 0, [])), (1, .istore_n 2, 1, (2, 0, 0, 0, 0, [])), (2, .iload_n 2, 1, (2, 0, 0, 0, 0, [])), (3, .iconst 5, 1, (0, 0, 0, 5, 0, [])), (4, .if_icmp .ge 29, 3, (33, 0, 0, 0, 0, [])), (7, .aload_n 1, 1, (1, 0, 0, 0, 0, []))]),
  (18, [(8, .getfield 64, 3, (6, 1, 2, 0, 0, [])), (11, .getfield 84, 3, (7, 2, 2, 0, 0, [])), (14, .iload_n 2, 1, (2, 0, 0, 0, 0, [])), (15, .iaload, 1, (0, 0, 0, 0, 0, [])), (16, .aload_n 0, 1, (0, 0, 0, 0, 0, [])), (17, .getfield 18, 3, (1, 5, 2, 0, 0, []))]),
  (28, [(20, .iload_n 2, 1, (2, 0, 0, 0, 0, [])), (21, .iaload, 1, (0, 0, 0, 0, 0, [])), (22, .if_icmp .eq 5, 3, (27, 0, 0, 0, 0, [])), (25, .iconst 0, 1, (0, 0, 0, 0, 0, [])), (26, .ireturn, 1, (0, 0, 0, 0, 0, [])), (27, .iinc 2 1, 3, (2, 0, 0, 1, 0, []))]),
  (35, [(30, .goto (-28), 3, (2, 0, 0, 0, 0, [])), (33, .iconst 1, 1, (0, 0, 0, 1, 0, [])), (34, .ireturn, 1, (0, 0, 0, 0, 0, []))])]
def zt_X1_note : List (Nat × List zv_E) := [
  (11, [(0, .iconst 0, 1, (0, 0, 0, 0, 0, [])), (1, .istore_n 2, 1, (2, 0, 0, 0, 0, [])), (2, .iload_n 2, 1, (2, 0, 0, 0, 0, [])), (3, .aload_n 0, 1, (0, 0, 0, 0, 0, [])), (4, .getfield 42, 3, (1, 1, 0, 0, 0, [])), (7, .if_icmp .ge 20, 3, (27, 0, 0, 0, 0, [])), (10, .aload_n 0, 1, (0, 0, 0, 0, 0, []))]),
  (22, [(11, .getfield 15, 3, (1, 4, 2, 0, 0, [])), (14, .iload_n 2, 1, (2, 0, 0, 0, 0, [])), (15, .iaload, 1, (0, 0, 0, 0, 0, [])), (16, .iload_n 1, 1, (1, 0, 0, 0, 0, [])), (17, .if_icmp .ne 4, 3, (21, 0, 0, 0, 0, [])), (20, .return_, 1, (0, 0, 0, 0, 0, [])), (21, .iinc 2 1, 3, (2, 0, 0, 1, 0, []))]),
  (37, [(24, .goto (-22), 3, (2, 0, 0, 0, 0, [])), (27, .aload_n 0, 1, (0, 0, 0, 0, 0, [])), (28, .aload_n 0, 1, (0, 0, 0, 0, 0, [])), (29, .getfield 42, 3, (1, 1, 0, 0, 0, [])), (32, .ifCond .ne 7, 3, (39, 0, 0, 0, 0, [])), (35, .iload_n 1, 1, (1, 0, 0, 0, 0, [])), (36, .goto 11, 3, (47, 0, 0, 0, 0, []))]),
  (52, [(39, .aload_n 0, 1, (0, 0, 0, 0, 0, [])), (40, .getfield 45, 3, (1, 2, 0, 0, 0, [])), (43, .iload_n 1, 1, (1, 0, 0, 0, 0, [])), (44, .invokestatic 33, 3, (997, 2, 1, 0, 0, [])), (47, .putfield 45, 3, (1, 2, 0, 0, 0, [])), (50, .aload_n 0, 1, (0, 0, 0, 0, 0, [])), (51, .getfield 42, 3, (1, 1, 0, 0, 0, []))]),
  (68, [(54, .bipush 120, 2, (0, 0, 0, 120, 0, [])), (56, .if_icmp .ge 23, 3, (79, 0, 0, 0, 0, [])), (59, .aload_n 0, 1, (0, 0, 0, 0, 0, [])), (60, .getfield 15, 3, (1, 4, 2, 0, 0, [])), (63, .aload_n 0, 1, (0, 0, 0, 0, 0, [])), (64, .getfield 42, 3, (1, 1, 0, 0, 0, [])), (67, .iload_n 1, 1, (1, 0, 0, 0, 0, []))]),
  (77, [(68, .iastore, 1, (0, 0, 0, 0, 0, [])), (69, .aload_n 0, 1, (0, 0, 0, 0, 0, [])), (70, .dup, 1, (0, 0, 0, 0, 0, [])), (71, .getfield 42, 3, (1, 1, 0, 0, 0, [])), (74, .iconst 1, 1, (0, 0, 0, 1, 0, [])), (75, .iadd, 1, (0, 0, 0, 0, 0, [])), (76, .putfield 42, 3, (1, 1, 0, 0, 0, []))]),
  (80, [(79, .return_, 1, (0, 0, 0, 0, 0, []))])]
def zt_X1_goToNextOrder : List (Nat × List zv_E) := [
  (13, [(0, .iload_n 1, 1, (1, 0, 0, 0, 0, [])), (1, .iconst 2, 1, (0, 0, 0, 2, 0, [])), (2, .isub, 1, (0, 0, 0, 0, 0, [])), (3, .istore_n 2, 1, (2, 0, 0, 0, 0, [])), (4, .iload_n 2, 1, (2, 0, 0, 0, 0, [])), (5, .ifCond .lt 26, 3, (31, 0, 0, 0, 0, [])), (8, .aload_n 0, 1, (0, 0, 0, 0, 0, [])), (9, .getfield 9, 3, (1, 3, 2, 0, 0, [])), (12, .iload_n 2, 1, (2, 0, 0, 0, 0, []))]),
  (26, [(13, .iaload, 1, (0, 0, 0, 0, 0, [])), (14, .aload_n 0, 1, (0, 0, 0, 0, 0, [])), (15, .getfield 9, 3, (1, 3, 2, 0, 0, [])), (18, .iload_n 2, 1, (2, 0, 0, 0, 0, [])), (19, .iconst 1, 1, (0, 0, 0, 1, 0, [])), (20, .iadd, 1, (0, 0, 0, 0, 0, [])), (21, .iaload, 1, (0, 0, 0, 0, 0, [])), (22, .if_icmp .le 9, 3, (31, 0, 0, 0, 0, [])), (25, .iinc 2 (-1), 3, (2, 0, 0, (-1), 0, []))]),
  (41, [(28, .goto (-24), 3, (4, 0, 0, 0, 0, [])), (31, .iload_n 2, 1, (2, 0, 0, 0, 0, [])), (32, .ifCond .ge 5, 3, (37, 0, 0, 0, 0, [])), (35, .iconst 0, 1, (0, 0, 0, 0, 0, [])), (36, .ireturn, 1, (0, 0, 0, 0, 0, [])), (37, .iload_n 1, 1, (1, 0, 0, 0, 0, [])), (38, .iconst 1, 1, (0, 0, 0, 1, 0, [])), (39, .isub, 1, (0, 0, 0, 0, 0, [])), (40, .istore_n 3, 1, (3, 0, 0, 0, 0, []))]),
  (54, [(41, .iload_n 3, 1, (3, 0, 0, 0, 0, [])), (42, .iload_n 2, 1, (2, 0, 0, 0, 0, [])), (43, .if_icmp .le 24, 3, (67, 0, 0, 0, 0, [])), (46, .aload_n 0, 1, (0, 0, 0, 0, 0, [])), (47, .getfield 9, 3, (1, 3, 2, 0, 0, [])), (50, .iload_n 3, 1, (3, 0, 0, 0, 0, [])), (51, .iaload, 1, (0, 0, 0, 0, 0, [])), (52, .aload_n 0, 1, (0, 0, 0, 0, 0, [])), (53, .getfield 9, 3, (1, 3, 2, 0, 0, []))]),
  (71, [(56, .iload_n 2, 1, (2, 0, 0, 0, 0, [])), (57, .iaload, 1, (0, 0, 0, 0, 0, [])), (58, .if_icmp .ge 9, 3, (67, 0, 0, 0, 0, [])), (61, .iinc 3 (-1), 3, (3, 0, 0, (-1), 0, [])), (64, .goto (-23), 3, (41, 0, 0, 0, 0, [])), (67, .aload_n 0, 1, (0, 0, 0, 0, 0, [])), (68, .iload_n 2, 1, (2, 0, 0, 0, 0, [])), (69, .iload_n 3, 1, (3, 0, 0, 0, 0, [])), (70, .invokevirtual 93, 3, (15, 3, 0, 0, 0, []))]),
  (84, [(73, .iload_n 1, 1, (1, 0, 0, 0, 0, [])), (74, .iconst 1, 1, (0, 0, 0, 1, 0, [])), (75, .isub, 1, (0, 0, 0, 0, 0, [])), (76, .istore 4, 2, (4, 0, 0, 0, 0, [])), (78, .iload_n 2, 1, (2, 0, 0, 0, 0, [])), (79, .iconst 1, 1, (0, 0, 0, 1, 0, [])), (80, .iadd, 1, (0, 0, 0, 0, 0, [])), (81, .istore 5, 2, (5, 0, 0, 0, 0, [])), (83, .iload 5, 2, (5, 0, 0, 0, 0, []))]),
  (105, [(85, .iload 4, 2, (4, 0, 0, 0, 0, [])), (87, .if_icmp .ge 20, 3, (107, 0, 0, 0, 0, [])), (90, .aload_n 0, 1, (0, 0, 0, 0, 0, [])), (91, .iload 5, 2, (5, 0, 0, 0, 0, [])), (93, .iload 4, 2, (4, 0, 0, 0, 0, [])), (95, .invokevirtual 93, 3, (15, 3, 0, 0, 0, [])), (98, .iinc 4 (-1), 3, (4, 0, 0, (-1), 0, [])), (101, .iinc 5 1, 3, (5, 0, 0, 1, 0, [])), (104, .goto (-21), 3, (83, 0, 0, 0, 0, []))]),
  (109, [(107, .iconst 1, 1, (0, 0, 0, 1, 0, [])), (108, .ireturn, 1, (0, 0, 0, 0, 0, []))])]
def zt_X1_swap : List (Nat × List zv_E) := [
  (10, [(0, .iload_n 1, 1, (1, 0, 0, 0, 0, [])), (1, .ifCond .lt 43, 3, (44, 0, 0, 0, 0, [])), (4, .iload_n 1, 1, (1, 0, 0, 0, 0, [])), (5, .iconst 5, 1, (0, 0, 0, 5, 0, [])), (6, .if_icmp .ge 38, 3, (44, 0, 0, 0, 0, [])), (9, .iload_n 2, 1, (2, 0, 0, 0, 0, []))]),
  (20, [(10, .ifCond .lt 34, 3, (44, 0, 0, 0, 0, [])), (13, .iload_n 2, 1, (2, 0, 0, 0, 0, [])), (14, .iconst 5, 1, (0, 0, 0, 5, 0, [])), (15, .if_icmp .ge 29, 3, (44, 0, 0, 0, 0, [])), (18, .aload_n 0, 1, (0, 0, 0, 0, 0, [])), (19, .getfield 9, 3, (1, 3, 2, 0, 0, []))]),
  (30, [(22, .iload_n 1, 1, (1, 0, 0, 0, 0, [])), (23, .iaload, 1, (0, 0, 0, 0, 0, [])), (24, .istore_n 3, 1, (3, 0, 0, 0, 0, [])), (25, .aload_n 0, 1, (0, 0, 0, 0, 0, [])), (26, .getfield 9, 3, (1, 3, 2, 0, 0, [])), (29, .iload_n 1, 1, (1, 0, 0, 0, 0, []))]),
  (38, [(30, .aload_n 0, 1, (0, 0, 0, 0, 0, [])), (31, .getfield 9, 3, (1, 3, 2, 0, 0, [])), (34, .iload_n 2, 1, (2, 0, 0, 0, 0, [])), (35, .iaload, 1, (0, 0, 0, 0, 0, [])), (36, .iastore, 1, (0, 0, 0, 0, 0, [])), (37, .aload_n 0, 1, (0, 0, 0, 0, 0, []))]),
  (45, [(38, .getfield 9, 3, (1, 3, 2, 0, 0, [])), (41, .iload_n 2, 1, (2, 0, 0, 0, 0, [])), (42, .iload_n 3, 1, (3, 0, 0, 0, 0, [])), (43, .iastore, 1, (0, 0, 0, 0, 0, [])), (44, .return_, 1, (0, 0, 0, 0, 0, []))])]
def zt_X2_init : List (Nat × List zv_E) := [
  (11, [(0, .aload_n 0, 1, (0, 0, 0, 0, 0, [])), (1, .invokespecial 3, 3, (998, 1, 0, 0, 0, [])), (4, .aload_n 0, 1, (0, 0, 0, 0, 0, [])), (5, .bipush 14, 2, (0, 0, 0, 14, 0, [])), (7, .anewarray 9, 3, (13, 0, 0, 0, 0, [])), (10, .putfield 11, 3, (2, 2, 2, 0, 0, []))]),
  (22, [(13, .iconst 0, 1, (0, 0, 0, 0, 0, [])), (14, .istore_n 1, 1, (1, 0, 0, 0, 0, [])), (15, .iload_n 1, 1, (1, 0, 0, 0, 0, [])), (16, .bipush 14, 2, (0, 0, 0, 14, 0, [])), (18, .if_icmp .ge 22, 3, (40, 0, 0, 0, 0, [])), (21, .aload_n 0, 1, (0, 0, 0, 0, 0, []))]),
  (34, [(22, .getfield 11, 3, (2, 2, 2, 0, 0, [])), (25, .iload_n 1, 1, (1, 0, 0, 0, 0, [])), (26, .new 9, 3, (7, 6, 0, 0, 0, [])), (29, .dup, 1, (0, 0, 0, 0, 0, [])), (30, .invokespecial 17, 3, (67, 1, 0, 0, 0, [])), (33, .aastore, 1, (0, 0, 0, 0, 0, []))]),
  (41, [(34, .iinc 1 1, 3, (1, 0, 0, 1, 0, [])), (37, .goto (-22), 3, (15, 0, 0, 0, 0, [])), (40, .return_, 1, (0, 0, 0, 0, 0, []))])]
def zt_X2_save : List (Nat × List zv_E) := [
  (12, [(0, .aload_n 0, 1, (0, 0, 0, 0, 0, [])), (1, .getfield 18, 3, (2, 1, 0, 0, 0, [])), (4, .ifCond .lt 12, 3, (16, 0, 0, 0, 0, [])), (7, .aload_n 0, 1, (0, 0, 0, 0, 0, [])), (8, .getfield 18, 3, (2, 1, 0, 0, 0, [])), (11, .bipush 14, 2, (0, 0, 0, 14, 0, []))]),
  (23, [(13, .if_icmp .lt 8, 3, (21, 0, 0, 0, 0, [])), (16, .aload_n 0, 1, (0, 0, 0, 0, 0, [])), (17, .iconst 0, 1, (0, 0, 0, 0, 0, [])), (18, .putfield 18, 3, (2, 1, 0, 0, 0, [])), (21, .aload_n 0, 1, (0, 0, 0, 0, 0, [])), (22, .getfield 11, 3, (2, 2, 2, 0, 0, []))]),
  (35, [(25, .aload_n 0, 1, (0, 0, 0, 0, 0, [])), (26, .getfield 18, 3, (2, 1, 0, 0, 0, [])), (29, .aaload, 1, (0, 0, 0, 0, 0, [])), (30, .aload_n 1, 1, (1, 0, 0, 0, 0, [])), (31, .invokevirtual 22, 3, (68, 2, 0, 0, 0, [])), (34, .aload_n 0, 1, (0, 0, 0, 0, 0, []))]),
  (45, [(35, .dup, 1, (0, 0, 0, 0, 0, [])), (36, .getfield 18, 3, (2, 1, 0, 0, 0, [])), (39, .iconst 1, 1, (0, 0, 0, 1, 0, [])), (40, .iadd, 1, (0, 0, 0, 0, 0, [])), (41, .putfield 18, 3, (2, 1, 0, 0, 0, [])), (44, .aload_n 0, 1, (0, 0, 0, 0, 0, []))]),
  (54, [(45, .aload_n 0, 1, (0, 0, 0, 0, 0, [])), (46, .getfield 26, 3, (2, 0, 0, 0, 0, [])), (49, .iconst 1, 1, (0, 0, 0, 1, 0, [])), (50, .iadd, 1, (0, 0, 0, 0, 0, [])), (51, .bipush 14, 2, (0, 0, 0, 14, 0, [])), (53, .invokestatic 29, 3, (997, 2, 1, 0, 0, []))]),
  (60, [(56, .putfield 26, 3, (2, 0, 0, 0, 0, [])), (59, .return_, 1, (0, 0, 0, 0, 0, []))])]
def zt_X2_latest : List (Nat × List zv_E) := [
  (10, [(0, .aload_n 0, 1, (0, 0, 0, 0, 0, [])), (1, .aload_n 0, 1, (0, 0, 0, 0, 0, [])), (2, .getfield 18, 3, (2, 1, 0, 0, 0, [])), (5, .ifCond .le 21, 3, (26, 0, 0, 0, 0, [])), (8, .aload_n 0, 1, (0, 0, 0, 0, 0, [])), (9, .getfield 18, 3, (2, 1, 0, 0, 0, []))]),
  (23, [(12, .bipush 14, 2, (0, 0, 0, 14, 0, [])), (14, .if_icmp .gt 12, 3, (26, 0, 0, 0, 0, [])), (17, .aload_n 0, 1, (0, 0, 0, 0, 0, [])), (18, .getfield 18, 3, (2, 1, 0, 0, 0, [])), (21, .iconst 1, 1, (0, 0, 0, 1, 0, [])), (22, .isub, 1, (0, 0, 0, 0, 0, []))]),
  (34, [(23, .goto 5, 3, (28, 0, 0, 0, 0, [])), (26, .bipush 13, 2, (0, 0, 0, 13, 0, [])), (28, .putfield 18, 3, (2, 1, 0, 0, 0, [])), (31, .aload_n 0, 1, (0, 0, 0, 0, 0, [])), (32, .aload_n 0, 1, (0, 0, 0, 0, 0, [])), (33, .getfield 26, 3, (2, 0, 0, 0, 0, []))]),
  (46, [(36, .iconst 1, 1, (0, 0, 0, 1, 0, [])), (37, .isub, 1, (0, 0, 0, 0, 0, [])), (38, .iconst 0, 1, (0, 0, 0, 0, 0, [])), (39, .invokestatic 35, 3, (996, 2, 1, 0, 0, [])), (42, .putfield 26, 3, (2, 0, 0, 0, 0, [])), (45, .aload_n 0, 1, (0, 0, 0, 0, 0, []))]),
  (55, [(46, .getfield 11, 3, (2, 2, 2, 0, 0, [])), (49, .aload_n 0, 1, (0, 0, 0, 0, 0, [])), (50, .getfield 18, 3, (2, 1, 0, 0, 0, [])), (53, .aaload, 1, (0, 0, 0, 0, 0, [])), (54, .areturn, 1, (0, 0, 0, 0, 0, []))])]
def zt_X3_init : List (Nat × List zv_E) := [
  (10, [(0, .aload_n 0, 1, (0, 0, 0, 0, 0, [])), (1, .invokespecial 3, 3, (998, 1, 0, 0, 0, [])), (4, .aload_n 0, 1, (0, 0, 0, 0, 0, [])), (5, .iconst 1, 1, (0, 0, 0, 1, 0, [])), (6, .putfield 9, 3, (3, 0, 0, 0, 0, [])), (9, .aload_n 0, 1, (0, 0, 0, 0, 0, []))]),
  (21, [(10, .bipush 25, 2, (0, 0, 0, 25, 0, [])), (12, .newarray .int, 2, (11, 0, 0, 0, 0, [])), (14, .putfield 15, 3, (3, 2, 2, 0, 0, [])), (17, .aload_n 0, 1, (0, 0, 0, 0, 0, [])), (18, .bipush 25, 2, (0, 0, 0, 25, 0, [])), (20, .newarray .int, 2, (11, 0, 0, 0, 0, []))]),
  (33, [(22, .putfield 19, 3, (3, 3, 2, 0, 0, [])), (25, .aload_n 0, 1, (0, 0, 0, 0, 0, [])), (26, .iconst 4, 1, (0, 0, 0, 4, 0, [])), (27, .newarray .int, 2, (11, 0, 0, 0, 0, [])), (29, .putfield 22, 3, (3, 4, 2, 0, 0, [])), (32, .aload_n 0, 1, (0, 0, 0, 0, 0, []))]),
  (42, [(33, .iconst 4, 1, (0, 0, 0, 4, 0, [])), (34, .newarray .int, 2, (11, 0, 0, 0, 0, [])), (36, .putfield 25, 3, (3, 5, 2, 0, 0, [])), (39, .aload_n 0, 1, (0, 0, 0, 0, 0, [])), (40, .iconst 4, 1, (0, 0, 0, 4, 0, [])), (41, .newarray .int, 2, (11, 0, 0, 0, 0, []))]),
  (54, [(43, .putfield 28, 3, (3, 6, 2, 0, 0, [])), (46, .aload_n 0, 1, (0, 0, 0, 0, 0, [])), (47, .iconst 5, 1, (0, 0, 0, 5, 0, [])), (48, .newarray .int, 2, (11, 0, 0, 0, 0, [])), (50, .putfield 31, 3, (3, 7, 2, 0, 0, [])), (53, .return_, 1, (0, 0, 0, 0, 0, []))])]
def zt_X3_read : List (Nat × List zv_E) := [
  (18, [(0, .aload_n 0, 1, (0, 0, 0, 0, 0, [])), (1, .aload_n 1, 1, (1, 0, 0, 0, 0, [])), (2, .getfield 34, 3, (4, 2, 0, 0, 0, [])), (5, .putfield 9, 3, (3, 0, 0, 0, 0, [])), (8, .aload_n 0, 1, (0, 0, 0, 0, 0, [])), (9, .aload_n 1, 1, (1, 0, 0, 0, 0, [])), (10, .getfield 37, 3, (4, 3, 0, 0, 0, [])), (13, .putfield 40, 3, (3, 1, 0, 0, 0, [])), (16, .aload_n 1, 1, (1, 0, 0, 0, 0, [])), (17, .getfield 41, 3, (4, 6, 2, 0, 0, []))]),
  (37, [(20, .iconst 0, 1, (0, 0, 0, 0, 0, [])), (21, .aload_n 0, 1, (0, 0, 0, 0, 0, [])), (22, .getfield 15, 3, (3, 2, 2, 0, 0, [])), (25, .iconst 0, 1, (0, 0, 0, 0, 0, [])), (26, .bipush 25, 2, (0, 0, 0, 25, 0, [])), (28, .invokestatic 42, 3, (999, 5, 0, 0, 0, [])), (31, .aload_n 1, 1, (1, 0, 0, 0, 0, [])), (32, .getfield 48, 3, (4, 7, 2, 0, 0, [])), (35, .iconst 0, 1, (0, 0, 0, 0, 0, [])), (36, .aload_n 0, 1, (0, 0, 0, 0, 0, []))]),
  (55, [(37, .getfield 22, 3, (3, 4, 2, 0, 0, [])), (40, .iconst 0, 1, (0, 0, 0, 0, 0, [])), (41, .iconst 4, 1, (0, 0, 0, 4, 0, [])), (42, .invokestatic 42, 3, (999, 5, 0, 0, 0, [])), (45, .aload_n 1, 1, (1, 0, 0, 0, 0, [])), (46, .getfield 49, 3, (4, 8, 2, 0, 0, [])), (49, .iconst 0, 1, (0, 0, 0, 0, 0, [])), (50, .aload_n 0, 1, (0, 0, 0, 0, 0, [])), (51, .getfield 25, 3, (3, 5, 2, 0, 0, [])), (54, .iconst 0, 1, (0, 0, 0, 0, 0, []))]),
  (71, [(55, .iconst 4, 1, (0, 0, 0, 4, 0, [])), (56, .invokestatic 42, 3, (999, 5, 0, 0, 0, [])), (59, .aload_n 1, 1, (1, 0, 0, 0, 0, [])), (60, .getfield 50, 3, (4, 9, 2, 0, 0, [])), (63, .iconst 0, 1, (0, 0, 0, 0, 0, [])), (64, .aload_n 0, 1, (0, 0, 0, 0, 0, [])), (65, .getfield 28, 3, (3, 6, 2, 0, 0, [])), (68, .iconst 0, 1, (0, 0, 0, 0, 0, [])), (69, .iconst 4, 1, (0, 0, 0, 4, 0, [])), (70, .invokestatic 42, 3, (999, 5, 0, 0, 0, []))]),
  (87, [(73, .iconst 0, 1, (0, 0, 0, 0, 0, [])), (74, .istore_n 2, 1, (2, 0, 0, 0, 0, [])), (75, .iload_n 2, 1, (2, 0, 0, 0, 0, [])), (76, .iconst 5, 1, (0, 0, 0, 5, 0, [])), (77, .if_icmp .ge 68, 3, (145, 0, 0, 0, 0, [])), (80, .aload_n 0, 1, (0, 0, 0, 0, 0, [])), (81, .iload_n 2, 1, (2, 0, 0, 0, 0, [])), (82, .invokevirtual 51, 3, (21, 2, 0, 0, 0, [])), (85, .aload_n 0, 1, (0, 0, 0, 0, 0, [])), (86, .getfield 31, 3, (3, 7, 2, 0, 0, []))]),
  (103, [(89, .iload_n 2, 1, (2, 0, 0, 0, 0, [])), (90, .iconst 0, 1, (0, 0, 0, 0, 0, [])), (91, .iastore, 1, (0, 0, 0, 0, 0, [])), (92, .iconst 0, 1, (0, 0, 0, 0, 0, [])), (93, .istore_n 3, 1, (3, 0, 0, 0, 0, [])), (94, .iload_n 3, 1, (3, 0, 0, 0, 0, [])), (95, .aload_n 0, 1, (0, 0, 0, 0, 0, [])), (96, .getfield 40, 3, (3, 1, 0, 0, 0, [])), (99, .if_icmp .ge 40, 3, (139, 0, 0, 0, 0, [])), (102, .iload_n 3, 1, (3, 0, 0, 0, 0, []))]),
  (119, [(103, .iconst 4, 1, (0, 0, 0, 4, 0, [])), (104, .if_icmp .ge 35, 3, (139, 0, 0, 0, 0, [])), (107, .aload_n 0, 1, (0, 0, 0, 0, 0, [])), (108, .getfield 31, 3, (3, 7, 2, 0, 0, [])), (111, .iload_n 2, 1, (2, 0, 0, 0, 0, [])), (112, .dup2, 1, (0, 0, 0, 0, 0, [])), (113, .iaload, 1, (0, 0, 0, 0, 0, [])), (114, .aload_n 0, 1, (0, 0, 0, 0, 0, [])), (115, .getfield 22, 3, (3, 4, 2, 0, 0, [])), (118, .iload_n 3, 1, (3, 0, 0, 0, 0, []))]),
  (133, [(119, .iaload, 1, (0, 0, 0, 0, 0, [])), (120, .iload_n 2, 1, (2, 0, 0, 0, 0, [])), (121, .if_icmp .ne 9, 3, (130, 0, 0, 0, 0, [])), (124, .iconst 1, 1, (0, 0, 0, 1, 0, [])), (125, .iload_n 3, 1, (3, 0, 0, 0, 0, [])), (126, .ishl, 1, (0, 0, 0, 0, 0, [])), (127, .goto 4, 3, (131, 0, 0, 0, 0, [])), (130, .iconst 0, 1, (0, 0, 0, 0, 0, [])), (131, .ior, 1, (0, 0, 0, 0, 0, [])), (132, .iastore, 1, (0, 0, 0, 0, 0, []))]),
  (146, [(133, .iinc 3 1, 3, (3, 0, 0, 1, 0, [])), (136, .goto (-42), 3, (94, 0, 0, 0, 0, [])), (139, .iinc 2 1, 3, (2, 0, 0, 1, 0, [])), (142, .goto (-67), 3, (75, 0, 0, 0, 0, [])), (145, .return_, 1, (0, 0, 0, 0, 0, []))])]
def zt_X3_readTold : List (Nat × List zv_E) := [
  (11, [(0, .iconst 0, 1, (0, 0, 0, 0, 0, [])), (1, .istore_n 2, 1, (2, 0, 0, 0, 0, [])), (2, .iconst 0, 1, (0, 0, 0, 0, 0, [])), (3, .istore_n 3, 1, (3, 0, 0, 0, 0, [])), (4, .iload_n 3, 1, (3, 0, 0, 0, 0, [])), (5, .iconst 5, 1, (0, 0, 0, 5, 0, [])), (6, .if_icmp .ge 29, 3, (35, 0, 0, 0, 0, [])), (9, .iload_n 2, 1, (2, 0, 0, 0, 0, [])), (10, .aload_n 0, 1, (0, 0, 0, 0, 0, []))]),
  (24, [(11, .iload_n 1, 1, (1, 0, 0, 0, 0, [])), (12, .iload_n 3, 1, (3, 0, 0, 0, 0, [])), (13, .invokevirtual 55, 3, (24, 3, 1, 0, 0, [])), (16, .iconst 2, 1, (0, 0, 0, 2, 0, [])), (17, .if_icmp .ne 9, 3, (26, 0, 0, 0, 0, [])), (20, .iconst 1, 1, (0, 0, 0, 1, 0, [])), (21, .iload_n 3, 1, (3, 0, 0, 0, 0, [])), (22, .ishl, 1, (0, 0, 0, 0, 0, [])), (23, .goto 4, 3, (27, 0, 0, 0, 0, []))]),
  (39, [(26, .iconst 0, 1, (0, 0, 0, 0, 0, [])), (27, .ior, 1, (0, 0, 0, 0, 0, [])), (28, .istore_n 2, 1, (2, 0, 0, 0, 0, [])), (29, .iinc 3 1, 3, (3, 0, 0, 1, 0, [])), (32, .goto (-28), 3, (4, 0, 0, 0, 0, [])), (35, .iconst 0, 1, (0, 0, 0, 0, 0, [])), (36, .istore_n 3, 1, (3, 0, 0, 0, 0, [])), (37, .iload_n 3, 1, (3, 0, 0, 0, 0, [])), (38, .iconst 5, 1, (0, 0, 0, 5, 0, []))]),
  (54, [(39, .if_icmp .ge 62, 3, (101, 0, 0, 0, 0, [])), (42, .aload_n 0, 1, (0, 0, 0, 0, 0, [])), (43, .iload_n 1, 1, (1, 0, 0, 0, 0, [])), (44, .iload_n 3, 1, (3, 0, 0, 0, 0, [])), (45, .invokevirtual 55, 3, (24, 3, 1, 0, 0, [])), (48, .istore 4, 2, (4, 0, 0, 0, 0, [])), (50, .iload 4, 2, (4, 0, 0, 0, 0, [])), (52, .iconst 2, 1, (0, 0, 0, 2, 0, [])), (53, .if_icmp .ne 8, 3, (61, 0, 0, 0, 0, []))]),
  (69, [(56, .bipush 31, 2, (0, 0, 0, 31, 0, [])), (58, .goto 8, 3, (66, 0, 0, 0, 0, [])), (61, .iload_n 2, 1, (2, 0, 0, 0, 0, [])), (62, .iconst 1, 1, (0, 0, 0, 1, 0, [])), (63, .iload_n 1, 1, (1, 0, 0, 0, 0, [])), (64, .ishl, 1, (0, 0, 0, 0, 0, [])), (65, .ior, 1, (0, 0, 0, 0, 0, [])), (66, .istore 5, 2, (5, 0, 0, 0, 0, [])), (68, .aload_n 0, 1, (0, 0, 0, 0, 0, []))]),
  (83, [(69, .getfield 19, 3, (3, 3, 2, 0, 0, [])), (72, .iload_n 1, 1, (1, 0, 0, 0, 0, [])), (73, .iconst 5, 1, (0, 0, 0, 5, 0, [])), (74, .imul, 1, (0, 0, 0, 0, 0, [])), (75, .iload_n 3, 1, (3, 0, 0, 0, 0, [])), (76, .iadd, 1, (0, 0, 0, 0, 0, [])), (77, .iload 4, 2, (4, 0, 0, 0, 0, [])), (79, .ifCond .ne 7, 3, (86, 0, 0, 0, 0, [])), (82, .iconst 0, 1, (0, 0, 0, 0, 0, []))]),
  (95, [(83, .goto 11, 3, (94, 0, 0, 0, 0, [])), (86, .iload 5, 2, (5, 0, 0, 0, 0, [])), (88, .iconst 1, 1, (0, 0, 0, 1, 0, [])), (89, .iload_n 3, 1, (3, 0, 0, 0, 0, [])), (90, .ishl, 1, (0, 0, 0, 0, 0, [])), (91, .iconst (-1), 1, (0, 0, 0, (-1), 0, [])), (92, .ixor, 1, (0, 0, 0, 0, 0, [])), (93, .iand, 1, (0, 0, 0, 0, 0, [])), (94, .iastore, 1, (0, 0, 0, 0, 0, []))]),
  (102, [(95, .iinc 3 1, 3, (3, 0, 0, 1, 0, [])), (98, .goto (-61), 3, (37, 0, 0, 0, 0, [])), (101, .return_, 1, (0, 0, 0, 0, 0, []))])]
def zt_X3_hasRouter : List (Nat × List zv_E) := [
  (10, [(0, .iload_n 1, 1, (1, 0, 0, 0, 0, [])), (1, .ifCond .lt 20, 3, (21, 0, 0, 0, 0, [])), (4, .iload_n 1, 1, (1, 0, 0, 0, 0, [])), (5, .aload_n 0, 1, (0, 0, 0, 0, 0, [])), (6, .getfield 9, 3, (3, 0, 0, 0, 0, [])), (9, .if_icmp .ge 12, 3, (21, 0, 0, 0, 0, []))]),
  (22, [(12, .iload_n 1, 1, (1, 0, 0, 0, 0, [])), (13, .iconst 5, 1, (0, 0, 0, 5, 0, [])), (14, .if_icmp .ge 7, 3, (21, 0, 0, 0, 0, [])), (17, .iconst 1, 1, (0, 0, 0, 1, 0, [])), (18, .goto 4, 3, (22, 0, 0, 0, 0, [])), (21, .iconst 0, 1, (0, 0, 0, 0, 0, []))]),
  (23, [(22, .ireturn, 1, (0, 0, 0, 0, 0, []))])]
def zt_X3_hasExit : List (Nat × List zv_E) := [
  (10, [(0, .iload_n 1, 1, (1, 0, 0, 0, 0, [])), (1, .ifCond .lt 20, 3, (21, 0, 0, 0, 0, [])), (4, .iload_n 1, 1, (1, 0, 0, 0, 0, [])), (5, .aload_n 0, 1, (0, 0, 0, 0, 0, [])), (6, .getfield 40, 3, (3, 1, 0, 0, 0, [])), (9, .if_icmp .ge 12, 3, (21, 0, 0, 0, 0, []))]),
  (22, [(12, .iload_n 1, 1, (1, 0, 0, 0, 0, [])), (13, .iconst 4, 1, (0, 0, 0, 4, 0, [])), (14, .if_icmp .ge 7, 3, (21, 0, 0, 0, 0, [])), (17, .iconst 1, 1, (0, 0, 0, 1, 0, [])), (18, .goto 4, 3, (22, 0, 0, 0, 0, [])), (21, .iconst 0, 1, (0, 0, 0, 0, 0, []))]),
  (23, [(22, .ireturn, 1, (0, 0, 0, 0, 0, []))])]
def zt_X3_sessionOf : List (Nat × List zv_E) := [
  (6, [(0, .iload_n 1, 1, (1, 0, 0, 0, 0, [])), (1, .iconst 5, 1, (0, 0, 0, 5, 0, [])), (2, .imul, 1, (0, 0, 0, 0, 0, [])), (3, .iload_n 2, 1, (2, 0, 0, 0, 0, [])), (4, .iadd, 1, (0, 0, 0, 0, 0, [])), (5, .istore_n 3, 1, (3, 0, 0, 0, 0, []))]),
  (17, [(6, .iload_n 3, 1, (3, 0, 0, 0, 0, [])), (7, .ifCond .lt 18, 3, (25, 0, 0, 0, 0, [])), (10, .iload_n 3, 1, (3, 0, 0, 0, 0, [])), (11, .bipush 25, 2, (0, 0, 0, 25, 0, [])), (13, .if_icmp .ge 12, 3, (25, 0, 0, 0, 0, [])), (16, .aload_n 0, 1, (0, 0, 0, 0, 0, []))]),
  (27, [(17, .getfield 15, 3, (3, 2, 2, 0, 0, [])), (20, .iload_n 3, 1, (3, 0, 0, 0, 0, [])), (21, .iaload, 1, (0, 0, 0, 0, 0, [])), (22, .goto 4, 3, (26, 0, 0, 0, 0, [])), (25, .iconst 0, 1, (0, 0, 0, 0, 0, [])), (26, .ireturn, 1, (0, 0, 0, 0, 0, []))])]
def zt_X3_toldBy : List (Nat × List zv_E) := [
  (6, [(0, .iload_n 1, 1, (1, 0, 0, 0, 0, [])), (1, .iconst 5, 1, (0, 0, 0, 5, 0, [])), (2, .imul, 1, (0, 0, 0, 0, 0, [])), (3, .iload_n 2, 1, (2, 0, 0, 0, 0, [])), (4, .iadd, 1, (0, 0, 0, 0, 0, [])), (5, .istore_n 3, 1, (3, 0, 0, 0, 0, []))]),
  (17, [(6, .iload_n 3, 1, (3, 0, 0, 0, 0, [])), (7, .ifCond .lt 18, 3, (25, 0, 0, 0, 0, [])), (10, .iload_n 3, 1, (3, 0, 0, 0, 0, [])), (11, .bipush 25, 2, (0, 0, 0, 25, 0, [])), (13, .if_icmp .ge 12, 3, (25, 0, 0, 0, 0, [])), (16, .aload_n 0, 1, (0, 0, 0, 0, 0, []))]),
  (27, [(17, .getfield 19, 3, (3, 3, 2, 0, 0, [])), (20, .iload_n 3, 1, (3, 0, 0, 0, 0, [])), (21, .iaload, 1, (0, 0, 0, 0, 0, [])), (22, .goto 4, 3, (26, 0, 0, 0, 0, [])), (25, .iconst 0, 1, (0, 0, 0, 0, 0, [])), (26, .ireturn, 1, (0, 0, 0, 0, 0, []))])]
def zt_X3_exitsTo : List (Nat × List zv_E) := [
  (6, [(0, .iconst 0, 1, (0, 0, 0, 0, 0, [])), (1, .istore_n 2, 1, (2, 0, 0, 0, 0, [])), (2, .iconst 0, 1, (0, 0, 0, 0, 0, [])), (3, .istore_n 3, 1, (3, 0, 0, 0, 0, [])), (4, .iload_n 3, 1, (3, 0, 0, 0, 0, [])), (5, .aload_n 0, 1, (0, 0, 0, 0, 0, []))]),
  (18, [(6, .getfield 40, 3, (3, 1, 0, 0, 0, [])), (9, .if_icmp .ge 34, 3, (43, 0, 0, 0, 0, [])), (12, .iload_n 3, 1, (3, 0, 0, 0, 0, [])), (13, .iconst 4, 1, (0, 0, 0, 4, 0, [])), (14, .if_icmp .ge 29, 3, (43, 0, 0, 0, 0, [])), (17, .iload_n 2, 1, (2, 0, 0, 0, 0, []))]),
  (26, [(18, .aload_n 0, 1, (0, 0, 0, 0, 0, [])), (19, .getfield 25, 3, (3, 5, 2, 0, 0, [])), (22, .iload_n 3, 1, (3, 0, 0, 0, 0, [])), (23, .iaload, 1, (0, 0, 0, 0, 0, [])), (24, .iload_n 1, 1, (1, 0, 0, 0, 0, [])), (25, .if_icmp .ne 9, 3, (34, 0, 0, 0, 0, []))]),
  (36, [(28, .iconst 1, 1, (0, 0, 0, 1, 0, [])), (29, .iload_n 3, 1, (3, 0, 0, 0, 0, [])), (30, .ishl, 1, (0, 0, 0, 0, 0, [])), (31, .goto 4, 3, (35, 0, 0, 0, 0, [])), (34, .iconst 0, 1, (0, 0, 0, 0, 0, [])), (35, .ior, 1, (0, 0, 0, 0, 0, []))]),
  (45, [(36, .istore_n 2, 1, (2, 0, 0, 0, 0, [])), (37, .iinc 3 1, 3, (3, 0, 0, 1, 0, [])), (40, .goto (-36), 3, (4, 0, 0, 0, 0, [])), (43, .iload_n 2, 1, (2, 0, 0, 0, 0, [])), (44, .ireturn, 1, (0, 0, 0, 0, 0, []))])]
def zt_X3_sessionCount : List (Nat × List zv_E) := [
  (6, [(0, .iconst 0, 1, (0, 0, 0, 0, 0, [])), (1, .istore_n 1, 1, (1, 0, 0, 0, 0, [])), (2, .iconst 0, 1, (0, 0, 0, 0, 0, [])), (3, .istore_n 2, 1, (2, 0, 0, 0, 0, [])), (4, .iload_n 2, 1, (2, 0, 0, 0, 0, [])), (5, .bipush 25, 2, (0, 0, 0, 25, 0, []))]),
  (17, [(7, .if_icmp .ge 26, 3, (33, 0, 0, 0, 0, [])), (10, .iload_n 1, 1, (1, 0, 0, 0, 0, [])), (11, .aload_n 0, 1, (0, 0, 0, 0, 0, [])), (12, .getfield 15, 3, (3, 2, 2, 0, 0, [])), (15, .iload_n 2, 1, (2, 0, 0, 0, 0, [])), (16, .iaload, 1, (0, 0, 0, 0, 0, []))]),
  (27, [(17, .ifCond .eq 7, 3, (24, 0, 0, 0, 0, [])), (20, .iconst 1, 1, (0, 0, 0, 1, 0, [])), (21, .goto 4, 3, (25, 0, 0, 0, 0, [])), (24, .iconst 0, 1, (0, 0, 0, 0, 0, [])), (25, .iadd, 1, (0, 0, 0, 0, 0, [])), (26, .istore_n 1, 1, (1, 0, 0, 0, 0, []))]),
  (37, [(27, .iinc 2 1, 3, (2, 0, 0, 1, 0, [])), (30, .goto (-26), 3, (4, 0, 0, 0, 0, [])), (33, .iload_n 1, 1, (1, 0, 0, 0, 0, [])), (34, .iconst 2, 1, (0, 0, 0, 2, 0, [])), (35, .idiv, 1, (0, 0, 0, 0, 0, [])), (36, .ireturn, 1, (0, 0, 0, 0, 0, []))])]
def zt_X4_init : List (Nat × List zv_E) := [
  (10, [(0, .aload_n 0, 1, (0, 0, 0, 0, 0, [])), (1, .invokespecial 3, 3, (998, 1, 0, 0, 0, [])), (4, .aload_n 0, 1, (0, 0, 0, 0, 0, [])), (5, .bipush 90, 2, (0, 0, 0, 90, 0, [])), (7, .newarray .char, 2, (10, 0, 0, 0, 0, [])), (9, .putfield 9, 3, (4, 0, 2, 0, 0, []))]),
  (22, [(12, .aload_n 0, 1, (0, 0, 0, 0, 0, [])), (13, .bipush 25, 2, (0, 0, 0, 25, 0, [])), (15, .newarray .int, 2, (11, 0, 0, 0, 0, [])), (17, .putfield 15, 3, (4, 5, 2, 0, 0, [])), (20, .aload_n 0, 1, (0, 0, 0, 0, 0, [])), (21, .bipush 25, 2, (0, 0, 0, 25, 0, []))]),
  (33, [(23, .newarray .int, 2, (11, 0, 0, 0, 0, [])), (25, .putfield 19, 3, (4, 6, 2, 0, 0, [])), (28, .aload_n 0, 1, (0, 0, 0, 0, 0, [])), (29, .iconst 4, 1, (0, 0, 0, 4, 0, [])), (30, .newarray .int, 2, (11, 0, 0, 0, 0, [])), (32, .putfield 22, 3, (4, 7, 2, 0, 0, []))]),
  (44, [(35, .aload_n 0, 1, (0, 0, 0, 0, 0, [])), (36, .iconst 4, 1, (0, 0, 0, 4, 0, [])), (37, .newarray .int, 2, (11, 0, 0, 0, 0, [])), (39, .putfield 25, 3, (4, 8, 2, 0, 0, [])), (42, .aload_n 0, 1, (0, 0, 0, 0, 0, [])), (43, .iconst 4, 1, (0, 0, 0, 4, 0, []))]),
  (54, [(44, .newarray .int, 2, (11, 0, 0, 0, 0, [])), (46, .putfield 28, 3, (4, 9, 2, 0, 0, [])), (49, .aload_n 0, 1, (0, 0, 0, 0, 0, [])), (50, .iconst 4, 1, (0, 0, 0, 4, 0, [])), (51, .newarray .int, 2, (11, 0, 0, 0, 0, [])), (53, .putfield 31, 3, (4, 10, 2, 0, 0, []))]),
  (57, [(56, .return_, 1, (0, 0, 0, 0, 0, []))])]
def zt_X4_scan : List (Nat × List zv_E) := [
  (12, [(0, .aload_n 0, 1, (0, 0, 0, 0, 0, [])), (1, .iconst 0, 1, (0, 0, 0, 0, 0, [])), (2, .putfield 34, 3, (4, 11, 0, 0, 0, [])), (5, .aload_n 0, 1, (0, 0, 0, 0, 0, [])), (6, .iconst 0, 1, (0, 0, 0, 0, 0, [])), (7, .putfield 38, 3, (4, 2, 0, 0, 0, [])), (10, .aload_n 0, 1, (0, 0, 0, 0, 0, [])), (11, .iconst 0, 1, (0, 0, 0, 0, 0, []))]),
  (26, [(12, .putfield 41, 3, (4, 3, 0, 0, 0, [])), (15, .aload_n 0, 1, (0, 0, 0, 0, 0, [])), (16, .iconst 0, 1, (0, 0, 0, 0, 0, [])), (17, .putfield 44, 3, (4, 4, 0, 0, 0, [])), (20, .aload_n 0, 1, (0, 0, 0, 0, 0, [])), (21, .getfield 15, 3, (4, 5, 2, 0, 0, [])), (24, .iconst 0, 1, (0, 0, 0, 0, 0, [])), (25, .invokestatic 47, 3, (1, 2, 0, 0, 0, []))]),
  (44, [(28, .aload_n 0, 1, (0, 0, 0, 0, 0, [])), (29, .getfield 19, 3, (4, 6, 2, 0, 0, [])), (32, .iconst 0, 1, (0, 0, 0, 0, 0, [])), (33, .invokestatic 47, 3, (1, 2, 0, 0, 0, [])), (36, .aload_n 0, 1, (0, 0, 0, 0, 0, [])), (37, .invokevirtual 53, 3, (30, 1, 1, 0, 0, [])), (40, .ifCond .ne 8, 3, (48, 0, 0, 0, 0, [])), (43, .aload_n 0, 1, (0, 0, 0, 0, 0, []))]),
  (57, [(44, .getfield 34, 3, (4, 11, 0, 0, 0, [])), (47, .ireturn, 1, (0, 0, 0, 0, 0, [])), (48, .iconst 0, 1, (0, 0, 0, 0, 0, [])), (49, .istore_n 1, 1, (1, 0, 0, 0, 0, [])), (50, .iload_n 1, 1, (1, 0, 0, 0, 0, [])), (51, .bipush 90, 2, (0, 0, 0, 90, 0, [])), (53, .if_icmp .ge 42, 3, (95, 0, 0, 0, 0, [])), (56, .aload_n 0, 1, (0, 0, 0, 0, 0, []))]),
  (75, [(57, .getfield 34, 3, (4, 11, 0, 0, 0, [])), (60, .aload_n 0, 1, (0, 0, 0, 0, 0, [])), (61, .getfield 57, 3, (4, 1, 0, 0, 0, [])), (64, .if_icmp .ge 31, 3, (95, 0, 0, 0, 0, [])), (67, .aload_n 0, 1, (0, 0, 0, 0, 0, [])), (68, .invokevirtual 60, 3, (31, 1, 1, 0, 0, [])), (71, .ifCond .ne 8, 3, (79, 0, 0, 0, 0, [])), (74, .aload_n 0, 1, (0, 0, 0, 0, 0, []))]),
  (87, [(75, .getfield 34, 3, (4, 11, 0, 0, 0, [])), (78, .ireturn, 1, (0, 0, 0, 0, 0, [])), (79, .aload_n 0, 1, (0, 0, 0, 0, 0, [])), (80, .dup, 1, (0, 0, 0, 0, 0, [])), (81, .getfield 44, 3, (4, 4, 0, 0, 0, [])), (84, .iconst 1, 1, (0, 0, 0, 1, 0, [])), (85, .iadd, 1, (0, 0, 0, 0, 0, [])), (86, .putfield 44, 3, (4, 4, 0, 0, 0, []))]),
  (97, [(89, .iinc 1 1, 3, (1, 0, 0, 1, 0, [])), (92, .goto (-42), 3, (50, 0, 0, 0, 0, [])), (95, .iconst (-1), 1, (0, 0, 0, (-1), 0, [])), (96, .ireturn, 1, (0, 0, 0, 0, 0, []))])]
def zt_X4_scanHead : List (Nat × List zv_E) := [
  (11, [(0, .aload_n 0, 1, (0, 0, 0, 0, 0, [])), (1, .invokevirtual 63, 3, (40, 1, 1, 0, 0, [])), (4, .bipush 68, 2, (0, 0, 0, 68, 0, [])), (6, .if_icmp .eq 5, 3, (11, 0, 0, 0, 0, [])), (9, .iconst 0, 1, (0, 0, 0, 0, 0, [])), (10, .ireturn, 1, (0, 0, 0, 0, 0, []))]),
  (19, [(11, .aload_n 0, 1, (0, 0, 0, 0, 0, [])), (12, .dup, 1, (0, 0, 0, 0, 0, [])), (13, .getfield 34, 3, (4, 11, 0, 0, 0, [])), (16, .iconst 1, 1, (0, 0, 0, 1, 0, [])), (17, .iadd, 1, (0, 0, 0, 0, 0, [])), (18, .putfield 34, 3, (4, 11, 0, 0, 0, []))]),
  (29, [(21, .aload_n 0, 1, (0, 0, 0, 0, 0, [])), (22, .iconst 1, 1, (0, 0, 0, 1, 0, [])), (23, .iconst 5, 1, (0, 0, 0, 5, 0, [])), (24, .invokevirtual 67, 3, (41, 3, 1, 0, 0, [])), (27, .istore_n 1, 1, (1, 0, 0, 0, 0, [])), (28, .iload_n 1, 1, (1, 0, 0, 0, 0, []))]),
  (37, [(29, .iconst (-1), 1, (0, 0, 0, (-1), 0, [])), (30, .if_icmp .ne 5, 3, (35, 0, 0, 0, 0, [])), (33, .iconst 0, 1, (0, 0, 0, 0, 0, [])), (34, .ireturn, 1, (0, 0, 0, 0, 0, [])), (35, .aload_n 0, 1, (0, 0, 0, 0, 0, [])), (36, .iload_n 1, 1, (1, 0, 0, 0, 0, []))]),
  (42, [(37, .putfield 38, 3, (4, 2, 0, 0, 0, [])), (40, .iconst 1, 1, (0, 0, 0, 1, 0, [])), (41, .ireturn, 1, (0, 0, 0, 0, 0, []))])]
def zt_X4_scanPart : List (Nat × List zv_E) := [
  (53, [(0, .aload_n 0, 1, (0, 0, 0, 0, 0, [])), (1, .invokevirtual 63, 3, (40, 1, 1, 0, 0, [])), (4, .lookupswitch 68 #[(99, 56), (101, 63), (108, 44), (112, 49)], 44, (72, 0, 0, 0, 0, [(99, 60), (101, 67), (108, 48), (112, 53)])), (48, .aload_n 0, 1, (0, 0, 0, 0, 0, [])), (49, .invokevirtual 71, 3, (32, 1, 1, 0, 0, [])), (52, .ireturn, 1, (0, 0, 0, 0, 0, []))]),
  (61, [(53, .aload_n 0, 1, (0, 0, 0, 0, 0, [])), (54, .iconst 1, 1, (0, 0, 0, 1, 0, [])), (55, .iconst 1, 1, (0, 0, 0, 1, 0, [])), (56, .invokevirtual 74, 3, (33, 3, 1, 0, 0, [])), (59, .ireturn, 1, (0, 0, 0, 0, 0, [])), (60, .aload_n 0, 1, (0, 0, 0, 0, 0, []))]),
  (69, [(61, .iconst 2, 1, (0, 0, 0, 2, 0, [])), (62, .iconst 3, 1, (0, 0, 0, 3, 0, [])), (63, .invokevirtual 74, 3, (33, 3, 1, 0, 0, [])), (66, .ireturn, 1, (0, 0, 0, 0, 0, [])), (67, .aload_n 0, 1, (0, 0, 0, 0, 0, [])), (68, .invokevirtual 78, 3, (34, 1, 1, 0, 0, []))]),
  (74, [(71, .ireturn, 1, (0, 0, 0, 0, 0, [])), (72, .iconst 0, 1, (0, 0, 0, 0, 0, [])), (73, .ireturn, 1, (0, 0, 0, 0, 0, []))])]
def zt_X4_scanLink : List (Nat × List zv_E) := [
  (10, [(0, .aload_n 0, 1, (0, 0, 0, 0, 0, [])), (1, .aload_n 0, 1, (0, 0, 0, 0, 0, [])), (2, .getfield 15, 3, (4, 5, 2, 0, 0, [])), (5, .invokevirtual 81, 3, (35, 2, 1, 0, 0, [])), (8, .istore_n 1, 1, (1, 0, 0, 0, 0, [])), (9, .iload_n 1, 1, (1, 0, 0, 0, 0, []))]),
  (18, [(10, .iconst (-1), 1, (0, 0, 0, (-1), 0, [])), (11, .if_icmp .ne 5, 3, (16, 0, 0, 0, 0, [])), (14, .iconst 0, 1, (0, 0, 0, 0, 0, [])), (15, .ireturn, 1, (0, 0, 0, 0, 0, [])), (16, .aload_n 0, 1, (0, 0, 0, 0, 0, [])), (17, .iconst 1, 1, (0, 0, 0, 1, 0, []))]),
  (27, [(18, .bipush 9, 2, (0, 0, 0, 9, 0, [])), (20, .invokevirtual 67, 3, (41, 3, 1, 0, 0, [])), (23, .istore_n 2, 1, (2, 0, 0, 0, 0, [])), (24, .iload_n 2, 1, (2, 0, 0, 0, 0, [])), (25, .iconst (-1), 1, (0, 0, 0, (-1), 0, [])), (26, .if_icmp .ne 5, 3, (31, 0, 0, 0, 0, []))]),
  (37, [(29, .iconst 0, 1, (0, 0, 0, 0, 0, [])), (30, .ireturn, 1, (0, 0, 0, 0, 0, [])), (31, .aload_n 0, 1, (0, 0, 0, 0, 0, [])), (32, .getfield 15, 3, (4, 5, 2, 0, 0, [])), (35, .iload_n 1, 1, (1, 0, 0, 0, 0, [])), (36, .iload_n 2, 1, (2, 0, 0, 0, 0, []))]),
  (43, [(37, .iload_n 2, 1, (2, 0, 0, 0, 0, [])), (38, .invokestatic 85, 3, (36, 4, 0, 0, 0, [])), (41, .iconst 1, 1, (0, 0, 0, 1, 0, [])), (42, .ireturn, 1, (0, 0, 0, 0, 0, []))])]
def zt_X4_scanSession : List (Nat × List zv_E) := [
  (10, [(0, .aload_n 0, 1, (0, 0, 0, 0, 0, [])), (1, .aload_n 0, 1, (0, 0, 0, 0, 0, [])), (2, .getfield 19, 3, (4, 6, 2, 0, 0, [])), (5, .invokevirtual 81, 3, (35, 2, 1, 0, 0, [])), (8, .istore_n 3, 1, (3, 0, 0, 0, 0, [])), (9, .iload_n 3, 1, (3, 0, 0, 0, 0, []))]),
  (18, [(10, .iconst (-1), 1, (0, 0, 0, (-1), 0, [])), (11, .if_icmp .ne 5, 3, (16, 0, 0, 0, 0, [])), (14, .iconst 0, 1, (0, 0, 0, 0, 0, [])), (15, .ireturn, 1, (0, 0, 0, 0, 0, [])), (16, .aload_n 0, 1, (0, 0, 0, 0, 0, [])), (17, .getfield 19, 3, (4, 6, 2, 0, 0, []))]),
  (28, [(20, .iload_n 3, 1, (3, 0, 0, 0, 0, [])), (21, .iload_n 1, 1, (1, 0, 0, 0, 0, [])), (22, .iload_n 2, 1, (2, 0, 0, 0, 0, [])), (23, .invokestatic 85, 3, (36, 4, 0, 0, 0, [])), (26, .iconst 1, 1, (0, 0, 0, 1, 0, [])), (27, .ireturn, 1, (0, 0, 0, 0, 0, []))])]
def zt_X4_scanExit : List (Nat × List zv_E) := [
  (16, [(0, .aload_n 0, 1, (0, 0, 0, 0, 0, [])), (1, .getfield 41, 3, (4, 3, 0, 0, 0, [])), (4, .iconst 4, 1, (0, 0, 0, 4, 0, [])), (5, .if_icmp .lt 5, 3, (10, 0, 0, 0, 0, [])), (8, .iconst 0, 1, (0, 0, 0, 0, 0, [])), (9, .ireturn, 1, (0, 0, 0, 0, 0, [])), (10, .aload_n 0, 1, (0, 0, 0, 0, 0, [])), (11, .dup, 1, (0, 0, 0, 0, 0, [])), (12, .getfield 34, 3, (4, 11, 0, 0, 0, [])), (15, .iconst 1, 1, (0, 0, 0, 1, 0, []))]),
  (32, [(16, .iadd, 1, (0, 0, 0, 0, 0, [])), (17, .putfield 34, 3, (4, 11, 0, 0, 0, [])), (20, .aload_n 0, 1, (0, 0, 0, 0, 0, [])), (21, .iconst 0, 1, (0, 0, 0, 0, 0, [])), (22, .aload_n 0, 1, (0, 0, 0, 0, 0, [])), (23, .getfield 38, 3, (4, 2, 0, 0, 0, [])), (26, .iconst 1, 1, (0, 0, 0, 1, 0, [])), (27, .isub, 1, (0, 0, 0, 0, 0, [])), (28, .invokevirtual 67, 3, (41, 3, 1, 0, 0, [])), (31, .istore_n 1, 1, (1, 0, 0, 0, 0, []))]),
  (48, [(32, .iload_n 1, 1, (1, 0, 0, 0, 0, [])), (33, .iconst (-1), 1, (0, 0, 0, (-1), 0, [])), (34, .if_icmp .ne 7, 3, (41, 0, 0, 0, 0, [])), (37, .iconst (-1), 1, (0, 0, 0, (-1), 0, [])), (38, .goto 9, 3, (47, 0, 0, 0, 0, [])), (41, .aload_n 0, 1, (0, 0, 0, 0, 0, [])), (42, .iconst 0, 1, (0, 0, 0, 0, 0, [])), (43, .iconst 2, 1, (0, 0, 0, 2, 0, [])), (44, .invokevirtual 67, 3, (41, 3, 1, 0, 0, [])), (47, .istore_n 2, 1, (2, 0, 0, 0, 0, []))]),
  (64, [(48, .iload_n 2, 1, (2, 0, 0, 0, 0, [])), (49, .iconst (-1), 1, (0, 0, 0, (-1), 0, [])), (50, .if_icmp .ne 7, 3, (57, 0, 0, 0, 0, [])), (53, .iconst (-1), 1, (0, 0, 0, (-1), 0, [])), (54, .goto 9, 3, (63, 0, 0, 0, 0, [])), (57, .aload_n 0, 1, (0, 0, 0, 0, 0, [])), (58, .iconst 1, 1, (0, 0, 0, 1, 0, [])), (59, .iconst 5, 1, (0, 0, 0, 5, 0, [])), (60, .invokevirtual 67, 3, (41, 3, 1, 0, 0, [])), (63, .istore_n 3, 1, (3, 0, 0, 0, 0, []))]),
  (80, [(64, .iload_n 3, 1, (3, 0, 0, 0, 0, [])), (65, .iconst (-1), 1, (0, 0, 0, (-1), 0, [])), (66, .if_icmp .ne 7, 3, (73, 0, 0, 0, 0, [])), (69, .iconst (-1), 1, (0, 0, 0, (-1), 0, [])), (70, .goto 9, 3, (79, 0, 0, 0, 0, [])), (73, .aload_n 0, 1, (0, 0, 0, 0, 0, [])), (74, .iconst 0, 1, (0, 0, 0, 0, 0, [])), (75, .iconst 5, 1, (0, 0, 0, 5, 0, [])), (76, .invokevirtual 67, 3, (41, 3, 1, 0, 0, [])), (79, .istore 4, 2, (4, 0, 0, 0, 0, []))]),
  (98, [(81, .iload 4, 2, (4, 0, 0, 0, 0, [])), (83, .iconst (-1), 1, (0, 0, 0, (-1), 0, [])), (84, .if_icmp .ne 5, 3, (89, 0, 0, 0, 0, [])), (87, .iconst 0, 1, (0, 0, 0, 0, 0, [])), (88, .ireturn, 1, (0, 0, 0, 0, 0, [])), (89, .aload_n 0, 1, (0, 0, 0, 0, 0, [])), (90, .getfield 22, 3, (4, 7, 2, 0, 0, [])), (93, .aload_n 0, 1, (0, 0, 0, 0, 0, [])), (94, .getfield 41, 3, (4, 3, 0, 0, 0, [])), (97, .iload_n 1, 1, (1, 0, 0, 0, 0, []))]),
  (114, [(98, .iastore, 1, (0, 0, 0, 0, 0, [])), (99, .aload_n 0, 1, (0, 0, 0, 0, 0, [])), (100, .getfield 25, 3, (4, 8, 2, 0, 0, [])), (103, .aload_n 0, 1, (0, 0, 0, 0, 0, [])), (104, .getfield 41, 3, (4, 3, 0, 0, 0, [])), (107, .iload_n 2, 1, (2, 0, 0, 0, 0, [])), (108, .iastore, 1, (0, 0, 0, 0, 0, [])), (109, .aload_n 0, 1, (0, 0, 0, 0, 0, [])), (110, .getfield 28, 3, (4, 9, 2, 0, 0, [])), (113, .aload_n 0, 1, (0, 0, 0, 0, 0, []))]),
  (131, [(114, .getfield 41, 3, (4, 3, 0, 0, 0, [])), (117, .iload_n 3, 1, (3, 0, 0, 0, 0, [])), (118, .iastore, 1, (0, 0, 0, 0, 0, [])), (119, .aload_n 0, 1, (0, 0, 0, 0, 0, [])), (120, .getfield 31, 3, (4, 10, 2, 0, 0, [])), (123, .aload_n 0, 1, (0, 0, 0, 0, 0, [])), (124, .getfield 41, 3, (4, 3, 0, 0, 0, [])), (127, .iload 4, 2, (4, 0, 0, 0, 0, [])), (129, .iastore, 1, (0, 0, 0, 0, 0, [])), (130, .aload_n 0, 1, (0, 0, 0, 0, 0, []))]),
  (142, [(131, .dup, 1, (0, 0, 0, 0, 0, [])), (132, .getfield 41, 3, (4, 3, 0, 0, 0, [])), (135, .iconst 1, 1, (0, 0, 0, 1, 0, [])), (136, .iadd, 1, (0, 0, 0, 0, 0, [])), (137, .putfield 41, 3, (4, 3, 0, 0, 0, [])), (140, .iconst 1, 1, (0, 0, 0, 1, 0, [])), (141, .ireturn, 1, (0, 0, 0, 0, 0, []))])]
def zt_X4_scanPair : List (Nat × List zv_E) := [
  (13, [(0, .aload_n 0, 1, (0, 0, 0, 0, 0, [])), (1, .aload_n 1, 1, (1, 0, 0, 0, 0, [])), (2, .invokevirtual 89, 3, (37, 2, 1, 0, 0, [])), (5, .ifCond .ne 5, 3, (10, 0, 0, 0, 0, [])), (8, .iconst (-1), 1, (0, 0, 0, (-1), 0, [])), (9, .ireturn, 1, (0, 0, 0, 0, 0, [])), (10, .aload_n 0, 1, (0, 0, 0, 0, 0, [])), (11, .dup, 1, (0, 0, 0, 0, 0, [])), (12, .getfield 34, 3, (4, 11, 0, 0, 0, []))]),
  (28, [(15, .iconst 1, 1, (0, 0, 0, 1, 0, [])), (16, .iadd, 1, (0, 0, 0, 0, 0, [])), (17, .putfield 34, 3, (4, 11, 0, 0, 0, [])), (20, .aload_n 0, 1, (0, 0, 0, 0, 0, [])), (21, .iconst 0, 1, (0, 0, 0, 0, 0, [])), (22, .aload_n 0, 1, (0, 0, 0, 0, 0, [])), (23, .getfield 38, 3, (4, 2, 0, 0, 0, [])), (26, .iconst 1, 1, (0, 0, 0, 1, 0, [])), (27, .isub, 1, (0, 0, 0, 0, 0, []))]),
  (41, [(28, .invokevirtual 67, 3, (41, 3, 1, 0, 0, [])), (31, .istore_n 2, 1, (2, 0, 0, 0, 0, [])), (32, .iload_n 2, 1, (2, 0, 0, 0, 0, [])), (33, .iconst (-1), 1, (0, 0, 0, (-1), 0, [])), (34, .if_icmp .ne 5, 3, (39, 0, 0, 0, 0, [])), (37, .iconst (-1), 1, (0, 0, 0, (-1), 0, [])), (38, .ireturn, 1, (0, 0, 0, 0, 0, [])), (39, .aload_n 0, 1, (0, 0, 0, 0, 0, [])), (40, .aload_n 1, 1, (1, 0, 0, 0, 0, []))]),
  (56, [(41, .iload_n 2, 1, (2, 0, 0, 0, 0, [])), (42, .invokevirtual 93, 3, (38, 3, 1, 0, 0, [])), (45, .ifCond .ne 15, 3, (60, 0, 0, 0, 0, [])), (48, .aload_n 0, 1, (0, 0, 0, 0, 0, [])), (49, .dup, 1, (0, 0, 0, 0, 0, [])), (50, .getfield 34, 3, (4, 11, 0, 0, 0, [])), (53, .iconst 1, 1, (0, 0, 0, 1, 0, [])), (54, .isub, 1, (0, 0, 0, 0, 0, [])), (55, .putfield 34, 3, (4, 11, 0, 0, 0, []))]),
  (69, [(58, .iconst (-1), 1, (0, 0, 0, (-1), 0, [])), (59, .ireturn, 1, (0, 0, 0, 0, 0, [])), (60, .aload_n 0, 1, (0, 0, 0, 0, 0, [])), (61, .iconst 0, 1, (0, 0, 0, 0, 0, [])), (62, .aload_n 0, 1, (0, 0, 0, 0, 0, [])), (63, .getfield 38, 3, (4, 2, 0, 0, 0, [])), (66, .iconst 1, 1, (0, 0, 0, 1, 0, [])), (67, .isub, 1, (0, 0, 0, 0, 0, [])), (68, .invokevirtual 67, 3, (41, 3, 1, 0, 0, []))]),
  (82, [(71, .istore_n 3, 1, (3, 0, 0, 0, 0, [])), (72, .iload_n 3, 1, (3, 0, 0, 0, 0, [])), (73, .iconst (-1), 1, (0, 0, 0, (-1), 0, [])), (74, .if_icmp .ne 5, 3, (79, 0, 0, 0, 0, [])), (77, .iconst (-1), 1, (0, 0, 0, (-1), 0, [])), (78, .ireturn, 1, (0, 0, 0, 0, 0, [])), (79, .aload_n 1, 1, (1, 0, 0, 0, 0, [])), (80, .iload_n 2, 1, (2, 0, 0, 0, 0, [])), (81, .iload_n 3, 1, (3, 0, 0, 0, 0, []))]),
  (99, [(82, .invokestatic 97, 3, (39, 3, 1, 0, 0, [])), (85, .ifCond .ne 15, 3, (100, 0, 0, 0, 0, [])), (88, .aload_n 0, 1, (0, 0, 0, 0, 0, [])), (89, .dup, 1, (0, 0, 0, 0, 0, [])), (90, .getfield 34, 3, (4, 11, 0, 0, 0, [])), (93, .iconst 1, 1, (0, 0, 0, 1, 0, [])), (94, .isub, 1, (0, 0, 0, 0, 0, [])), (95, .putfield 34, 3, (4, 11, 0, 0, 0, [])), (98, .iconst (-1), 1, (0, 0, 0, (-1), 0, []))]),
  (106, [(99, .ireturn, 1, (0, 0, 0, 0, 0, [])), (100, .iload_n 2, 1, (2, 0, 0, 0, 0, [])), (101, .iconst 5, 1, (0, 0, 0, 5, 0, [])), (102, .imul, 1, (0, 0, 0, 0, 0, [])), (103, .iload_n 3, 1, (3, 0, 0, 0, 0, [])), (104, .iadd, 1, (0, 0, 0, 0, 0, [])), (105, .ireturn, 1, (0, 0, 0, 0, 0, []))])]
def zt_X4_setPair : List (Nat × List zv_E) := [
  (6, [(0, .iload_n 1, 1, (1, 0, 0, 0, 0, [])), (1, .iconst 5, 1, (0, 0, 0, 5, 0, [])), (2, .irem, 1, (0, 0, 0, 0, 0, [])), (3, .iconst 5, 1, (0, 0, 0, 5, 0, [])), (4, .imul, 1, (0, 0, 0, 0, 0, [])), (5, .iload_n 1, 1, (1, 0, 0, 0, 0, []))]),
  (13, [(6, .iconst 5, 1, (0, 0, 0, 5, 0, [])), (7, .idiv, 1, (0, 0, 0, 0, 0, [])), (8, .iadd, 1, (0, 0, 0, 0, 0, [])), (9, .istore 4, 2, (4, 0, 0, 0, 0, [])), (11, .iload_n 1, 1, (1, 0, 0, 0, 0, [])), (12, .ifCond .lt 25, 3, (37, 0, 0, 0, 0, []))]),
  (24, [(15, .iload_n 1, 1, (1, 0, 0, 0, 0, [])), (16, .aload_n 0, 1, (0, 0, 0, 0, 0, [])), (17, .arraylength, 1, (0, 0, 0, 0, 0, [])), (18, .if_icmp .ge 19, 3, (37, 0, 0, 0, 0, [])), (21, .iload 4, 2, (4, 0, 0, 0, 0, [])), (23, .aload_n 0, 1, (0, 0, 0, 0, 0, []))]),
  (32, [(24, .arraylength, 1, (0, 0, 0, 0, 0, [])), (25, .if_icmp .ge 12, 3, (37, 0, 0, 0, 0, [])), (28, .aload_n 0, 1, (0, 0, 0, 0, 0, [])), (29, .iload_n 1, 1, (1, 0, 0, 0, 0, [])), (30, .iload_n 2, 1, (2, 0, 0, 0, 0, [])), (31, .iastore, 1, (0, 0, 0, 0, 0, []))]),
  (38, [(32, .aload_n 0, 1, (0, 0, 0, 0, 0, [])), (33, .iload 4, 2, (4, 0, 0, 0, 0, [])), (35, .iload_n 3, 1, (3, 0, 0, 0, 0, [])), (36, .iastore, 1, (0, 0, 0, 0, 0, [])), (37, .return_, 1, (0, 0, 0, 0, 0, []))])]
def zt_X4_anyFree : List (Nat × List zv_E) := [
  (8, [(0, .iconst 0, 1, (0, 0, 0, 0, 0, [])), (1, .istore_n 2, 1, (2, 0, 0, 0, 0, [])), (2, .iload_n 2, 1, (2, 0, 0, 0, 0, [])), (3, .aload_n 0, 1, (0, 0, 0, 0, 0, [])), (4, .getfield 38, 3, (4, 2, 0, 0, 0, [])), (7, .if_icmp .ge 20, 3, (27, 0, 0, 0, 0, []))]),
  (20, [(10, .aload_n 0, 1, (0, 0, 0, 0, 0, [])), (11, .aload_n 1, 1, (1, 0, 0, 0, 0, [])), (12, .iload_n 2, 1, (2, 0, 0, 0, 0, [])), (13, .invokevirtual 93, 3, (38, 3, 1, 0, 0, [])), (16, .ifCond .eq 5, 3, (21, 0, 0, 0, 0, [])), (19, .iconst 1, 1, (0, 0, 0, 1, 0, []))]),
  (29, [(20, .ireturn, 1, (0, 0, 0, 0, 0, [])), (21, .iinc 2 1, 3, (2, 0, 0, 1, 0, [])), (24, .goto (-22), 3, (2, 0, 0, 0, 0, [])), (27, .iconst 0, 1, (0, 0, 0, 0, 0, [])), (28, .ireturn, 1, (0, 0, 0, 0, 0, []))])]
def zt_X4_hasFree : List (Nat × List zv_E) := [
  (8, [(0, .iconst 0, 1, (0, 0, 0, 0, 0, [])), (1, .istore_n 3, 1, (3, 0, 0, 0, 0, [])), (2, .iload_n 3, 1, (3, 0, 0, 0, 0, [])), (3, .aload_n 0, 1, (0, 0, 0, 0, 0, [])), (4, .getfield 38, 3, (4, 2, 0, 0, 0, [])), (7, .if_icmp .ge 20, 3, (27, 0, 0, 0, 0, []))]),
  (20, [(10, .aload_n 1, 1, (1, 0, 0, 0, 0, [])), (11, .iload_n 2, 1, (2, 0, 0, 0, 0, [])), (12, .iload_n 3, 1, (3, 0, 0, 0, 0, [])), (13, .invokestatic 97, 3, (39, 3, 1, 0, 0, [])), (16, .ifCond .eq 5, 3, (21, 0, 0, 0, 0, [])), (19, .iconst 1, 1, (0, 0, 0, 1, 0, []))]),
  (29, [(20, .ireturn, 1, (0, 0, 0, 0, 0, [])), (21, .iinc 3 1, 3, (3, 0, 0, 1, 0, [])), (24, .goto (-22), 3, (2, 0, 0, 0, 0, [])), (27, .iconst 0, 1, (0, 0, 0, 0, 0, [])), (28, .ireturn, 1, (0, 0, 0, 0, 0, []))])]
def zt_X4_isFree : List (Nat × List zv_E) := [
  (6, [(0, .iload_n 1, 1, (1, 0, 0, 0, 0, [])), (1, .iconst 5, 1, (0, 0, 0, 5, 0, [])), (2, .imul, 1, (0, 0, 0, 0, 0, [])), (3, .iload_n 2, 1, (2, 0, 0, 0, 0, [])), (4, .iadd, 1, (0, 0, 0, 0, 0, [])), (5, .istore_n 3, 1, (3, 0, 0, 0, 0, []))]),
  (16, [(6, .iload_n 1, 1, (1, 0, 0, 0, 0, [])), (7, .iload_n 2, 1, (2, 0, 0, 0, 0, [])), (8, .if_icmp .eq 23, 3, (31, 0, 0, 0, 0, [])), (11, .iload_n 3, 1, (3, 0, 0, 0, 0, [])), (12, .ifCond .lt 19, 3, (31, 0, 0, 0, 0, [])), (15, .iload_n 3, 1, (3, 0, 0, 0, 0, []))]),
  (24, [(16, .aload_n 0, 1, (0, 0, 0, 0, 0, [])), (17, .arraylength, 1, (0, 0, 0, 0, 0, [])), (18, .if_icmp .ge 13, 3, (31, 0, 0, 0, 0, [])), (21, .aload_n 0, 1, (0, 0, 0, 0, 0, [])), (22, .iload_n 3, 1, (3, 0, 0, 0, 0, [])), (23, .iaload, 1, (0, 0, 0, 0, 0, []))]),
  (33, [(24, .ifCond .ne 7, 3, (31, 0, 0, 0, 0, [])), (27, .iconst 1, 1, (0, 0, 0, 1, 0, [])), (28, .goto 4, 3, (32, 0, 0, 0, 0, [])), (31, .iconst 0, 1, (0, 0, 0, 0, 0, [])), (32, .ireturn, 1, (0, 0, 0, 0, 0, []))])]
def zt_X4_sign : List (Nat × List zv_E) := [
  (12, [(0, .aload_n 0, 1, (0, 0, 0, 0, 0, [])), (1, .getfield 34, 3, (4, 11, 0, 0, 0, [])), (4, .ifCond .lt 35, 3, (39, 0, 0, 0, 0, [])), (7, .aload_n 0, 1, (0, 0, 0, 0, 0, [])), (8, .getfield 34, 3, (4, 11, 0, 0, 0, [])), (11, .aload_n 0, 1, (0, 0, 0, 0, 0, []))]),
  (25, [(12, .getfield 57, 3, (4, 1, 0, 0, 0, [])), (15, .if_icmp .ge 24, 3, (39, 0, 0, 0, 0, [])), (18, .aload_n 0, 1, (0, 0, 0, 0, 0, [])), (19, .getfield 34, 3, (4, 11, 0, 0, 0, [])), (22, .bipush 90, 2, (0, 0, 0, 90, 0, [])), (24, .if_icmp .ge 15, 3, (39, 0, 0, 0, 0, []))]),
  (37, [(27, .aload_n 0, 1, (0, 0, 0, 0, 0, [])), (28, .getfield 9, 3, (4, 0, 2, 0, 0, [])), (31, .aload_n 0, 1, (0, 0, 0, 0, 0, [])), (32, .getfield 34, 3, (4, 11, 0, 0, 0, [])), (35, .caload, 1, (0, 0, 0, 0, 0, [])), (36, .goto 4, 3, (40, 0, 0, 0, 0, []))]),
  (41, [(39, .iconst (-1), 1, (0, 0, 0, (-1), 0, [])), (40, .ireturn, 1, (0, 0, 0, 0, 0, []))])]
def zt_X4_digit : List (Nat × List zv_E) := [
  (9, [(0, .aload_n 0, 1, (0, 0, 0, 0, 0, [])), (1, .invokevirtual 63, 3, (40, 1, 1, 0, 0, [])), (4, .bipush 48, 2, (0, 0, 0, 48, 0, [])), (6, .isub, 1, (0, 0, 0, 0, 0, [])), (7, .istore_n 3, 1, (3, 0, 0, 0, 0, [])), (8, .iload_n 3, 1, (3, 0, 0, 0, 0, []))]),
  (19, [(9, .iload_n 1, 1, (1, 0, 0, 0, 0, [])), (10, .if_icmp .lt 8, 3, (18, 0, 0, 0, 0, [])), (13, .iload_n 3, 1, (3, 0, 0, 0, 0, [])), (14, .iload_n 2, 1, (2, 0, 0, 0, 0, [])), (15, .if_icmp .le 5, 3, (20, 0, 0, 0, 0, [])), (18, .iconst (-1), 1, (0, 0, 0, (-1), 0, []))]),
  (27, [(19, .ireturn, 1, (0, 0, 0, 0, 0, [])), (20, .aload_n 0, 1, (0, 0, 0, 0, 0, [])), (21, .dup, 1, (0, 0, 0, 0, 0, [])), (22, .getfield 34, 3, (4, 11, 0, 0, 0, [])), (25, .iconst 1, 1, (0, 0, 0, 1, 0, [])), (26, .iadd, 1, (0, 0, 0, 0, 0, []))]),
  (32, [(27, .putfield 34, 3, (4, 11, 0, 0, 0, [])), (30, .iload_n 3, 1, (3, 0, 0, 0, 0, [])), (31, .ireturn, 1, (0, 0, 0, 0, 0, []))])]
def zt_X5_init : List (Nat × List zv_E) := [
  (10, [(0, .aload_n 0, 1, (0, 0, 0, 0, 0, [])), (1, .invokespecial 3, 3, (998, 1, 0, 0, 0, [])), (4, .aload_n 0, 1, (0, 0, 0, 0, 0, [])), (5, .bipush 6, 2, (0, 0, 0, 6, 0, [])), (7, .newarray .int, 2, (11, 0, 0, 0, 0, [])), (9, .putfield 9, 3, (5, 1, 2, 0, 0, []))]),
  (22, [(12, .aload_n 0, 1, (0, 0, 0, 0, 0, [])), (13, .bipush 6, 2, (0, 0, 0, 6, 0, [])), (15, .newarray .int, 2, (11, 0, 0, 0, 0, [])), (17, .putfield 15, 3, (5, 2, 2, 0, 0, [])), (20, .aload_n 0, 1, (0, 0, 0, 0, 0, [])), (21, .bipush 6, 2, (0, 0, 0, 6, 0, []))]),
  (29, [(23, .newarray .int, 2, (11, 0, 0, 0, 0, [])), (25, .putfield 18, 3, (5, 3, 2, 0, 0, [])), (28, .return_, 1, (0, 0, 0, 0, 0, []))])]
def zt_X5_note : List (Nat × List zv_E) := [
  (12, [(0, .aload_n 0, 1, (0, 0, 0, 0, 0, [])), (1, .getfield 21, 3, (5, 0, 0, 0, 0, [])), (4, .ifCond .lt 52, 3, (56, 0, 0, 0, 0, [])), (7, .aload_n 0, 1, (0, 0, 0, 0, 0, [])), (8, .getfield 21, 3, (5, 0, 0, 0, 0, [])), (11, .bipush 6, 2, (0, 0, 0, 6, 0, []))]),
  (25, [(13, .if_icmp .ge 43, 3, (56, 0, 0, 0, 0, [])), (16, .aload_n 0, 1, (0, 0, 0, 0, 0, [])), (17, .getfield 9, 3, (5, 1, 2, 0, 0, [])), (20, .aload_n 0, 1, (0, 0, 0, 0, 0, [])), (21, .getfield 21, 3, (5, 0, 0, 0, 0, [])), (24, .iload_n 1, 1, (1, 0, 0, 0, 0, []))]),
  (35, [(25, .iastore, 1, (0, 0, 0, 0, 0, [])), (26, .aload_n 0, 1, (0, 0, 0, 0, 0, [])), (27, .getfield 15, 3, (5, 2, 2, 0, 0, [])), (30, .aload_n 0, 1, (0, 0, 0, 0, 0, [])), (31, .getfield 21, 3, (5, 0, 0, 0, 0, [])), (34, .iload_n 2, 1, (2, 0, 0, 0, 0, []))]),
  (45, [(35, .iastore, 1, (0, 0, 0, 0, 0, [])), (36, .aload_n 0, 1, (0, 0, 0, 0, 0, [])), (37, .getfield 18, 3, (5, 3, 2, 0, 0, [])), (40, .aload_n 0, 1, (0, 0, 0, 0, 0, [])), (41, .getfield 21, 3, (5, 0, 0, 0, 0, [])), (44, .iload_n 3, 1, (3, 0, 0, 0, 0, []))]),
  (53, [(45, .iastore, 1, (0, 0, 0, 0, 0, [])), (46, .aload_n 0, 1, (0, 0, 0, 0, 0, [])), (47, .dup, 1, (0, 0, 0, 0, 0, [])), (48, .getfield 21, 3, (5, 0, 0, 0, 0, [])), (51, .iconst 1, 1, (0, 0, 0, 1, 0, [])), (52, .iadd, 1, (0, 0, 0, 0, 0, []))]),
  (57, [(53, .putfield 21, 3, (5, 0, 0, 0, 0, [])), (56, .return_, 1, (0, 0, 0, 0, 0, []))])]
def zt_X5_agree : List (Nat × List zv_E) := [
  (12, [(0, .iconst 0, 1, (0, 0, 0, 0, 0, [])), (1, .istore_n 3, 1, (3, 0, 0, 0, 0, [])), (2, .iload_n 3, 1, (3, 0, 0, 0, 0, [])), (3, .aload_n 0, 1, (0, 0, 0, 0, 0, [])), (4, .getfield 21, 3, (5, 0, 0, 0, 0, [])), (7, .if_icmp .ge 90, 3, (97, 0, 0, 0, 0, [])), (10, .iload_n 3, 1, (3, 0, 0, 0, 0, [])), (11, .bipush 6, 2, (0, 0, 0, 6, 0, []))]),
  (26, [(13, .if_icmp .ge 84, 3, (97, 0, 0, 0, 0, [])), (16, .aload_n 0, 1, (0, 0, 0, 0, 0, [])), (17, .getfield 9, 3, (5, 1, 2, 0, 0, [])), (20, .iload_n 3, 1, (3, 0, 0, 0, 0, [])), (21, .iaload, 1, (0, 0, 0, 0, 0, [])), (22, .istore 4, 2, (4, 0, 0, 0, 0, [])), (24, .aload_n 1, 1, (1, 0, 0, 0, 0, [])), (25, .getfield 25, 3, (6, 0, 2, 0, 0, []))]),
  (45, [(28, .iload 4, 2, (4, 0, 0, 0, 0, [])), (30, .invokevirtual 31, 3, (22, 2, 1, 0, 0, [])), (33, .istore 5, 2, (5, 0, 0, 0, 0, [])), (35, .iload_n 2, 1, (2, 0, 0, 0, 0, [])), (36, .ifCond .eq 30, 3, (66, 0, 0, 0, 0, [])), (39, .iload 5, 2, (5, 0, 0, 0, 0, [])), (41, .ifCond .eq 25, 3, (66, 0, 0, 0, 0, [])), (44, .aload_n 1, 1, (1, 0, 0, 0, 0, []))]),
  (60, [(45, .getfield 37, 3, (6, 1, 2, 0, 0, [])), (48, .iload 4, 2, (4, 0, 0, 0, 0, [])), (50, .invokevirtual 41, 3, (76, 2, 1, 0, 0, [])), (53, .aload_n 0, 1, (0, 0, 0, 0, 0, [])), (54, .getfield 15, 3, (5, 2, 2, 0, 0, [])), (57, .iload_n 3, 1, (3, 0, 0, 0, 0, [])), (58, .iaload, 1, (0, 0, 0, 0, 0, [])), (59, .if_icmp .ne 7, 3, (66, 0, 0, 0, 0, []))]),
  (76, [(62, .iconst 1, 1, (0, 0, 0, 1, 0, [])), (63, .goto 4, 3, (67, 0, 0, 0, 0, [])), (66, .iconst 0, 1, (0, 0, 0, 0, 0, [])), (67, .istore 6, 2, (6, 0, 0, 0, 0, [])), (69, .iload 6, 2, (6, 0, 0, 0, 0, [])), (71, .aload_n 0, 1, (0, 0, 0, 0, 0, [])), (72, .getfield 18, 3, (5, 3, 2, 0, 0, [])), (75, .iload_n 3, 1, (3, 0, 0, 0, 0, []))]),
  (90, [(76, .iaload, 1, (0, 0, 0, 0, 0, [])), (77, .iconst 1, 1, (0, 0, 0, 1, 0, [])), (78, .if_icmp .ne 7, 3, (85, 0, 0, 0, 0, [])), (81, .iconst 1, 1, (0, 0, 0, 1, 0, [])), (82, .goto 4, 3, (86, 0, 0, 0, 0, [])), (85, .iconst 0, 1, (0, 0, 0, 0, 0, [])), (86, .if_icmp .eq 5, 3, (91, 0, 0, 0, 0, [])), (89, .iconst 0, 1, (0, 0, 0, 0, 0, []))]),
  (99, [(90, .ireturn, 1, (0, 0, 0, 0, 0, [])), (91, .iinc 3 1, 3, (3, 0, 0, 1, 0, [])), (94, .goto (-92), 3, (2, 0, 0, 0, 0, [])), (97, .iconst 1, 1, (0, 0, 0, 1, 0, [])), (98, .ireturn, 1, (0, 0, 0, 0, 0, []))])]
def zt_X6_init : List (Nat × List zv_E) := [
  (13, [(0, .aload_n 0, 1, (0, 0, 0, 0, 0, [])), (1, .invokespecial 3, 3, (998, 1, 0, 0, 0, [])), (4, .aload_n 0, 1, (0, 0, 0, 0, 0, [])), (5, .new 9, 3, (7, 6, 0, 0, 0, [])), (8, .dup, 1, (0, 0, 0, 0, 0, [])), (9, .invokespecial 11, 3, (67, 1, 0, 0, 0, [])), (12, .putfield 12, 3, (6, 1, 2, 0, 0, []))]),
  (26, [(15, .aload_n 0, 1, (0, 0, 0, 0, 0, [])), (16, .iconst 5, 1, (0, 0, 0, 5, 0, [])), (17, .newarray .int, 2, (11, 0, 0, 0, 0, [])), (19, .putfield 18, 3, (6, 2, 2, 0, 0, [])), (22, .aload_n 0, 1, (0, 0, 0, 0, 0, [])), (23, .bipush 25, 2, (0, 0, 0, 25, 0, [])), (25, .newarray .int, 2, (11, 0, 0, 0, 0, []))]),
  (40, [(27, .putfield 22, 3, (6, 4, 2, 0, 0, [])), (30, .aload_n 0, 1, (0, 0, 0, 0, 0, [])), (31, .bipush 80, 2, (0, 0, 0, 80, 0, [])), (33, .newarray .int, 2, (11, 0, 0, 0, 0, [])), (35, .putfield 25, 3, (6, 5, 2, 0, 0, [])), (38, .aload_n 0, 1, (0, 0, 0, 0, 0, [])), (39, .iconst 4, 1, (0, 0, 0, 4, 0, []))]),
  (53, [(40, .newarray .int, 2, (11, 0, 0, 0, 0, [])), (42, .putfield 28, 3, (6, 6, 2, 0, 0, [])), (45, .aload_n 0, 1, (0, 0, 0, 0, 0, [])), (46, .iconst 4, 1, (0, 0, 0, 4, 0, [])), (47, .newarray .int, 2, (11, 0, 0, 0, 0, [])), (49, .putfield 31, 3, (6, 7, 2, 0, 0, [])), (52, .aload_n 0, 1, (0, 0, 0, 0, 0, []))]),
  (65, [(53, .iconst 5, 1, (0, 0, 0, 5, 0, [])), (54, .newarray .int, 2, (11, 0, 0, 0, 0, [])), (56, .putfield 34, 3, (6, 8, 2, 0, 0, [])), (59, .aload_n 0, 1, (0, 0, 0, 0, 0, [])), (60, .aload_n 1, 1, (1, 0, 0, 0, 0, [])), (61, .putfield 37, 3, (6, 0, 2, 0, 0, [])), (64, .aload_n 0, 1, (0, 0, 0, 0, 0, []))]),
  (73, [(65, .invokevirtual 41, 3, (53, 1, 0, 0, 0, [])), (68, .aload_n 0, 1, (0, 0, 0, 0, 0, [])), (69, .invokevirtual 44, 3, (52, 1, 0, 0, 0, [])), (72, .return_, 1, (0, 0, 0, 0, 0, []))])]
def zt_X6_begin : List (Nat × List zv_E) := [
  (10, [(0, .aload_n 0, 1, (0, 0, 0, 0, 0, [])), (1, .getfield 12, 3, (6, 1, 2, 0, 0, [])), (4, .aload_n 1, 1, (1, 0, 0, 0, 0, [])), (5, .invokevirtual 47, 3, (69, 2, 0, 0, 0, [])), (8, .aload_n 0, 1, (0, 0, 0, 0, 0, [])), (9, .invokevirtual 41, 3, (53, 1, 0, 0, 0, []))]),
  (17, [(12, .aload_n 0, 1, (0, 0, 0, 0, 0, [])), (13, .invokevirtual 44, 3, (52, 1, 0, 0, 0, [])), (16, .return_, 1, (0, 0, 0, 0, 0, []))])]
def zt_X6_restore : List (Nat × List zv_E) := [
  (10, [(0, .aload_n 0, 1, (0, 0, 0, 0, 0, [])), (1, .getfield 12, 3, (6, 1, 2, 0, 0, [])), (4, .aload_n 1, 1, (1, 0, 0, 0, 0, [])), (5, .invokevirtual 51, 3, (68, 2, 0, 0, 0, [])), (8, .aload_n 0, 1, (0, 0, 0, 0, 0, [])), (9, .invokevirtual 41, 3, (53, 1, 0, 0, 0, []))]),
  (17, [(12, .aload_n 0, 1, (0, 0, 0, 0, 0, [])), (13, .invokevirtual 44, 3, (52, 1, 0, 0, 0, [])), (16, .return_, 1, (0, 0, 0, 0, 0, []))])]
def zt_X6_copyFrom : List (Nat × List zv_E) := [
  (12, [(0, .aload_n 0, 1, (0, 0, 0, 0, 0, [])), (1, .getfield 12, 3, (6, 1, 2, 0, 0, [])), (4, .aload_n 1, 1, (1, 0, 0, 0, 0, [])), (5, .getfield 12, 3, (6, 1, 2, 0, 0, [])), (8, .invokevirtual 51, 3, (68, 2, 0, 0, 0, [])), (11, .aload_n 1, 1, (1, 0, 0, 0, 0, []))]),
  (22, [(12, .getfield 18, 3, (6, 2, 2, 0, 0, [])), (15, .iconst 0, 1, (0, 0, 0, 0, 0, [])), (16, .aload_n 0, 1, (0, 0, 0, 0, 0, [])), (17, .getfield 18, 3, (6, 2, 2, 0, 0, [])), (20, .iconst 0, 1, (0, 0, 0, 0, 0, [])), (21, .iconst 5, 1, (0, 0, 0, 5, 0, []))]),
  (32, [(22, .invokestatic 55, 3, (999, 5, 0, 0, 0, [])), (25, .aload_n 1, 1, (1, 0, 0, 0, 0, [])), (26, .getfield 22, 3, (6, 4, 2, 0, 0, [])), (29, .iconst 0, 1, (0, 0, 0, 0, 0, [])), (30, .aload_n 0, 1, (0, 0, 0, 0, 0, [])), (31, .getfield 22, 3, (6, 4, 2, 0, 0, []))]),
  (45, [(34, .iconst 0, 1, (0, 0, 0, 0, 0, [])), (35, .bipush 25, 2, (0, 0, 0, 25, 0, [])), (37, .invokestatic 55, 3, (999, 5, 0, 0, 0, [])), (40, .aload_n 1, 1, (1, 0, 0, 0, 0, [])), (41, .getfield 25, 3, (6, 5, 2, 0, 0, [])), (44, .iconst 0, 1, (0, 0, 0, 0, 0, []))]),
  (55, [(45, .aload_n 0, 1, (0, 0, 0, 0, 0, [])), (46, .getfield 25, 3, (6, 5, 2, 0, 0, [])), (49, .iconst 0, 1, (0, 0, 0, 0, 0, [])), (50, .aload_n 0, 1, (0, 0, 0, 0, 0, [])), (51, .getfield 25, 3, (6, 5, 2, 0, 0, [])), (54, .arraylength, 1, (0, 0, 0, 0, 0, []))]),
  (59, [(55, .invokestatic 55, 3, (999, 5, 0, 0, 0, [])), (58, .return_, 1, (0, 0, 0, 0, 0, []))])]
def zt_X6_changeCost : List (Nat × List zv_E) := [
  (8, [(0, .iload_n 1, 1, (1, 0, 0, 0, 0, [])), (1, .iconst 5, 1, (0, 0, 0, 5, 0, [])), (2, .imul, 1, (0, 0, 0, 0, 0, [])), (3, .iload_n 2, 1, (2, 0, 0, 0, 0, [])), (4, .iadd, 1, (0, 0, 0, 0, 0, [])), (5, .istore 4, 2, (4, 0, 0, 0, 0, [])), (7, .iload_n 2, 1, (2, 0, 0, 0, 0, []))]),
  (17, [(8, .iconst 5, 1, (0, 0, 0, 5, 0, [])), (9, .imul, 1, (0, 0, 0, 0, 0, [])), (10, .iload_n 1, 1, (1, 0, 0, 0, 0, [])), (11, .iadd, 1, (0, 0, 0, 0, 0, [])), (12, .istore 5, 2, (5, 0, 0, 0, 0, [])), (14, .iload 4, 2, (4, 0, 0, 0, 0, [])), (16, .ifCond .lt 44, 3, (60, 0, 0, 0, 0, []))]),
  (34, [(19, .iload 4, 2, (4, 0, 0, 0, 0, [])), (21, .bipush 25, 2, (0, 0, 0, 25, 0, [])), (23, .if_icmp .ge 37, 3, (60, 0, 0, 0, 0, [])), (26, .iload 5, 2, (5, 0, 0, 0, 0, [])), (28, .ifCond .lt 32, 3, (60, 0, 0, 0, 0, [])), (31, .iload 5, 2, (5, 0, 0, 0, 0, [])), (33, .bipush 25, 2, (0, 0, 0, 25, 0, []))]),
  (49, [(35, .if_icmp .ge 25, 3, (60, 0, 0, 0, 0, [])), (38, .aload_n 0, 1, (0, 0, 0, 0, 0, [])), (39, .getfield 12, 3, (6, 1, 2, 0, 0, [])), (42, .getfield 61, 3, (7, 0, 2, 0, 0, [])), (45, .iload 4, 2, (4, 0, 0, 0, 0, [])), (47, .iload_n 3, 1, (3, 0, 0, 0, 0, [])), (48, .iastore, 1, (0, 0, 0, 0, 0, []))]),
  (61, [(49, .aload_n 0, 1, (0, 0, 0, 0, 0, [])), (50, .getfield 12, 3, (6, 1, 2, 0, 0, [])), (53, .getfield 61, 3, (7, 0, 2, 0, 0, [])), (56, .iload 5, 2, (5, 0, 0, 0, 0, [])), (58, .iload_n 3, 1, (3, 0, 0, 0, 0, [])), (59, .iastore, 1, (0, 0, 0, 0, 0, [])), (60, .aload_n 0, 1, (0, 0, 0, 0, 0, []))]),
  (69, [(61, .invokevirtual 41, 3, (53, 1, 0, 0, 0, [])), (64, .aload_n 0, 1, (0, 0, 0, 0, 0, [])), (65, .invokevirtual 44, 3, (52, 1, 0, 0, 0, [])), (68, .return_, 1, (0, 0, 0, 0, 0, []))])]
def zt_X6_changeWeight : List (Nat × List zv_E) := [
  (10, [(0, .iload_n 1, 1, (1, 0, 0, 0, 0, [])), (1, .ifCond .lt 18, 3, (19, 0, 0, 0, 0, [])), (4, .iload_n 1, 1, (1, 0, 0, 0, 0, [])), (5, .iconst 4, 1, (0, 0, 0, 4, 0, [])), (6, .if_icmp .ge 13, 3, (19, 0, 0, 0, 0, [])), (9, .aload_n 0, 1, (0, 0, 0, 0, 0, []))]),
  (20, [(10, .getfield 12, 3, (6, 1, 2, 0, 0, [])), (13, .getfield 64, 3, (7, 1, 2, 0, 0, [])), (16, .iload_n 1, 1, (1, 0, 0, 0, 0, [])), (17, .iload_n 2, 1, (2, 0, 0, 0, 0, [])), (18, .iastore, 1, (0, 0, 0, 0, 0, [])), (19, .aload_n 0, 1, (0, 0, 0, 0, 0, []))]),
  (24, [(20, .invokevirtual 44, 3, (52, 1, 0, 0, 0, [])), (23, .return_, 1, (0, 0, 0, 0, 0, []))])]
def zt_X6_changeMode : List (Nat × List zv_E) := [
  (10, [(0, .aload_n 0, 1, (0, 0, 0, 0, 0, [])), (1, .getfield 12, 3, (6, 1, 2, 0, 0, [])), (4, .iload_n 1, 1, (1, 0, 0, 0, 0, [])), (5, .putfield 67, 3, (7, 5, 0, 0, 0, [])), (8, .aload_n 0, 1, (0, 0, 0, 0, 0, [])), (9, .invokevirtual 44, 3, (52, 1, 0, 0, 0, []))]),
  (13, [(12, .return_, 1, (0, 0, 0, 0, 0, []))])]
def zt_X6_forgetPicks : List (Nat × List zv_E) := [
  (10, [(0, .aload_n 0, 1, (0, 0, 0, 0, 0, [])), (1, .getfield 25, 3, (6, 5, 2, 0, 0, [])), (4, .bipush (-2), 2, (0, 0, 0, (-2), 0, [])), (6, .invokestatic 71, 3, (1, 2, 0, 0, 0, [])), (9, .return_, 1, (0, 0, 0, 0, 0, []))])]
def zt_X6_measure : List (Nat × List zv_E) := [
  (17, [(0, .iconst 0, 1, (0, 0, 0, 0, 0, [])), (1, .istore_n 1, 1, (1, 0, 0, 0, 0, [])), (2, .iload_n 1, 1, (1, 0, 0, 0, 0, [])), (3, .bipush 25, 2, (0, 0, 0, 25, 0, [])), (5, .if_icmp .ge 57, 3, (62, 0, 0, 0, 0, [])), (8, .aload_n 0, 1, (0, 0, 0, 0, 0, [])), (9, .getfield 12, 3, (6, 1, 2, 0, 0, [])), (12, .getfield 61, 3, (7, 0, 2, 0, 0, [])), (15, .iload_n 1, 1, (1, 0, 0, 0, 0, [])), (16, .iaload, 1, (0, 0, 0, 0, 0, []))]),
  (37, [(17, .ifCond .le 15, 3, (32, 0, 0, 0, 0, [])), (20, .aload_n 0, 1, (0, 0, 0, 0, 0, [])), (21, .getfield 12, 3, (6, 1, 2, 0, 0, [])), (24, .getfield 61, 3, (7, 0, 2, 0, 0, [])), (27, .iload_n 1, 1, (1, 0, 0, 0, 0, [])), (28, .iaload, 1, (0, 0, 0, 0, 0, [])), (29, .goto 6, 3, (35, 0, 0, 0, 0, [])), (32, .sipush 1000, 3, (0, 0, 0, 1000, 0, [])), (35, .istore_n 2, 1, (2, 0, 0, 0, 0, [])), (36, .aload_n 0, 1, (0, 0, 0, 0, 0, []))]),
  (51, [(37, .getfield 22, 3, (6, 4, 2, 0, 0, [])), (40, .iload_n 1, 1, (1, 0, 0, 0, 0, [])), (41, .iload_n 1, 1, (1, 0, 0, 0, 0, [])), (42, .iconst 5, 1, (0, 0, 0, 5, 0, [])), (43, .idiv, 1, (0, 0, 0, 0, 0, [])), (44, .iload_n 1, 1, (1, 0, 0, 0, 0, [])), (45, .iconst 5, 1, (0, 0, 0, 5, 0, [])), (46, .irem, 1, (0, 0, 0, 0, 0, [])), (47, .if_icmp .ne 7, 3, (54, 0, 0, 0, 0, [])), (50, .iconst 0, 1, (0, 0, 0, 0, 0, []))]),
  (67, [(51, .goto 4, 3, (55, 0, 0, 0, 0, [])), (54, .iload_n 2, 1, (2, 0, 0, 0, 0, [])), (55, .iastore, 1, (0, 0, 0, 0, 0, [])), (56, .iinc 1 1, 3, (1, 0, 0, 1, 0, [])), (59, .goto (-57), 3, (2, 0, 0, 0, 0, [])), (62, .iconst 0, 1, (0, 0, 0, 0, 0, [])), (63, .istore_n 1, 1, (1, 0, 0, 0, 0, [])), (64, .iload_n 1, 1, (1, 0, 0, 0, 0, [])), (65, .iconst 5, 1, (0, 0, 0, 5, 0, [])), (66, .if_icmp .ge 90, 3, (156, 0, 0, 0, 0, []))]),
  (83, [(69, .iconst 0, 1, (0, 0, 0, 0, 0, [])), (70, .istore_n 2, 1, (2, 0, 0, 0, 0, [])), (71, .iload_n 2, 1, (2, 0, 0, 0, 0, [])), (72, .iconst 5, 1, (0, 0, 0, 5, 0, [])), (73, .if_icmp .ge 77, 3, (150, 0, 0, 0, 0, [])), (76, .aload_n 0, 1, (0, 0, 0, 0, 0, [])), (77, .getfield 22, 3, (6, 4, 2, 0, 0, [])), (80, .iload_n 2, 1, (2, 0, 0, 0, 0, [])), (81, .iconst 5, 1, (0, 0, 0, 5, 0, [])), (82, .imul, 1, (0, 0, 0, 0, 0, []))]),
  (97, [(83, .iload_n 1, 1, (1, 0, 0, 0, 0, [])), (84, .iadd, 1, (0, 0, 0, 0, 0, [])), (85, .iaload, 1, (0, 0, 0, 0, 0, [])), (86, .istore_n 3, 1, (3, 0, 0, 0, 0, [])), (87, .iconst 0, 1, (0, 0, 0, 0, 0, [])), (88, .istore 4, 2, (4, 0, 0, 0, 0, [])), (90, .iload 4, 2, (4, 0, 0, 0, 0, [])), (92, .iconst 5, 1, (0, 0, 0, 5, 0, [])), (93, .if_icmp .ge 51, 3, (144, 0, 0, 0, 0, [])), (96, .iload_n 3, 1, (3, 0, 0, 0, 0, []))]),
  (110, [(97, .aload_n 0, 1, (0, 0, 0, 0, 0, [])), (98, .getfield 22, 3, (6, 4, 2, 0, 0, [])), (101, .iload_n 1, 1, (1, 0, 0, 0, 0, [])), (102, .iconst 5, 1, (0, 0, 0, 5, 0, [])), (103, .imul, 1, (0, 0, 0, 0, 0, [])), (104, .iload 4, 2, (4, 0, 0, 0, 0, [])), (106, .iadd, 1, (0, 0, 0, 0, 0, [])), (107, .iaload, 1, (0, 0, 0, 0, 0, [])), (108, .iadd, 1, (0, 0, 0, 0, 0, [])), (109, .istore 5, 2, (5, 0, 0, 0, 0, []))]),
  (126, [(111, .iload_n 2, 1, (2, 0, 0, 0, 0, [])), (112, .iconst 5, 1, (0, 0, 0, 5, 0, [])), (113, .imul, 1, (0, 0, 0, 0, 0, [])), (114, .iload 4, 2, (4, 0, 0, 0, 0, [])), (116, .iadd, 1, (0, 0, 0, 0, 0, [])), (117, .istore 6, 2, (6, 0, 0, 0, 0, [])), (119, .aload_n 0, 1, (0, 0, 0, 0, 0, [])), (120, .getfield 22, 3, (6, 4, 2, 0, 0, [])), (123, .iload 6, 2, (6, 0, 0, 0, 0, [])), (125, .aload_n 0, 1, (0, 0, 0, 0, 0, []))]),
  (148, [(126, .getfield 22, 3, (6, 4, 2, 0, 0, [])), (129, .iload 6, 2, (6, 0, 0, 0, 0, [])), (131, .iaload, 1, (0, 0, 0, 0, 0, [])), (132, .iload 5, 2, (5, 0, 0, 0, 0, [])), (134, .invokestatic 77, 3, (997, 2, 1, 0, 0, [])), (137, .iastore, 1, (0, 0, 0, 0, 0, [])), (138, .iinc 4 1, 3, (4, 0, 0, 1, 0, [])), (141, .goto (-51), 3, (90, 0, 0, 0, 0, [])), (144, .iinc 2 1, 3, (2, 0, 0, 1, 0, [])), (147, .goto (-76), 3, (71, 0, 0, 0, 0, []))]),
  (161, [(150, .iinc 1 1, 3, (1, 0, 0, 1, 0, [])), (153, .goto (-89), 3, (64, 0, 0, 0, 0, [])), (156, .aload_n 0, 1, (0, 0, 0, 0, 0, [])), (157, .invokevirtual 83, 3, (54, 1, 0, 0, 0, [])), (160, .return_, 1, (0, 0, 0, 0, 0, []))])]
def zt_X6_findNear : List (Nat × List zv_E) := [
  (9, [(0, .iconst 0, 1, (0, 0, 0, 0, 0, [])), (1, .istore_n 1, 1, (1, 0, 0, 0, 0, [])), (2, .iload_n 1, 1, (1, 0, 0, 0, 0, [])), (3, .iconst 5, 1, (0, 0, 0, 5, 0, [])), (4, .if_icmp .ge 76, 3, (80, 0, 0, 0, 0, [])), (7, .aload_n 0, 1, (0, 0, 0, 0, 0, [])), (8, .getfield 18, 3, (6, 2, 2, 0, 0, []))]),
  (18, [(11, .iload_n 1, 1, (1, 0, 0, 0, 0, [])), (12, .iconst 0, 1, (0, 0, 0, 0, 0, [])), (13, .iastore, 1, (0, 0, 0, 0, 0, [])), (14, .iconst 0, 1, (0, 0, 0, 0, 0, [])), (15, .istore_n 2, 1, (2, 0, 0, 0, 0, [])), (16, .iload_n 2, 1, (2, 0, 0, 0, 0, [])), (17, .aload_n 0, 1, (0, 0, 0, 0, 0, []))]),
  (33, [(18, .getfield 37, 3, (6, 0, 2, 0, 0, [])), (21, .getfield 86, 3, (3, 1, 0, 0, 0, [])), (24, .if_icmp .ge 50, 3, (74, 0, 0, 0, 0, [])), (27, .iload_n 2, 1, (2, 0, 0, 0, 0, [])), (28, .iconst 4, 1, (0, 0, 0, 4, 0, [])), (29, .if_icmp .ge 45, 3, (74, 0, 0, 0, 0, [])), (32, .aload_n 0, 1, (0, 0, 0, 0, 0, []))]),
  (42, [(33, .getfield 18, 3, (6, 2, 2, 0, 0, [])), (36, .iload_n 1, 1, (1, 0, 0, 0, 0, [])), (37, .dup2, 1, (0, 0, 0, 0, 0, [])), (38, .iaload, 1, (0, 0, 0, 0, 0, [])), (39, .aload_n 0, 1, (0, 0, 0, 0, 0, [])), (40, .iload_n 1, 1, (1, 0, 0, 0, 0, [])), (41, .aload_n 0, 1, (0, 0, 0, 0, 0, []))]),
  (57, [(42, .getfield 37, 3, (6, 0, 2, 0, 0, [])), (45, .getfield 91, 3, (3, 4, 2, 0, 0, [])), (48, .iload_n 2, 1, (2, 0, 0, 0, 0, [])), (49, .iaload, 1, (0, 0, 0, 0, 0, [])), (50, .invokevirtual 94, 3, (55, 3, 1, 0, 0, [])), (53, .sipush 1000, 3, (0, 0, 0, 1000, 0, [])), (56, .if_icmp .ge 9, 3, (65, 0, 0, 0, 0, []))]),
  (68, [(59, .iconst 1, 1, (0, 0, 0, 1, 0, [])), (60, .iload_n 2, 1, (2, 0, 0, 0, 0, [])), (61, .ishl, 1, (0, 0, 0, 0, 0, [])), (62, .goto 4, 3, (66, 0, 0, 0, 0, [])), (65, .iconst 0, 1, (0, 0, 0, 0, 0, [])), (66, .ior, 1, (0, 0, 0, 0, 0, [])), (67, .iastore, 1, (0, 0, 0, 0, 0, []))]),
  (81, [(68, .iinc 2 1, 3, (2, 0, 0, 1, 0, [])), (71, .goto (-55), 3, (16, 0, 0, 0, 0, [])), (74, .iinc 1 1, 3, (1, 0, 0, 1, 0, [])), (77, .goto (-75), 3, (2, 0, 0, 0, 0, [])), (80, .return_, 1, (0, 0, 0, 0, 0, []))])]
def zt_X6_distance : List (Nat × List zv_E) := [
  (6, [(0, .iload_n 1, 1, (1, 0, 0, 0, 0, [])), (1, .iconst 5, 1, (0, 0, 0, 5, 0, [])), (2, .imul, 1, (0, 0, 0, 0, 0, [])), (3, .iload_n 2, 1, (2, 0, 0, 0, 0, [])), (4, .iadd, 1, (0, 0, 0, 0, 0, [])), (5, .istore_n 3, 1, (3, 0, 0, 0, 0, []))]),
  (17, [(6, .iload_n 3, 1, (3, 0, 0, 0, 0, [])), (7, .ifCond .lt 18, 3, (25, 0, 0, 0, 0, [])), (10, .iload_n 3, 1, (3, 0, 0, 0, 0, [])), (11, .bipush 25, 2, (0, 0, 0, 25, 0, [])), (13, .if_icmp .ge 12, 3, (25, 0, 0, 0, 0, [])), (16, .aload_n 0, 1, (0, 0, 0, 0, 0, []))]),
  (29, [(17, .getfield 22, 3, (6, 4, 2, 0, 0, [])), (20, .iload_n 3, 1, (3, 0, 0, 0, 0, [])), (21, .iaload, 1, (0, 0, 0, 0, 0, [])), (22, .goto 6, 3, (28, 0, 0, 0, 0, [])), (25, .sipush 1000, 3, (0, 0, 0, 1000, 0, [])), (28, .ireturn, 1, (0, 0, 0, 0, 0, []))])]
def zt_X6_stepOne : List (Nat × List zv_E) := [
  (12, [(0, .aload_n 0, 1, (0, 0, 0, 0, 0, [])), (1, .getfield 37, 3, (6, 0, 2, 0, 0, [])), (4, .iload_n 1, 1, (1, 0, 0, 0, 0, [])), (5, .invokevirtual 97, 3, (22, 2, 1, 0, 0, [])), (8, .ifCond .ne 5, 3, (13, 0, 0, 0, 0, [])), (11, .iconst 0, 1, (0, 0, 0, 0, 0, []))]),
  (22, [(12, .ireturn, 1, (0, 0, 0, 0, 0, [])), (13, .aload_n 0, 1, (0, 0, 0, 0, 0, [])), (14, .getfield 12, 3, (6, 1, 2, 0, 0, [])), (17, .getfield 101, 3, (7, 2, 2, 0, 0, [])), (20, .iload_n 1, 1, (1, 0, 0, 0, 0, [])), (21, .iaload, 1, (0, 0, 0, 0, 0, []))]),
  (32, [(22, .istore_n 2, 1, (2, 0, 0, 0, 0, [])), (23, .aload_n 0, 1, (0, 0, 0, 0, 0, [])), (24, .getfield 12, 3, (6, 1, 2, 0, 0, [])), (27, .getfield 101, 3, (7, 2, 2, 0, 0, [])), (30, .iload_n 1, 1, (1, 0, 0, 0, 0, [])), (31, .aload_n 0, 1, (0, 0, 0, 0, 0, []))]),
  (42, [(32, .iload_n 1, 1, (1, 0, 0, 0, 0, [])), (33, .invokevirtual 104, 3, (58, 2, 1, 0, 0, [])), (36, .iastore, 1, (0, 0, 0, 0, 0, [])), (37, .aload_n 0, 1, (0, 0, 0, 0, 0, [])), (38, .getfield 12, 3, (6, 1, 2, 0, 0, [])), (41, .getfield 101, 3, (7, 2, 2, 0, 0, []))]),
  (52, [(44, .iload_n 1, 1, (1, 0, 0, 0, 0, [])), (45, .iaload, 1, (0, 0, 0, 0, 0, [])), (46, .iload_n 2, 1, (2, 0, 0, 0, 0, [])), (47, .if_icmp .eq 7, 3, (54, 0, 0, 0, 0, [])), (50, .iconst 1, 1, (0, 0, 0, 1, 0, [])), (51, .goto 4, 3, (55, 0, 0, 0, 0, []))]),
  (56, [(54, .iconst 0, 1, (0, 0, 0, 0, 0, [])), (55, .ireturn, 1, (0, 0, 0, 0, 0, []))])]
def zt_X6_stepAll : List (Nat × List zv_E) := [
  (10, [(0, .iconst 0, 1, (0, 0, 0, 0, 0, [])), (1, .istore_n 1, 1, (1, 0, 0, 0, 0, [])), (2, .iconst 0, 1, (0, 0, 0, 0, 0, [])), (3, .istore_n 2, 1, (2, 0, 0, 0, 0, [])), (4, .iload_n 2, 1, (2, 0, 0, 0, 0, [])), (5, .aload_n 0, 1, (0, 0, 0, 0, 0, [])), (6, .getfield 37, 3, (6, 0, 2, 0, 0, [])), (9, .getfield 108, 3, (3, 0, 0, 0, 0, []))]),
  (26, [(12, .if_icmp .ge 51, 3, (63, 0, 0, 0, 0, [])), (15, .iload_n 2, 1, (2, 0, 0, 0, 0, [])), (16, .iconst 5, 1, (0, 0, 0, 5, 0, [])), (17, .if_icmp .ge 46, 3, (63, 0, 0, 0, 0, [])), (20, .aload_n 0, 1, (0, 0, 0, 0, 0, [])), (21, .getfield 34, 3, (6, 8, 2, 0, 0, [])), (24, .iload_n 2, 1, (2, 0, 0, 0, 0, [])), (25, .aload_n 0, 1, (0, 0, 0, 0, 0, []))]),
  (38, [(26, .iload_n 2, 1, (2, 0, 0, 0, 0, [])), (27, .invokevirtual 104, 3, (58, 2, 1, 0, 0, [])), (30, .iastore, 1, (0, 0, 0, 0, 0, [])), (31, .iload_n 1, 1, (1, 0, 0, 0, 0, [])), (32, .aload_n 0, 1, (0, 0, 0, 0, 0, [])), (33, .getfield 34, 3, (6, 8, 2, 0, 0, [])), (36, .iload_n 2, 1, (2, 0, 0, 0, 0, [])), (37, .iaload, 1, (0, 0, 0, 0, 0, []))]),
  (52, [(38, .aload_n 0, 1, (0, 0, 0, 0, 0, [])), (39, .getfield 12, 3, (6, 1, 2, 0, 0, [])), (42, .getfield 101, 3, (7, 2, 2, 0, 0, [])), (45, .iload_n 2, 1, (2, 0, 0, 0, 0, [])), (46, .iaload, 1, (0, 0, 0, 0, 0, [])), (47, .if_icmp .eq 7, 3, (54, 0, 0, 0, 0, [])), (50, .iconst 1, 1, (0, 0, 0, 1, 0, [])), (51, .goto 4, 3, (55, 0, 0, 0, 0, []))]),
  (68, [(54, .iconst 0, 1, (0, 0, 0, 0, 0, [])), (55, .iadd, 1, (0, 0, 0, 0, 0, [])), (56, .istore_n 1, 1, (1, 0, 0, 0, 0, [])), (57, .iinc 2 1, 3, (2, 0, 0, 1, 0, [])), (60, .goto (-56), 3, (4, 0, 0, 0, 0, [])), (63, .aload_n 0, 1, (0, 0, 0, 0, 0, [])), (64, .getfield 34, 3, (6, 8, 2, 0, 0, [])), (67, .iconst 0, 1, (0, 0, 0, 0, 0, []))]),
  (84, [(68, .aload_n 0, 1, (0, 0, 0, 0, 0, [])), (69, .getfield 12, 3, (6, 1, 2, 0, 0, [])), (72, .getfield 101, 3, (7, 2, 2, 0, 0, [])), (75, .iconst 0, 1, (0, 0, 0, 0, 0, [])), (76, .aload_n 0, 1, (0, 0, 0, 0, 0, [])), (77, .getfield 37, 3, (6, 0, 2, 0, 0, [])), (80, .getfield 108, 3, (3, 0, 0, 0, 0, [])), (83, .iconst 5, 1, (0, 0, 0, 5, 0, []))]),
  (92, [(84, .invokestatic 77, 3, (997, 2, 1, 0, 0, [])), (87, .invokestatic 55, 3, (999, 5, 0, 0, 0, [])), (90, .iload_n 1, 1, (1, 0, 0, 0, 0, [])), (91, .ireturn, 1, (0, 0, 0, 0, 0, []))])]
def zt_X6_decide : List (Nat × List zv_E) := [
  (10, [(0, .aload_n 0, 1, (0, 0, 0, 0, 0, [])), (1, .iload_n 1, 1, (1, 0, 0, 0, 0, [])), (2, .invokevirtual 111, 3, (59, 2, 1, 0, 0, [])), (5, .istore_n 2, 1, (2, 0, 0, 0, 0, [])), (6, .aload_n 0, 1, (0, 0, 0, 0, 0, [])), (7, .iload_n 1, 1, (1, 0, 0, 0, 0, [])), (8, .iload_n 2, 1, (2, 0, 0, 0, 0, [])), (9, .invokevirtual 114, 3, (61, 3, 1, 0, 0, []))]),
  (24, [(12, .istore_n 3, 1, (3, 0, 0, 0, 0, [])), (13, .iload_n 3, 1, (3, 0, 0, 0, 0, [])), (14, .ifCond .lt 8, 3, (22, 0, 0, 0, 0, [])), (17, .iload_n 3, 1, (3, 0, 0, 0, 0, [])), (18, .iconst 4, 1, (0, 0, 0, 4, 0, [])), (19, .if_icmp .lt 5, 3, (24, 0, 0, 0, 0, [])), (22, .iconst 0, 1, (0, 0, 0, 0, 0, [])), (23, .ireturn, 1, (0, 0, 0, 0, 0, []))]),
  (37, [(24, .aload_n 0, 1, (0, 0, 0, 0, 0, [])), (25, .getfield 31, 3, (6, 7, 2, 0, 0, [])), (28, .iload_n 3, 1, (3, 0, 0, 0, 0, [])), (29, .iaload, 1, (0, 0, 0, 0, 0, [])), (30, .istore 4, 2, (4, 0, 0, 0, 0, [])), (32, .aload_n 0, 1, (0, 0, 0, 0, 0, [])), (33, .getfield 12, 3, (6, 1, 2, 0, 0, [])), (36, .getfield 117, 3, (7, 4, 0, 0, 0, []))]),
  (49, [(39, .iload_n 1, 1, (1, 0, 0, 0, 0, [])), (40, .ishr, 1, (0, 0, 0, 0, 0, [])), (41, .iconst 1, 1, (0, 0, 0, 1, 0, [])), (42, .iand, 1, (0, 0, 0, 0, 0, [])), (43, .iconst 1, 1, (0, 0, 0, 1, 0, [])), (44, .if_icmp .ne 47, 3, (91, 0, 0, 0, 0, [])), (47, .aload_n 0, 1, (0, 0, 0, 0, 0, [])), (48, .iload_n 1, 1, (1, 0, 0, 0, 0, []))]),
  (57, [(49, .iload_n 2, 1, (2, 0, 0, 0, 0, [])), (50, .iconst 1, 1, (0, 0, 0, 1, 0, [])), (51, .iload_n 3, 1, (3, 0, 0, 0, 0, [])), (52, .ishl, 1, (0, 0, 0, 0, 0, [])), (53, .iconst (-1), 1, (0, 0, 0, (-1), 0, [])), (54, .ixor, 1, (0, 0, 0, 0, 0, [])), (55, .iand, 1, (0, 0, 0, 0, 0, [])), (56, .invokevirtual 114, 3, (61, 3, 1, 0, 0, []))]),
  (75, [(59, .istore 5, 2, (5, 0, 0, 0, 0, [])), (61, .iload 4, 2, (4, 0, 0, 0, 0, [])), (63, .iload 5, 2, (5, 0, 0, 0, 0, [])), (65, .ifCond .lt 22, 3, (87, 0, 0, 0, 0, [])), (68, .iload 5, 2, (5, 0, 0, 0, 0, [])), (70, .iconst 4, 1, (0, 0, 0, 4, 0, [])), (71, .if_icmp .ge 16, 3, (87, 0, 0, 0, 0, [])), (74, .aload_n 0, 1, (0, 0, 0, 0, 0, []))]),
  (89, [(75, .getfield 31, 3, (6, 7, 2, 0, 0, [])), (78, .iload 5, 2, (5, 0, 0, 0, 0, [])), (80, .iaload, 1, (0, 0, 0, 0, 0, [])), (81, .bipush 11, 2, (0, 0, 0, 11, 0, [])), (83, .ishl, 1, (0, 0, 0, 0, 0, [])), (84, .goto 4, 3, (88, 0, 0, 0, 0, [])), (87, .iconst 0, 1, (0, 0, 0, 0, 0, [])), (88, .ior, 1, (0, 0, 0, 0, 0, []))]),
  (94, [(89, .istore 4, 2, (4, 0, 0, 0, 0, [])), (91, .iload 4, 2, (4, 0, 0, 0, 0, [])), (93, .ireturn, 1, (0, 0, 0, 0, 0, []))])]
def zt_X6_listen : List (Nat × List zv_E) := [
  (19, [(0, .iload_n 1, 1, (1, 0, 0, 0, 0, [])), (1, .ifCond .lt 8, 3, (9, 0, 0, 0, 0, [])), (4, .iload_n 1, 1, (1, 0, 0, 0, 0, [])), (5, .iconst 5, 1, (0, 0, 0, 5, 0, [])), (6, .if_icmp .lt 5, 3, (11, 0, 0, 0, 0, [])), (9, .iconst 0, 1, (0, 0, 0, 0, 0, [])), (10, .ireturn, 1, (0, 0, 0, 0, 0, [])), (11, .aload_n 0, 1, (0, 0, 0, 0, 0, [])), (12, .getfield 37, 3, (6, 0, 2, 0, 0, [])), (15, .getfield 120, 3, (3, 7, 2, 0, 0, [])), (18, .iload_n 1, 1, (1, 0, 0, 0, 0, []))]),
  (34, [(19, .iaload, 1, (0, 0, 0, 0, 0, [])), (20, .aload_n 0, 1, (0, 0, 0, 0, 0, [])), (21, .getfield 12, 3, (6, 1, 2, 0, 0, [])), (24, .getfield 123, 3, (7, 3, 0, 0, 0, [])), (27, .iand, 1, (0, 0, 0, 0, 0, [])), (28, .istore_n 2, 1, (2, 0, 0, 0, 0, [])), (29, .iconst 0, 1, (0, 0, 0, 0, 0, [])), (30, .istore_n 3, 1, (3, 0, 0, 0, 0, [])), (31, .iload_n 3, 1, (3, 0, 0, 0, 0, [])), (32, .iconst 4, 1, (0, 0, 0, 4, 0, [])), (33, .if_icmp .ge 34, 3, (67, 0, 0, 0, 0, []))]),
  (51, [(36, .aload_n 0, 1, (0, 0, 0, 0, 0, [])), (37, .getfield 31, 3, (6, 7, 2, 0, 0, [])), (40, .iload_n 3, 1, (3, 0, 0, 0, 0, [])), (41, .iload_n 2, 1, (2, 0, 0, 0, 0, [])), (42, .iload_n 3, 1, (3, 0, 0, 0, 0, [])), (43, .ishr, 1, (0, 0, 0, 0, 0, [])), (44, .iconst 1, 1, (0, 0, 0, 1, 0, [])), (45, .iand, 1, (0, 0, 0, 0, 0, [])), (46, .iconst 1, 1, (0, 0, 0, 1, 0, [])), (47, .if_icmp .ne 12, 3, (59, 0, 0, 0, 0, [])), (50, .iload_n 3, 1, (3, 0, 0, 0, 0, []))]),
  (70, [(51, .iload_n 1, 1, (1, 0, 0, 0, 0, [])), (52, .iconst 0, 1, (0, 0, 0, 0, 0, [])), (53, .invokestatic 126, 3, (117, 3, 1, 0, 0, [])), (56, .goto 4, 3, (60, 0, 0, 0, 0, [])), (59, .iconst 0, 1, (0, 0, 0, 0, 0, [])), (60, .iastore, 1, (0, 0, 0, 0, 0, [])), (61, .iinc 3 1, 3, (3, 0, 0, 1, 0, [])), (64, .goto (-33), 3, (31, 0, 0, 0, 0, [])), (67, .iload_n 2, 1, (2, 0, 0, 0, 0, [])), (68, .istore_n 3, 1, (3, 0, 0, 0, 0, [])), (69, .iconst 0, 1, (0, 0, 0, 0, 0, []))]),
  (92, [(70, .istore 4, 2, (4, 0, 0, 0, 0, [])), (72, .iload 4, 2, (4, 0, 0, 0, 0, [])), (74, .aload_n 0, 1, (0, 0, 0, 0, 0, [])), (75, .getfield 37, 3, (6, 0, 2, 0, 0, [])), (78, .getfield 108, 3, (3, 0, 0, 0, 0, [])), (81, .if_icmp .ge 96, 3, (177, 0, 0, 0, 0, [])), (84, .iload 4, 2, (4, 0, 0, 0, 0, [])), (86, .iconst 5, 1, (0, 0, 0, 5, 0, [])), (87, .if_icmp .ge 90, 3, (177, 0, 0, 0, 0, [])), (90, .aload_n 0, 1, (0, 0, 0, 0, 0, [])), (91, .getfield 37, 3, (6, 0, 2, 0, 0, []))]),
  (117, [(94, .iload 4, 2, (4, 0, 0, 0, 0, [])), (96, .iload_n 1, 1, (1, 0, 0, 0, 0, [])), (97, .invokevirtual 130, 3, (25, 3, 1, 0, 0, [])), (100, .istore 5, 2, (5, 0, 0, 0, 0, [])), (102, .iload 5, 2, (5, 0, 0, 0, 0, [])), (104, .ifCond .eq 67, 3, (171, 0, 0, 0, 0, [])), (107, .aload_n 0, 1, (0, 0, 0, 0, 0, [])), (108, .getfield 12, 3, (6, 1, 2, 0, 0, [])), (111, .getfield 101, 3, (7, 2, 2, 0, 0, [])), (114, .iload 4, 2, (4, 0, 0, 0, 0, [])), (116, .iaload, 1, (0, 0, 0, 0, 0, []))]),
  (137, [(117, .ifCond .eq 54, 3, (171, 0, 0, 0, 0, [])), (120, .iload_n 3, 1, (3, 0, 0, 0, 0, [])), (121, .aload_n 0, 1, (0, 0, 0, 0, 0, [])), (122, .iload_n 1, 1, (1, 0, 0, 0, 0, [])), (123, .iload 4, 2, (4, 0, 0, 0, 0, [])), (125, .iload 5, 2, (5, 0, 0, 0, 0, [])), (127, .aload_n 0, 1, (0, 0, 0, 0, 0, [])), (128, .getfield 12, 3, (6, 1, 2, 0, 0, [])), (131, .getfield 101, 3, (7, 2, 2, 0, 0, [])), (134, .iload 4, 2, (4, 0, 0, 0, 0, [])), (136, .iaload, 1, (0, 0, 0, 0, 0, []))]),
  (154, [(137, .sipush 2047, 3, (0, 0, 0, 2047, 0, [])), (140, .iand, 1, (0, 0, 0, 0, 0, [])), (141, .invokevirtual 133, 3, (60, 5, 1, 0, 0, [])), (144, .ior, 1, (0, 0, 0, 0, 0, [])), (145, .istore_n 3, 1, (3, 0, 0, 0, 0, [])), (146, .iload_n 3, 1, (3, 0, 0, 0, 0, [])), (147, .aload_n 0, 1, (0, 0, 0, 0, 0, [])), (148, .iload_n 1, 1, (1, 0, 0, 0, 0, [])), (149, .iload 4, 2, (4, 0, 0, 0, 0, [])), (151, .iload 5, 2, (5, 0, 0, 0, 0, [])), (153, .aload_n 0, 1, (0, 0, 0, 0, 0, []))]),
  (175, [(154, .getfield 12, 3, (6, 1, 2, 0, 0, [])), (157, .getfield 101, 3, (7, 2, 2, 0, 0, [])), (160, .iload 4, 2, (4, 0, 0, 0, 0, [])), (162, .iaload, 1, (0, 0, 0, 0, 0, [])), (163, .bipush 11, 2, (0, 0, 0, 11, 0, [])), (165, .ishr, 1, (0, 0, 0, 0, 0, [])), (166, .invokevirtual 133, 3, (60, 5, 1, 0, 0, [])), (169, .ior, 1, (0, 0, 0, 0, 0, [])), (170, .istore_n 3, 1, (3, 0, 0, 0, 0, [])), (171, .iinc 4 1, 3, (4, 0, 0, 1, 0, [])), (174, .goto (-102), 3, (72, 0, 0, 0, 0, []))]),
  (179, [(177, .iload_n 3, 1, (3, 0, 0, 0, 0, [])), (178, .ireturn, 1, (0, 0, 0, 0, 0, []))])]
def zt_X6_take : List (Nat × List zv_E) := [
  (14, [(0, .iload 4, 2, (4, 0, 0, 0, 0, [])), (2, .bipush 8, 2, (0, 0, 0, 8, 0, [])), (4, .ishr, 1, (0, 0, 0, 0, 0, [])), (5, .iconst 3, 1, (0, 0, 0, 3, 0, [])), (6, .iand, 1, (0, 0, 0, 0, 0, [])), (7, .istore 5, 2, (5, 0, 0, 0, 0, [])), (9, .iload 4, 2, (4, 0, 0, 0, 0, [])), (11, .bipush 31, 2, (0, 0, 0, 31, 0, [])), (13, .iand, 1, (0, 0, 0, 0, 0, []))]),
  (27, [(14, .iconst 1, 1, (0, 0, 0, 1, 0, [])), (15, .iload_n 2, 1, (2, 0, 0, 0, 0, [])), (16, .ishl, 1, (0, 0, 0, 0, 0, [])), (17, .ior, 1, (0, 0, 0, 0, 0, [])), (18, .istore 6, 2, (6, 0, 0, 0, 0, [])), (20, .iload 4, 2, (4, 0, 0, 0, 0, [])), (22, .ifCond .eq 17, 3, (39, 0, 0, 0, 0, [])), (25, .iload_n 3, 1, (3, 0, 0, 0, 0, [])), (26, .iload 4, 2, (4, 0, 0, 0, 0, []))]),
  (40, [(28, .iconst 5, 1, (0, 0, 0, 5, 0, [])), (29, .ishr, 1, (0, 0, 0, 0, 0, [])), (30, .bipush 7, 2, (0, 0, 0, 7, 0, [])), (32, .iand, 1, (0, 0, 0, 0, 0, [])), (33, .ishr, 1, (0, 0, 0, 0, 0, [])), (34, .iconst 1, 1, (0, 0, 0, 1, 0, [])), (35, .iand, 1, (0, 0, 0, 0, 0, [])), (36, .ifCond .ne 5, 3, (41, 0, 0, 0, 0, [])), (39, .iconst 0, 1, (0, 0, 0, 0, 0, []))]),
  (52, [(40, .ireturn, 1, (0, 0, 0, 0, 0, [])), (41, .iload 6, 2, (6, 0, 0, 0, 0, [])), (43, .iload_n 1, 1, (1, 0, 0, 0, 0, [])), (44, .ishr, 1, (0, 0, 0, 0, 0, [])), (45, .iconst 1, 1, (0, 0, 0, 1, 0, [])), (46, .iand, 1, (0, 0, 0, 0, 0, [])), (47, .iconst 1, 1, (0, 0, 0, 1, 0, [])), (48, .if_icmp .eq 17, 3, (65, 0, 0, 0, 0, [])), (51, .aload_n 0, 1, (0, 0, 0, 0, 0, []))]),
  (66, [(52, .getfield 18, 3, (6, 2, 2, 0, 0, [])), (55, .iload_n 1, 1, (1, 0, 0, 0, 0, [])), (56, .iaload, 1, (0, 0, 0, 0, 0, [])), (57, .iload 5, 2, (5, 0, 0, 0, 0, [])), (59, .ishr, 1, (0, 0, 0, 0, 0, [])), (60, .iconst 1, 1, (0, 0, 0, 1, 0, [])), (61, .iand, 1, (0, 0, 0, 0, 0, [])), (62, .ifCond .ne 5, 3, (67, 0, 0, 0, 0, [])), (65, .iconst 0, 1, (0, 0, 0, 0, 0, []))]),
  (82, [(66, .ireturn, 1, (0, 0, 0, 0, 0, [])), (67, .aload_n 0, 1, (0, 0, 0, 0, 0, [])), (68, .getfield 31, 3, (6, 7, 2, 0, 0, [])), (71, .iload 5, 2, (5, 0, 0, 0, 0, [])), (73, .iaload, 1, (0, 0, 0, 0, 0, [])), (74, .istore 7, 2, (7, 0, 0, 0, 0, [])), (76, .iload 7, 2, (7, 0, 0, 0, 0, [])), (78, .ifCond .eq 19, 3, (97, 0, 0, 0, 0, [])), (81, .iload 6, 2, (6, 0, 0, 0, 0, []))]),
  (102, [(83, .invokestatic 137, 3, (0, 1, 1, 0, 0, [])), (86, .iload 7, 2, (7, 0, 0, 0, 0, [])), (88, .bipush 31, 2, (0, 0, 0, 31, 0, [])), (90, .iand, 1, (0, 0, 0, 0, 0, [])), (91, .invokestatic 137, 3, (0, 1, 1, 0, 0, [])), (94, .if_icmp .ge 18, 3, (112, 0, 0, 0, 0, [])), (97, .aload_n 0, 1, (0, 0, 0, 0, 0, [])), (98, .getfield 31, 3, (6, 7, 2, 0, 0, [])), (101, .iload 5, 2, (5, 0, 0, 0, 0, []))]),
  (117, [(103, .iload 5, 2, (5, 0, 0, 0, 0, [])), (105, .iload_n 2, 1, (2, 0, 0, 0, 0, [])), (106, .iload 6, 2, (6, 0, 0, 0, 0, [])), (108, .invokestatic 126, 3, (117, 3, 1, 0, 0, [])), (111, .iastore, 1, (0, 0, 0, 0, 0, [])), (112, .iconst 1, 1, (0, 0, 0, 1, 0, [])), (113, .iload 5, 2, (5, 0, 0, 0, 0, [])), (115, .ishl, 1, (0, 0, 0, 0, 0, [])), (116, .ireturn, 1, (0, 0, 0, 0, 0, []))])]
def zt_X6_pick : List (Nat × List zv_E) := [
  (8, [(0, .iload_n 1, 1, (1, 0, 0, 0, 0, [])), (1, .bipush 16, 2, (0, 0, 0, 16, 0, [])), (3, .imul, 1, (0, 0, 0, 0, 0, [])), (4, .iload_n 2, 1, (2, 0, 0, 0, 0, [])), (5, .iadd, 1, (0, 0, 0, 0, 0, [])), (6, .istore_n 3, 1, (3, 0, 0, 0, 0, [])), (7, .iload_n 1, 1, (1, 0, 0, 0, 0, []))]),
  (21, [(8, .ifCond .lt 21, 3, (29, 0, 0, 0, 0, [])), (11, .iload_n 1, 1, (1, 0, 0, 0, 0, [])), (12, .iconst 5, 1, (0, 0, 0, 5, 0, [])), (13, .if_icmp .ge 16, 3, (29, 0, 0, 0, 0, [])), (16, .iload_n 3, 1, (3, 0, 0, 0, 0, [])), (17, .ifCond .lt 12, 3, (29, 0, 0, 0, 0, [])), (20, .iload_n 3, 1, (3, 0, 0, 0, 0, []))]),
  (32, [(21, .aload_n 0, 1, (0, 0, 0, 0, 0, [])), (22, .getfield 25, 3, (6, 5, 2, 0, 0, [])), (25, .arraylength, 1, (0, 0, 0, 0, 0, [])), (26, .if_icmp .lt 5, 3, (31, 0, 0, 0, 0, [])), (29, .iconst (-1), 1, (0, 0, 0, (-1), 0, [])), (30, .ireturn, 1, (0, 0, 0, 0, 0, [])), (31, .aload_n 0, 1, (0, 0, 0, 0, 0, []))]),
  (44, [(32, .getfield 25, 3, (6, 5, 2, 0, 0, [])), (35, .iload_n 3, 1, (3, 0, 0, 0, 0, [])), (36, .iaload, 1, (0, 0, 0, 0, 0, [])), (37, .bipush (-2), 2, (0, 0, 0, (-2), 0, [])), (39, .if_icmp .ne 15, 3, (54, 0, 0, 0, 0, [])), (42, .aload_n 0, 1, (0, 0, 0, 0, 0, [])), (43, .getfield 25, 3, (6, 5, 2, 0, 0, []))]),
  (55, [(46, .iload_n 3, 1, (3, 0, 0, 0, 0, [])), (47, .aload_n 0, 1, (0, 0, 0, 0, 0, [])), (48, .iload_n 1, 1, (1, 0, 0, 0, 0, [])), (49, .iload_n 2, 1, (2, 0, 0, 0, 0, [])), (50, .invokevirtual 142, 3, (62, 3, 1, 0, 0, [])), (53, .iastore, 1, (0, 0, 0, 0, 0, [])), (54, .aload_n 0, 1, (0, 0, 0, 0, 0, []))]),
  (61, [(55, .getfield 25, 3, (6, 5, 2, 0, 0, [])), (58, .iload_n 3, 1, (3, 0, 0, 0, 0, [])), (59, .iaload, 1, (0, 0, 0, 0, 0, [])), (60, .ireturn, 1, (0, 0, 0, 0, 0, []))])]
def zt_X6_compare : List (Nat × List zv_E) := [
  (23, [(0, .iload_n 2, 1, (2, 0, 0, 0, 0, [])), (1, .aload_n 0, 1, (0, 0, 0, 0, 0, [])), (2, .getfield 37, 3, (6, 0, 2, 0, 0, [])), (5, .getfield 145, 3, (3, 6, 2, 0, 0, [])), (8, .invokestatic 148, 3, (63, 2, 1, 0, 0, [])), (11, .istore_n 3, 1, (3, 0, 0, 0, 0, [])), (12, .aload_n 0, 1, (0, 0, 0, 0, 0, [])), (13, .getfield 12, 3, (6, 1, 2, 0, 0, [])), (16, .getfield 67, 3, (7, 5, 0, 0, 0, [])), (19, .ifCond .ne 53, 3, (72, 0, 0, 0, 0, [])), (22, .iconst 0, 1, (0, 0, 0, 0, 0, []))]),
  (42, [(23, .istore 4, 2, (4, 0, 0, 0, 0, [])), (25, .iconst 0, 1, (0, 0, 0, 0, 0, [])), (26, .istore 5, 2, (5, 0, 0, 0, 0, [])), (28, .iload 5, 2, (5, 0, 0, 0, 0, [])), (30, .iconst 2, 1, (0, 0, 0, 2, 0, [])), (31, .if_icmp .gt 35, 3, (66, 0, 0, 0, 0, [])), (34, .iload 4, 2, (4, 0, 0, 0, 0, [])), (36, .iload_n 3, 1, (3, 0, 0, 0, 0, [])), (37, .aload_n 0, 1, (0, 0, 0, 0, 0, [])), (38, .getfield 37, 3, (6, 0, 2, 0, 0, [])), (41, .iload 5, 2, (5, 0, 0, 0, 0, []))]),
  (67, [(43, .invokevirtual 152, 3, (26, 2, 1, 0, 0, [])), (46, .iand, 1, (0, 0, 0, 0, 0, [])), (47, .aload_n 0, 1, (0, 0, 0, 0, 0, [])), (48, .getfield 12, 3, (6, 1, 2, 0, 0, [])), (51, .getfield 64, 3, (7, 1, 2, 0, 0, [])), (54, .invokestatic 148, 3, (63, 2, 1, 0, 0, [])), (57, .ior, 1, (0, 0, 0, 0, 0, [])), (58, .istore 4, 2, (4, 0, 0, 0, 0, [])), (60, .iinc 5 1, 3, (5, 0, 0, 1, 0, [])), (63, .goto (-35), 3, (28, 0, 0, 0, 0, [])), (66, .iload 4, 2, (4, 0, 0, 0, 0, []))]),
  (89, [(68, .istore_n 3, 1, (3, 0, 0, 0, 0, [])), (69, .goto 26, 3, (95, 0, 0, 0, 0, [])), (72, .aload_n 0, 1, (0, 0, 0, 0, 0, [])), (73, .getfield 12, 3, (6, 1, 2, 0, 0, [])), (76, .getfield 67, 3, (7, 5, 0, 0, 0, [])), (79, .iconst 1, 1, (0, 0, 0, 1, 0, [])), (80, .if_icmp .ne 15, 3, (95, 0, 0, 0, 0, [])), (83, .iload_n 3, 1, (3, 0, 0, 0, 0, [])), (84, .aload_n 0, 1, (0, 0, 0, 0, 0, [])), (85, .getfield 12, 3, (6, 1, 2, 0, 0, [])), (88, .getfield 64, 3, (7, 1, 2, 0, 0, []))]),
  (109, [(91, .invokestatic 148, 3, (63, 2, 1, 0, 0, [])), (94, .istore_n 3, 1, (3, 0, 0, 0, 0, [])), (95, .iload_n 3, 1, (3, 0, 0, 0, 0, [])), (96, .aload_n 0, 1, (0, 0, 0, 0, 0, [])), (97, .getfield 37, 3, (6, 0, 2, 0, 0, [])), (100, .getfield 120, 3, (3, 7, 2, 0, 0, [])), (103, .iload_n 1, 1, (1, 0, 0, 0, 0, [])), (104, .iaload, 1, (0, 0, 0, 0, 0, [])), (105, .iand, 1, (0, 0, 0, 0, 0, [])), (106, .istore 4, 2, (4, 0, 0, 0, 0, [])), (108, .iconst 0, 1, (0, 0, 0, 0, 0, []))]),
  (127, [(109, .istore 5, 2, (5, 0, 0, 0, 0, [])), (111, .iload 5, 2, (5, 0, 0, 0, 0, [])), (113, .iconst 4, 1, (0, 0, 0, 4, 0, [])), (114, .if_icmp .ge 31, 3, (145, 0, 0, 0, 0, [])), (117, .aload_n 0, 1, (0, 0, 0, 0, 0, [])), (118, .getfield 28, 3, (6, 6, 2, 0, 0, [])), (121, .iload 5, 2, (5, 0, 0, 0, 0, [])), (123, .aload_n 0, 1, (0, 0, 0, 0, 0, [])), (124, .iload_n 1, 1, (1, 0, 0, 0, 0, [])), (125, .aload_n 0, 1, (0, 0, 0, 0, 0, [])), (126, .getfield 37, 3, (6, 0, 2, 0, 0, []))]),
  (153, [(129, .getfield 91, 3, (3, 4, 2, 0, 0, [])), (132, .iload 5, 2, (5, 0, 0, 0, 0, [])), (134, .iaload, 1, (0, 0, 0, 0, 0, [])), (135, .invokevirtual 94, 3, (55, 3, 1, 0, 0, [])), (138, .iastore, 1, (0, 0, 0, 0, 0, [])), (139, .iinc 5 1, 3, (5, 0, 0, 1, 0, [])), (142, .goto (-31), 3, (111, 0, 0, 0, 0, [])), (145, .iload 4, 2, (4, 0, 0, 0, 0, [])), (147, .ifCond .eq 8, 3, (155, 0, 0, 0, 0, [])), (150, .iload 4, 2, (4, 0, 0, 0, 0, [])), (152, .goto 4, 3, (156, 0, 0, 0, 0, []))]),
  (174, [(155, .iload_n 3, 1, (3, 0, 0, 0, 0, [])), (156, .aload_n 0, 1, (0, 0, 0, 0, 0, [])), (157, .getfield 28, 3, (6, 6, 2, 0, 0, [])), (160, .invokestatic 148, 3, (63, 2, 1, 0, 0, [])), (163, .istore_n 3, 1, (3, 0, 0, 0, 0, [])), (164, .iconst 0, 1, (0, 0, 0, 0, 0, [])), (165, .istore 5, 2, (5, 0, 0, 0, 0, [])), (167, .iload 5, 2, (5, 0, 0, 0, 0, [])), (169, .iconst 4, 1, (0, 0, 0, 4, 0, [])), (170, .if_icmp .ge 22, 3, (192, 0, 0, 0, 0, [])), (173, .iload_n 3, 1, (3, 0, 0, 0, 0, []))]),
  (193, [(174, .iload 5, 2, (5, 0, 0, 0, 0, [])), (176, .ishr, 1, (0, 0, 0, 0, 0, [])), (177, .iconst 1, 1, (0, 0, 0, 1, 0, [])), (178, .iand, 1, (0, 0, 0, 0, 0, [])), (179, .iconst 1, 1, (0, 0, 0, 1, 0, [])), (180, .if_icmp .ne 6, 3, (186, 0, 0, 0, 0, [])), (183, .iload 5, 2, (5, 0, 0, 0, 0, [])), (185, .ireturn, 1, (0, 0, 0, 0, 0, [])), (186, .iinc 5 1, 3, (5, 0, 0, 1, 0, [])), (189, .goto (-22), 3, (167, 0, 0, 0, 0, [])), (192, .iconst (-1), 1, (0, 0, 0, (-1), 0, []))]),
  (194, [(193, .ireturn, 1, (0, 0, 0, 0, 0, []))])]
def zt_X6_smallest : List (Nat × List zv_E) := [
  (10, [(0, .iconst 0, 1, (0, 0, 0, 0, 0, [])), (1, .istore_n 2, 1, (2, 0, 0, 0, 0, [])), (2, .iconst 0, 1, (0, 0, 0, 0, 0, [])), (3, .istore_n 3, 1, (3, 0, 0, 0, 0, [])), (4, .iconst 0, 1, (0, 0, 0, 0, 0, [])), (5, .istore 4, 2, (4, 0, 0, 0, 0, [])), (7, .iload 4, 2, (4, 0, 0, 0, 0, [])), (9, .iconst 4, 1, (0, 0, 0, 4, 0, []))]),
  (24, [(10, .if_icmp .ge 64, 3, (74, 0, 0, 0, 0, [])), (13, .iload 4, 2, (4, 0, 0, 0, 0, [])), (15, .aload_n 1, 1, (1, 0, 0, 0, 0, [])), (16, .arraylength, 1, (0, 0, 0, 0, 0, [])), (17, .if_icmp .ge 57, 3, (74, 0, 0, 0, 0, [])), (20, .iload_n 0, 1, (0, 0, 0, 0, 0, [])), (21, .iload 4, 2, (4, 0, 0, 0, 0, [])), (23, .ishr, 1, (0, 0, 0, 0, 0, []))]),
  (36, [(24, .iconst 1, 1, (0, 0, 0, 1, 0, [])), (25, .iand, 1, (0, 0, 0, 0, 0, [])), (26, .iconst 1, 1, (0, 0, 0, 1, 0, [])), (27, .if_icmp .ne 41, 3, (68, 0, 0, 0, 0, [])), (30, .iload_n 2, 1, (2, 0, 0, 0, 0, [])), (31, .ifCond .eq 11, 3, (42, 0, 0, 0, 0, [])), (34, .aload_n 1, 1, (1, 0, 0, 0, 0, [])), (35, .iload 4, 2, (4, 0, 0, 0, 0, []))]),
  (48, [(37, .iaload, 1, (0, 0, 0, 0, 0, [])), (38, .iload_n 3, 1, (3, 0, 0, 0, 0, [])), (39, .if_icmp .ge 10, 3, (49, 0, 0, 0, 0, [])), (42, .aload_n 1, 1, (1, 0, 0, 0, 0, [])), (43, .iload 4, 2, (4, 0, 0, 0, 0, [])), (45, .iaload, 1, (0, 0, 0, 0, 0, [])), (46, .istore_n 3, 1, (3, 0, 0, 0, 0, [])), (47, .iconst 0, 1, (0, 0, 0, 0, 0, []))]),
  (59, [(48, .istore_n 2, 1, (2, 0, 0, 0, 0, [])), (49, .iload_n 2, 1, (2, 0, 0, 0, 0, [])), (50, .aload_n 1, 1, (1, 0, 0, 0, 0, [])), (51, .iload 4, 2, (4, 0, 0, 0, 0, [])), (53, .iaload, 1, (0, 0, 0, 0, 0, [])), (54, .iload_n 3, 1, (3, 0, 0, 0, 0, [])), (55, .if_icmp .ne 10, 3, (65, 0, 0, 0, 0, [])), (58, .iconst 1, 1, (0, 0, 0, 1, 0, []))]),
  (72, [(59, .iload 4, 2, (4, 0, 0, 0, 0, [])), (61, .ishl, 1, (0, 0, 0, 0, 0, [])), (62, .goto 4, 3, (66, 0, 0, 0, 0, [])), (65, .iconst 0, 1, (0, 0, 0, 0, 0, [])), (66, .ior, 1, (0, 0, 0, 0, 0, [])), (67, .istore_n 2, 1, (2, 0, 0, 0, 0, [])), (68, .iinc 4 1, 3, (4, 0, 0, 1, 0, [])), (71, .goto (-64), 3, (7, 0, 0, 0, 0, []))]),
  (76, [(74, .iload_n 2, 1, (2, 0, 0, 0, 0, [])), (75, .ireturn, 1, (0, 0, 0, 0, 0, []))])]
def zt_X6_send : List (Nat × List zv_E) := [
  (8, [(0, .iload_n 1, 1, (1, 0, 0, 0, 0, [])), (1, .istore_n 2, 1, (2, 0, 0, 0, 0, [])), (2, .iconst 0, 1, (0, 0, 0, 0, 0, [])), (3, .istore_n 3, 1, (3, 0, 0, 0, 0, [])), (4, .iload_n 3, 1, (3, 0, 0, 0, 0, [])), (5, .bipush 6, 2, (0, 0, 0, 6, 0, [])), (7, .if_icmp .ge 72, 3, (79, 0, 0, 0, 0, []))]),
  (23, [(10, .aload_n 0, 1, (0, 0, 0, 0, 0, [])), (11, .getfield 12, 3, (6, 1, 2, 0, 0, [])), (14, .iload_n 2, 1, (2, 0, 0, 0, 0, [])), (15, .invokevirtual 155, 3, (76, 2, 1, 0, 0, [])), (18, .istore 4, 2, (4, 0, 0, 0, 0, [])), (20, .iload 4, 2, (4, 0, 0, 0, 0, [])), (22, .ifCond .lt 9, 3, (31, 0, 0, 0, 0, []))]),
  (35, [(25, .iload 4, 2, (4, 0, 0, 0, 0, [])), (27, .iconst 4, 1, (0, 0, 0, 4, 0, [])), (28, .if_icmp .lt 5, 3, (33, 0, 0, 0, 0, [])), (31, .iconst (-1), 1, (0, 0, 0, (-1), 0, [])), (32, .ireturn, 1, (0, 0, 0, 0, 0, [])), (33, .aload_n 0, 1, (0, 0, 0, 0, 0, [])), (34, .getfield 37, 3, (6, 0, 2, 0, 0, []))]),
  (49, [(37, .getfield 91, 3, (3, 4, 2, 0, 0, [])), (40, .iload 4, 2, (4, 0, 0, 0, 0, [])), (42, .iaload, 1, (0, 0, 0, 0, 0, [])), (43, .istore 5, 2, (5, 0, 0, 0, 0, [])), (45, .iload 5, 2, (5, 0, 0, 0, 0, [])), (47, .iload_n 2, 1, (2, 0, 0, 0, 0, [])), (48, .if_icmp .ne 11, 3, (59, 0, 0, 0, 0, []))]),
  (61, [(51, .aload_n 0, 1, (0, 0, 0, 0, 0, [])), (52, .iload_n 3, 1, (3, 0, 0, 0, 0, [])), (53, .putfield 158, 3, (6, 3, 0, 0, 0, [])), (56, .iload 4, 2, (4, 0, 0, 0, 0, [])), (58, .ireturn, 1, (0, 0, 0, 0, 0, [])), (59, .aload_n 0, 1, (0, 0, 0, 0, 0, [])), (60, .iload_n 2, 1, (2, 0, 0, 0, 0, []))]),
  (73, [(61, .iload 5, 2, (5, 0, 0, 0, 0, [])), (63, .invokevirtual 161, 3, (65, 3, 1, 0, 0, [])), (66, .istore_n 2, 1, (2, 0, 0, 0, 0, [])), (67, .iload_n 2, 1, (2, 0, 0, 0, 0, [])), (68, .ifCond .ge 5, 3, (73, 0, 0, 0, 0, [])), (71, .iconst (-1), 1, (0, 0, 0, (-1), 0, [])), (72, .ireturn, 1, (0, 0, 0, 0, 0, []))]),
  (81, [(73, .iinc 3 1, 3, (3, 0, 0, 1, 0, [])), (76, .goto (-72), 3, (4, 0, 0, 0, 0, [])), (79, .iconst (-1), 1, (0, 0, 0, (-1), 0, [])), (80, .ireturn, 1, (0, 0, 0, 0, 0, []))])]
def zt_X6_nextHop : List (Nat × List zv_E) := [
  (11, [(0, .iconst (-1), 1, (0, 0, 0, (-1), 0, [])), (1, .istore_n 3, 1, (3, 0, 0, 0, 0, [])), (2, .sipush 1000, 3, (0, 0, 0, 1000, 0, [])), (5, .istore 4, 2, (4, 0, 0, 0, 0, [])), (7, .iconst 0, 1, (0, 0, 0, 0, 0, [])), (8, .istore 5, 2, (5, 0, 0, 0, 0, [])), (10, .iload 5, 2, (5, 0, 0, 0, 0, []))]),
  (27, [(12, .aload_n 0, 1, (0, 0, 0, 0, 0, [])), (13, .getfield 37, 3, (6, 0, 2, 0, 0, [])), (16, .getfield 108, 3, (3, 0, 0, 0, 0, [])), (19, .if_icmp .ge 52, 3, (71, 0, 0, 0, 0, [])), (22, .aload_n 0, 1, (0, 0, 0, 0, 0, [])), (23, .getfield 12, 3, (6, 1, 2, 0, 0, [])), (26, .iload_n 1, 1, (1, 0, 0, 0, 0, []))]),
  (40, [(27, .iload 5, 2, (5, 0, 0, 0, 0, [])), (29, .invokevirtual 164, 3, (71, 3, 1, 0, 0, [])), (32, .istore 6, 2, (6, 0, 0, 0, 0, [])), (34, .iload 6, 2, (6, 0, 0, 0, 0, [])), (36, .aload_n 0, 1, (0, 0, 0, 0, 0, [])), (37, .iload 5, 2, (5, 0, 0, 0, 0, [])), (39, .iload_n 2, 1, (2, 0, 0, 0, 0, []))]),
  (54, [(40, .invokevirtual 94, 3, (55, 3, 1, 0, 0, [])), (43, .iadd, 1, (0, 0, 0, 0, 0, [])), (44, .istore 7, 2, (7, 0, 0, 0, 0, [])), (46, .iload 6, 2, (6, 0, 0, 0, 0, [])), (48, .ifCond .le 17, 3, (65, 0, 0, 0, 0, [])), (51, .iload 7, 2, (7, 0, 0, 0, 0, [])), (53, .iload 4, 2, (4, 0, 0, 0, 0, []))]),
  (69, [(55, .if_icmp .ge 10, 3, (65, 0, 0, 0, 0, [])), (58, .iload 7, 2, (7, 0, 0, 0, 0, [])), (60, .istore 4, 2, (4, 0, 0, 0, 0, [])), (62, .iload 5, 2, (5, 0, 0, 0, 0, [])), (64, .istore_n 3, 1, (3, 0, 0, 0, 0, [])), (65, .iinc 5 1, 3, (5, 0, 0, 1, 0, [])), (68, .goto (-58), 3, (10, 0, 0, 0, 0, []))]),
  (73, [(71, .iload_n 3, 1, (3, 0, 0, 0, 0, [])), (72, .ireturn, 1, (0, 0, 0, 0, 0, []))])]
def zt_X6_restNumber : List (Nat × List zv_E) := [
  (6, [(0, .iconst 0, 1, (0, 0, 0, 0, 0, [])), (1, .istore_n 1, 1, (1, 0, 0, 0, 0, [])), (2, .iconst 0, 1, (0, 0, 0, 0, 0, [])), (3, .istore_n 2, 1, (2, 0, 0, 0, 0, [])), (4, .iload_n 2, 1, (2, 0, 0, 0, 0, [])), (5, .aload_n 0, 1, (0, 0, 0, 0, 0, []))]),
  (20, [(6, .getfield 37, 3, (6, 0, 2, 0, 0, [])), (9, .getfield 108, 3, (3, 0, 0, 0, 0, [])), (12, .if_icmp .ge 35, 3, (47, 0, 0, 0, 0, [])), (15, .aload_n 0, 1, (0, 0, 0, 0, 0, [])), (16, .getfield 12, 3, (6, 1, 2, 0, 0, [])), (19, .iload_n 2, 1, (2, 0, 0, 0, 0, []))]),
  (29, [(20, .invokevirtual 155, 3, (76, 2, 1, 0, 0, [])), (23, .istore_n 3, 1, (3, 0, 0, 0, 0, [])), (24, .iload_n 1, 1, (1, 0, 0, 0, 0, [])), (25, .bipush 10, 2, (0, 0, 0, 10, 0, [])), (27, .imul, 1, (0, 0, 0, 0, 0, [])), (28, .iload_n 3, 1, (3, 0, 0, 0, 0, []))]),
  (40, [(29, .iconst (-1), 1, (0, 0, 0, (-1), 0, [])), (30, .if_icmp .ne 8, 3, (38, 0, 0, 0, 0, [])), (33, .bipush 9, 2, (0, 0, 0, 9, 0, [])), (35, .goto 4, 3, (39, 0, 0, 0, 0, [])), (38, .iload_n 3, 1, (3, 0, 0, 0, 0, [])), (39, .iadd, 1, (0, 0, 0, 0, 0, []))]),
  (49, [(40, .istore_n 1, 1, (1, 0, 0, 0, 0, [])), (41, .iinc 2 1, 3, (2, 0, 0, 1, 0, [])), (44, .goto (-40), 3, (4, 0, 0, 0, 0, [])), (47, .iload_n 1, 1, (1, 0, 0, 0, 0, [])), (48, .ireturn, 1, (0, 0, 0, 0, 0, []))])]
def zt_X7_init : List (Nat × List zv_E) := [
  (10, [(0, .aload_n 0, 1, (0, 0, 0, 0, 0, [])), (1, .invokespecial 3, 3, (998, 1, 0, 0, 0, [])), (4, .aload_n 0, 1, (0, 0, 0, 0, 0, [])), (5, .bipush 25, 2, (0, 0, 0, 25, 0, [])), (7, .newarray .int, 2, (11, 0, 0, 0, 0, [])), (9, .putfield 9, 3, (7, 0, 2, 0, 0, []))]),
  (21, [(12, .aload_n 0, 1, (0, 0, 0, 0, 0, [])), (13, .iconst 4, 1, (0, 0, 0, 4, 0, [])), (14, .newarray .int, 2, (11, 0, 0, 0, 0, [])), (16, .putfield 15, 3, (7, 1, 2, 0, 0, [])), (19, .aload_n 0, 1, (0, 0, 0, 0, 0, [])), (20, .iconst 5, 1, (0, 0, 0, 5, 0, []))]),
  (27, [(21, .newarray .int, 2, (11, 0, 0, 0, 0, [])), (23, .putfield 18, 3, (7, 2, 2, 0, 0, [])), (26, .return_, 1, (0, 0, 0, 0, 0, []))])]
def zt_X7_copyFrom : List (Nat × List zv_E) := [
  (11, [(0, .aload_n 1, 1, (1, 0, 0, 0, 0, [])), (1, .getfield 9, 3, (7, 0, 2, 0, 0, [])), (4, .iconst 0, 1, (0, 0, 0, 0, 0, [])), (5, .aload_n 0, 1, (0, 0, 0, 0, 0, [])), (6, .getfield 9, 3, (7, 0, 2, 0, 0, [])), (9, .iconst 0, 1, (0, 0, 0, 0, 0, [])), (10, .bipush 25, 2, (0, 0, 0, 25, 0, []))]),
  (25, [(12, .invokestatic 21, 3, (999, 5, 0, 0, 0, [])), (15, .aload_n 1, 1, (1, 0, 0, 0, 0, [])), (16, .getfield 15, 3, (7, 1, 2, 0, 0, [])), (19, .iconst 0, 1, (0, 0, 0, 0, 0, [])), (20, .aload_n 0, 1, (0, 0, 0, 0, 0, [])), (21, .getfield 15, 3, (7, 1, 2, 0, 0, [])), (24, .iconst 0, 1, (0, 0, 0, 0, 0, []))]),
  (36, [(25, .iconst 4, 1, (0, 0, 0, 4, 0, [])), (26, .invokestatic 21, 3, (999, 5, 0, 0, 0, [])), (29, .aload_n 1, 1, (1, 0, 0, 0, 0, [])), (30, .getfield 18, 3, (7, 2, 2, 0, 0, [])), (33, .iconst 0, 1, (0, 0, 0, 0, 0, [])), (34, .aload_n 0, 1, (0, 0, 0, 0, 0, [])), (35, .getfield 18, 3, (7, 2, 2, 0, 0, []))]),
  (49, [(38, .iconst 0, 1, (0, 0, 0, 0, 0, [])), (39, .iconst 5, 1, (0, 0, 0, 5, 0, [])), (40, .invokestatic 21, 3, (999, 5, 0, 0, 0, [])), (43, .aload_n 0, 1, (0, 0, 0, 0, 0, [])), (44, .aload_n 1, 1, (1, 0, 0, 0, 0, [])), (45, .getfield 27, 3, (7, 3, 0, 0, 0, [])), (48, .putfield 27, 3, (7, 3, 0, 0, 0, []))]),
  (62, [(51, .aload_n 0, 1, (0, 0, 0, 0, 0, [])), (52, .aload_n 1, 1, (1, 0, 0, 0, 0, [])), (53, .getfield 31, 3, (7, 4, 0, 0, 0, [])), (56, .putfield 31, 3, (7, 4, 0, 0, 0, [])), (59, .aload_n 0, 1, (0, 0, 0, 0, 0, [])), (60, .aload_n 1, 1, (1, 0, 0, 0, 0, [])), (61, .getfield 34, 3, (7, 5, 0, 0, 0, []))]),
  (68, [(64, .putfield 34, 3, (7, 5, 0, 0, 0, [])), (67, .return_, 1, (0, 0, 0, 0, 0, []))])]
def zt_X7_read : List (Nat × List zv_E) := [
  (10, [(0, .aload_n 1, 1, (1, 0, 0, 0, 0, [])), (1, .getfield 37, 3, (4, 5, 2, 0, 0, [])), (4, .iconst 0, 1, (0, 0, 0, 0, 0, [])), (5, .aload_n 0, 1, (0, 0, 0, 0, 0, [])), (6, .getfield 9, 3, (7, 0, 2, 0, 0, [])), (9, .iconst 0, 1, (0, 0, 0, 0, 0, []))]),
  (21, [(10, .bipush 25, 2, (0, 0, 0, 25, 0, [])), (12, .invokestatic 21, 3, (999, 5, 0, 0, 0, [])), (15, .aload_n 1, 1, (1, 0, 0, 0, 0, [])), (16, .getfield 40, 3, (4, 10, 2, 0, 0, [])), (19, .iconst 0, 1, (0, 0, 0, 0, 0, [])), (20, .aload_n 0, 1, (0, 0, 0, 0, 0, []))]),
  (31, [(21, .getfield 15, 3, (7, 1, 2, 0, 0, [])), (24, .iconst 0, 1, (0, 0, 0, 0, 0, [])), (25, .iconst 4, 1, (0, 0, 0, 4, 0, [])), (26, .invokestatic 21, 3, (999, 5, 0, 0, 0, [])), (29, .aload_n 0, 1, (0, 0, 0, 0, 0, [])), (30, .invokevirtual 41, 3, (70, 1, 0, 0, 0, []))]),
  (41, [(33, .aload_n 0, 1, (0, 0, 0, 0, 0, [])), (34, .iconst 1, 1, (0, 0, 0, 1, 0, [])), (35, .aload_n 1, 1, (1, 0, 0, 0, 0, [])), (36, .getfield 44, 3, (4, 3, 0, 0, 0, [])), (39, .ishl, 1, (0, 0, 0, 0, 0, [])), (40, .iconst 1, 1, (0, 0, 0, 1, 0, []))]),
  (51, [(41, .isub, 1, (0, 0, 0, 0, 0, [])), (42, .putfield 27, 3, (7, 3, 0, 0, 0, [])), (45, .aload_n 0, 1, (0, 0, 0, 0, 0, [])), (46, .iconst 0, 1, (0, 0, 0, 0, 0, [])), (47, .putfield 31, 3, (7, 4, 0, 0, 0, [])), (50, .aload_n 0, 1, (0, 0, 0, 0, 0, []))]),
  (56, [(51, .iconst 0, 1, (0, 0, 0, 0, 0, [])), (52, .putfield 34, 3, (7, 5, 0, 0, 0, [])), (55, .return_, 1, (0, 0, 0, 0, 0, []))])]
def zt_X7_forgetChoices : List (Nat × List zv_E) := [
  (9, [(0, .aload_n 0, 1, (0, 0, 0, 0, 0, [])), (1, .getfield 18, 3, (7, 2, 2, 0, 0, [])), (4, .iconst 0, 1, (0, 0, 0, 0, 0, [])), (5, .invokestatic 47, 3, (1, 2, 0, 0, 0, [])), (8, .return_, 1, (0, 0, 0, 0, 0, []))])]
def zt_X7_costOf : List (Nat × List zv_E) := [
  (6, [(0, .iload_n 1, 1, (1, 0, 0, 0, 0, [])), (1, .iconst 5, 1, (0, 0, 0, 5, 0, [])), (2, .imul, 1, (0, 0, 0, 0, 0, [])), (3, .iload_n 2, 1, (2, 0, 0, 0, 0, [])), (4, .iadd, 1, (0, 0, 0, 0, 0, [])), (5, .istore_n 3, 1, (3, 0, 0, 0, 0, []))]),
  (17, [(6, .iload_n 3, 1, (3, 0, 0, 0, 0, [])), (7, .ifCond .lt 18, 3, (25, 0, 0, 0, 0, [])), (10, .iload_n 3, 1, (3, 0, 0, 0, 0, [])), (11, .bipush 25, 2, (0, 0, 0, 25, 0, [])), (13, .if_icmp .ge 12, 3, (25, 0, 0, 0, 0, [])), (16, .aload_n 0, 1, (0, 0, 0, 0, 0, []))]),
  (27, [(17, .getfield 9, 3, (7, 0, 2, 0, 0, [])), (20, .iload_n 3, 1, (3, 0, 0, 0, 0, [])), (21, .iaload, 1, (0, 0, 0, 0, 0, [])), (22, .goto 4, 3, (26, 0, 0, 0, 0, [])), (25, .iconst 0, 1, (0, 0, 0, 0, 0, [])), (26, .ireturn, 1, (0, 0, 0, 0, 0, []))])]
def zt_X7_flip : List (Nat × List zv_E) := [
  (8, [(0, .aload_n 0, 1, (0, 0, 0, 0, 0, [])), (1, .dup, 1, (0, 0, 0, 0, 0, [])), (2, .getfield 27, 3, (7, 3, 0, 0, 0, [])), (5, .iconst 1, 1, (0, 0, 0, 1, 0, [])), (6, .iload_n 1, 1, (1, 0, 0, 0, 0, [])), (7, .ishl, 1, (0, 0, 0, 0, 0, []))]),
  (13, [(8, .ixor, 1, (0, 0, 0, 0, 0, [])), (9, .putfield 27, 3, (7, 3, 0, 0, 0, [])), (12, .return_, 1, (0, 0, 0, 0, 0, []))])]
def zt_X7_extend : List (Nat × List zv_E) := [
  (8, [(0, .aload_n 0, 1, (0, 0, 0, 0, 0, [])), (1, .dup, 1, (0, 0, 0, 0, 0, [])), (2, .getfield 31, 3, (7, 4, 0, 0, 0, [])), (5, .iconst 1, 1, (0, 0, 0, 1, 0, [])), (6, .iload_n 1, 1, (1, 0, 0, 0, 0, [])), (7, .ishl, 1, (0, 0, 0, 0, 0, []))]),
  (18, [(8, .ixor, 1, (0, 0, 0, 0, 0, [])), (9, .putfield 31, 3, (7, 4, 0, 0, 0, [])), (12, .aload_n 0, 1, (0, 0, 0, 0, 0, [])), (13, .getfield 31, 3, (7, 4, 0, 0, 0, [])), (16, .iload_n 1, 1, (1, 0, 0, 0, 0, [])), (17, .ishr, 1, (0, 0, 0, 0, 0, []))]),
  (28, [(18, .iconst 1, 1, (0, 0, 0, 1, 0, [])), (19, .iand, 1, (0, 0, 0, 0, 0, [])), (20, .ifCond .ne 24, 3, (44, 0, 0, 0, 0, [])), (23, .iload_n 1, 1, (1, 0, 0, 0, 0, [])), (24, .ifCond .lt 20, 3, (44, 0, 0, 0, 0, [])), (27, .iload_n 1, 1, (1, 0, 0, 0, 0, []))]),
  (38, [(28, .iconst 5, 1, (0, 0, 0, 5, 0, [])), (29, .if_icmp .ge 15, 3, (44, 0, 0, 0, 0, [])), (32, .aload_n 0, 1, (0, 0, 0, 0, 0, [])), (33, .getfield 18, 3, (7, 2, 2, 0, 0, [])), (36, .iload_n 1, 1, (1, 0, 0, 0, 0, [])), (37, .dup2, 1, (0, 0, 0, 0, 0, []))]),
  (45, [(38, .iaload, 1, (0, 0, 0, 0, 0, [])), (39, .sipush 2047, 3, (0, 0, 0, 2047, 0, [])), (42, .iand, 1, (0, 0, 0, 0, 0, [])), (43, .iastore, 1, (0, 0, 0, 0, 0, [])), (44, .return_, 1, (0, 0, 0, 0, 0, []))])]
def zt_X7_firstRoute : List (Nat × List zv_E) := [
  (10, [(0, .iload_n 1, 1, (1, 0, 0, 0, 0, [])), (1, .ifCond .lt 21, 3, (22, 0, 0, 0, 0, [])), (4, .iload_n 1, 1, (1, 0, 0, 0, 0, [])), (5, .iconst 5, 1, (0, 0, 0, 5, 0, [])), (6, .if_icmp .ge 16, 3, (22, 0, 0, 0, 0, [])), (9, .aload_n 0, 1, (0, 0, 0, 0, 0, []))]),
  (20, [(10, .getfield 18, 3, (7, 2, 2, 0, 0, [])), (13, .iload_n 1, 1, (1, 0, 0, 0, 0, [])), (14, .iaload, 1, (0, 0, 0, 0, 0, [])), (15, .sipush 2047, 3, (0, 0, 0, 2047, 0, [])), (18, .iand, 1, (0, 0, 0, 0, 0, [])), (19, .goto 4, 3, (23, 0, 0, 0, 0, []))]),
  (24, [(22, .iconst 0, 1, (0, 0, 0, 0, 0, [])), (23, .ireturn, 1, (0, 0, 0, 0, 0, []))])]
def zt_X7_secondRoute : List (Nat × List zv_E) := [
  (10, [(0, .iload_n 1, 1, (1, 0, 0, 0, 0, [])), (1, .ifCond .lt 24, 3, (25, 0, 0, 0, 0, [])), (4, .iload_n 1, 1, (1, 0, 0, 0, 0, [])), (5, .iconst 5, 1, (0, 0, 0, 5, 0, [])), (6, .if_icmp .ge 19, 3, (25, 0, 0, 0, 0, [])), (9, .aload_n 0, 1, (0, 0, 0, 0, 0, []))]),
  (19, [(10, .getfield 18, 3, (7, 2, 2, 0, 0, [])), (13, .iload_n 1, 1, (1, 0, 0, 0, 0, [])), (14, .iaload, 1, (0, 0, 0, 0, 0, [])), (15, .bipush 11, 2, (0, 0, 0, 11, 0, [])), (17, .ishr, 1, (0, 0, 0, 0, 0, [])), (18, .sipush 2047, 3, (0, 0, 0, 2047, 0, []))]),
  (27, [(21, .iand, 1, (0, 0, 0, 0, 0, [])), (22, .goto 4, 3, (26, 0, 0, 0, 0, [])), (25, .iconst 0, 1, (0, 0, 0, 0, 0, [])), (26, .ireturn, 1, (0, 0, 0, 0, 0, []))])]
def zt_X7_firstExit : List (Nat × List zv_E) := [
  (8, [(0, .aload_n 0, 1, (0, 0, 0, 0, 0, [])), (1, .iload_n 1, 1, (1, 0, 0, 0, 0, [])), (2, .invokevirtual 53, 3, (74, 2, 1, 0, 0, [])), (5, .istore_n 2, 1, (2, 0, 0, 0, 0, [])), (6, .iload_n 2, 1, (2, 0, 0, 0, 0, [])), (7, .ifCond .ne 7, 3, (14, 0, 0, 0, 0, []))]),
  (19, [(10, .iconst (-1), 1, (0, 0, 0, (-1), 0, [])), (11, .goto 7, 3, (18, 0, 0, 0, 0, [])), (14, .iload_n 2, 1, (2, 0, 0, 0, 0, [])), (15, .invokestatic 57, 3, (115, 1, 1, 0, 0, [])), (18, .ireturn, 1, (0, 0, 0, 0, 0, []))])]
def zt_X7_linkCount : List (Nat × List zv_E) := [
  (6, [(0, .iconst 0, 1, (0, 0, 0, 0, 0, [])), (1, .istore_n 1, 1, (1, 0, 0, 0, 0, [])), (2, .iconst 0, 1, (0, 0, 0, 0, 0, [])), (3, .istore_n 2, 1, (2, 0, 0, 0, 0, [])), (4, .iload_n 2, 1, (2, 0, 0, 0, 0, [])), (5, .bipush 25, 2, (0, 0, 0, 25, 0, []))]),
  (17, [(7, .if_icmp .ge 26, 3, (33, 0, 0, 0, 0, [])), (10, .iload_n 1, 1, (1, 0, 0, 0, 0, [])), (11, .aload_n 0, 1, (0, 0, 0, 0, 0, [])), (12, .getfield 9, 3, (7, 0, 2, 0, 0, [])), (15, .iload_n 2, 1, (2, 0, 0, 0, 0, [])), (16, .iaload, 1, (0, 0, 0, 0, 0, []))]),
  (27, [(17, .ifCond .le 7, 3, (24, 0, 0, 0, 0, [])), (20, .iconst 1, 1, (0, 0, 0, 1, 0, [])), (21, .goto 4, 3, (25, 0, 0, 0, 0, [])), (24, .iconst 0, 1, (0, 0, 0, 0, 0, [])), (25, .iadd, 1, (0, 0, 0, 0, 0, [])), (26, .istore_n 1, 1, (1, 0, 0, 0, 0, []))]),
  (37, [(27, .iinc 2 1, 3, (2, 0, 0, 1, 0, [])), (30, .goto (-26), 3, (4, 0, 0, 0, 0, [])), (33, .iload_n 1, 1, (1, 0, 0, 0, 0, [])), (34, .iconst 2, 1, (0, 0, 0, 2, 0, [])), (35, .idiv, 1, (0, 0, 0, 0, 0, [])), (36, .ireturn, 1, (0, 0, 0, 0, 0, []))])]
def zt_X7_chosenSet : List (Nat × List zv_E) := [
  (6, [(0, .iconst 0, 1, (0, 0, 0, 0, 0, [])), (1, .istore_n 1, 1, (1, 0, 0, 0, 0, [])), (2, .iconst 0, 1, (0, 0, 0, 0, 0, [])), (3, .istore_n 2, 1, (2, 0, 0, 0, 0, [])), (4, .iload_n 2, 1, (2, 0, 0, 0, 0, [])), (5, .iconst 5, 1, (0, 0, 0, 5, 0, []))]),
  (16, [(6, .if_icmp .ge 28, 3, (34, 0, 0, 0, 0, [])), (9, .iload_n 1, 1, (1, 0, 0, 0, 0, [])), (10, .aload_n 0, 1, (0, 0, 0, 0, 0, [])), (11, .getfield 18, 3, (7, 2, 2, 0, 0, [])), (14, .iload_n 2, 1, (2, 0, 0, 0, 0, [])), (15, .iaload, 1, (0, 0, 0, 0, 0, []))]),
  (26, [(16, .ifCond .eq 9, 3, (25, 0, 0, 0, 0, [])), (19, .iconst 1, 1, (0, 0, 0, 1, 0, [])), (20, .iload_n 2, 1, (2, 0, 0, 0, 0, [])), (21, .ishl, 1, (0, 0, 0, 0, 0, [])), (22, .goto 4, 3, (26, 0, 0, 0, 0, [])), (25, .iconst 0, 1, (0, 0, 0, 0, 0, []))]),
  (36, [(26, .ior, 1, (0, 0, 0, 0, 0, [])), (27, .istore_n 1, 1, (1, 0, 0, 0, 0, [])), (28, .iinc 2 1, 3, (2, 0, 0, 1, 0, [])), (31, .goto (-27), 3, (4, 0, 0, 0, 0, [])), (34, .iload_n 1, 1, (1, 0, 0, 0, 0, [])), (35, .ireturn, 1, (0, 0, 0, 0, 0, []))])]
def zt_X7_chosenExits : List (Nat × List zv_E) := [
  (6, [(0, .iconst 0, 1, (0, 0, 0, 0, 0, [])), (1, .istore_n 1, 1, (1, 0, 0, 0, 0, [])), (2, .iconst 0, 1, (0, 0, 0, 0, 0, [])), (3, .istore_n 2, 1, (2, 0, 0, 0, 0, [])), (4, .iload_n 2, 1, (2, 0, 0, 0, 0, [])), (5, .iconst 5, 1, (0, 0, 0, 5, 0, []))]),
  (16, [(6, .if_icmp .ge 30, 3, (36, 0, 0, 0, 0, [])), (9, .aload_n 0, 1, (0, 0, 0, 0, 0, [])), (10, .iload_n 2, 1, (2, 0, 0, 0, 0, [])), (11, .invokevirtual 60, 3, (76, 2, 1, 0, 0, [])), (14, .istore_n 3, 1, (3, 0, 0, 0, 0, [])), (15, .iload_n 1, 1, (1, 0, 0, 0, 0, []))]),
  (26, [(16, .iload_n 3, 1, (3, 0, 0, 0, 0, [])), (17, .iconst (-1), 1, (0, 0, 0, (-1), 0, [])), (18, .if_icmp .ne 7, 3, (25, 0, 0, 0, 0, [])), (21, .iconst 0, 1, (0, 0, 0, 0, 0, [])), (22, .goto 6, 3, (28, 0, 0, 0, 0, [])), (25, .iconst 1, 1, (0, 0, 0, 1, 0, []))]),
  (34, [(26, .iload_n 3, 1, (3, 0, 0, 0, 0, [])), (27, .ishl, 1, (0, 0, 0, 0, 0, [])), (28, .ior, 1, (0, 0, 0, 0, 0, [])), (29, .istore_n 1, 1, (1, 0, 0, 0, 0, [])), (30, .iinc 2 1, 3, (2, 0, 0, 1, 0, [])), (33, .goto (-29), 3, (4, 0, 0, 0, 0, []))]),
  (38, [(36, .iload_n 1, 1, (1, 0, 0, 0, 0, [])), (37, .ireturn, 1, (0, 0, 0, 0, 0, []))])]
def zt_X8_init : List (Nat × List zv_E) := [
  (17, [(0, .aload_n 0, 1, (0, 0, 0, 0, 0, [])), (1, .invokespecial 3, 3, (998, 1, 0, 0, 0, [])), (4, .aload_n 0, 1, (0, 0, 0, 0, 0, [])), (5, .new 9, 3, (4, 12, 0, 0, 0, [])), (8, .dup, 1, (0, 0, 0, 0, 0, [])), (9, .invokespecial 11, 3, (28, 1, 0, 0, 0, [])), (12, .putfield 12, 3, (8, 0, 2, 0, 0, [])), (15, .aload_n 0, 1, (0, 0, 0, 0, 0, [])), (16, .new 16, 3, (3, 8, 0, 0, 0, []))]),
  (36, [(19, .dup, 1, (0, 0, 0, 0, 0, [])), (20, .invokespecial 18, 3, (19, 1, 0, 0, 0, [])), (23, .putfield 19, 3, (8, 1, 2, 0, 0, [])), (26, .aload_n 0, 1, (0, 0, 0, 0, 0, [])), (27, .new 23, 3, (6, 9, 0, 0, 0, [])), (30, .dup, 1, (0, 0, 0, 0, 0, [])), (31, .aload_n 0, 1, (0, 0, 0, 0, 0, [])), (32, .getfield 19, 3, (8, 1, 2, 0, 0, [])), (35, .invokespecial 25, 3, (45, 2, 0, 0, 0, []))]),
  (57, [(38, .putfield 28, 3, (8, 2, 2, 0, 0, [])), (41, .aload_n 0, 1, (0, 0, 0, 0, 0, [])), (42, .new 23, 3, (6, 9, 0, 0, 0, [])), (45, .dup, 1, (0, 0, 0, 0, 0, [])), (46, .aload_n 0, 1, (0, 0, 0, 0, 0, [])), (47, .getfield 19, 3, (8, 1, 2, 0, 0, [])), (50, .invokespecial 25, 3, (45, 2, 0, 0, 0, [])), (53, .putfield 32, 3, (8, 3, 2, 0, 0, [])), (56, .aload_n 0, 1, (0, 0, 0, 0, 0, []))]),
  (76, [(57, .new 35, 3, (0, 4, 0, 0, 0, [])), (60, .dup, 1, (0, 0, 0, 0, 0, [])), (61, .invokespecial 37, 3, (2, 1, 0, 0, 0, [])), (64, .putfield 38, 3, (8, 4, 2, 0, 0, [])), (67, .aload_n 0, 1, (0, 0, 0, 0, 0, [])), (68, .new 42, 3, (1, 6, 0, 0, 0, [])), (71, .dup, 1, (0, 0, 0, 0, 0, [])), (72, .invokespecial 44, 3, (8, 1, 0, 0, 0, [])), (75, .putfield 45, 3, (8, 5, 2, 0, 0, []))]),
  (95, [(78, .aload_n 0, 1, (0, 0, 0, 0, 0, [])), (79, .new 49, 3, (2, 3, 0, 0, 0, [])), (82, .dup, 1, (0, 0, 0, 0, 0, [])), (83, .invokespecial 51, 3, (16, 1, 0, 0, 0, [])), (86, .putfield 52, 3, (8, 6, 2, 0, 0, [])), (89, .aload_n 0, 1, (0, 0, 0, 0, 0, [])), (90, .iconst 2, 1, (0, 0, 0, 2, 0, [])), (91, .anewarray 56, 3, (13, 0, 0, 0, 0, [])), (94, .putfield 58, 3, (8, 7, 2, 0, 0, []))]),
  (110, [(97, .iconst 0, 1, (0, 0, 0, 0, 0, [])), (98, .istore_n 1, 1, (1, 0, 0, 0, 0, [])), (99, .iload_n 1, 1, (1, 0, 0, 0, 0, [])), (100, .iconst 2, 1, (0, 0, 0, 2, 0, [])), (101, .if_icmp .ge 22, 3, (123, 0, 0, 0, 0, [])), (104, .aload_n 0, 1, (0, 0, 0, 0, 0, [])), (105, .getfield 58, 3, (8, 7, 2, 0, 0, [])), (108, .iload_n 1, 1, (1, 0, 0, 0, 0, [])), (109, .new 56, 3, (7, 6, 0, 0, 0, []))]),
  (128, [(112, .dup, 1, (0, 0, 0, 0, 0, [])), (113, .invokespecial 62, 3, (67, 1, 0, 0, 0, [])), (116, .aastore, 1, (0, 0, 0, 0, 0, [])), (117, .iinc 1 1, 3, (1, 0, 0, 1, 0, [])), (120, .goto (-21), 3, (99, 0, 0, 0, 0, [])), (123, .aload_n 0, 1, (0, 0, 0, 0, 0, [])), (124, .iconst 2, 1, (0, 0, 0, 2, 0, [])), (125, .newarray .boolean, 2, (12, 0, 0, 0, 0, [])), (127, .putfield 63, 3, (8, 8, 2, 0, 0, []))]),
  (147, [(130, .aload_n 0, 1, (0, 0, 0, 0, 0, [])), (131, .new 67, 3, (5, 4, 0, 0, 0, [])), (134, .dup, 1, (0, 0, 0, 0, 0, [])), (135, .invokespecial 69, 3, (42, 1, 0, 0, 0, [])), (138, .putfield 70, 3, (8, 9, 2, 0, 0, [])), (141, .aload_n 0, 1, (0, 0, 0, 0, 0, [])), (142, .lconst 0, 1, (0, 0, 0, 0, 0, [])), (143, .putfield 74, 3, (8, 10, 1, 0, 0, [])), (146, .return_, 1, (0, 0, 0, 0, 0, []))])]
def zt_X8_write : List (Nat × List zv_E) := [
  (12, [(0, .iload_n 1, 1, (1, 0, 0, 0, 0, [])), (1, .ifCond .lt 10, 3, (11, 0, 0, 0, 0, [])), (4, .iload_n 1, 1, (1, 0, 0, 0, 0, [])), (5, .sipush 255, 3, (0, 0, 0, 255, 0, [])), (8, .if_icmp .le 6, 3, (14, 0, 0, 0, 0, [])), (11, .bipush (-2), 2, (0, 0, 0, (-2), 0, []))]),
  (24, [(13, .ireturn, 1, (0, 0, 0, 0, 0, [])), (14, .aload_n 0, 1, (0, 0, 0, 0, 0, [])), (15, .getfield 12, 3, (8, 0, 2, 0, 0, [])), (18, .getfield 78, 3, (4, 1, 0, 0, 0, [])), (21, .bipush 90, 2, (0, 0, 0, 90, 0, [])), (23, .if_icmp .lt 6, 3, (29, 0, 0, 0, 0, []))]),
  (37, [(26, .bipush (-4), 2, (0, 0, 0, (-4), 0, [])), (28, .ireturn, 1, (0, 0, 0, 0, 0, [])), (29, .aload_n 0, 1, (0, 0, 0, 0, 0, [])), (30, .getfield 12, 3, (8, 0, 2, 0, 0, [])), (33, .getfield 82, 3, (4, 0, 2, 0, 0, [])), (36, .aload_n 0, 1, (0, 0, 0, 0, 0, []))]),
  (47, [(37, .getfield 12, 3, (8, 0, 2, 0, 0, [])), (40, .getfield 78, 3, (4, 1, 0, 0, 0, [])), (43, .iload_n 1, 1, (1, 0, 0, 0, 0, [])), (44, .i2c, 1, (0, 0, 0, 0, 0, [])), (45, .castore, 1, (0, 0, 0, 0, 0, [])), (46, .aload_n 0, 1, (0, 0, 0, 0, 0, []))]),
  (57, [(47, .getfield 12, 3, (8, 0, 2, 0, 0, [])), (50, .dup, 1, (0, 0, 0, 0, 0, [])), (51, .getfield 78, 3, (4, 1, 0, 0, 0, [])), (54, .iconst 1, 1, (0, 0, 0, 1, 0, [])), (55, .iadd, 1, (0, 0, 0, 0, 0, [])), (56, .putfield 78, 3, (4, 1, 0, 0, 0, []))]),
  (67, [(59, .aload_n 0, 1, (0, 0, 0, 0, 0, [])), (60, .getfield 12, 3, (8, 0, 2, 0, 0, [])), (63, .getfield 78, 3, (4, 1, 0, 0, 0, [])), (66, .ireturn, 1, (0, 0, 0, 0, 0, []))])]
def zt_X8_wipe : List (Nat × List zv_E) := [
  (10, [(0, .aload_n 0, 1, (0, 0, 0, 0, 0, [])), (1, .getfield 12, 3, (8, 0, 2, 0, 0, [])), (4, .getfield 78, 3, (4, 1, 0, 0, 0, [])), (7, .istore_n 1, 1, (1, 0, 0, 0, 0, [])), (8, .aload_n 0, 1, (0, 0, 0, 0, 0, [])), (9, .getfield 12, 3, (8, 0, 2, 0, 0, []))]),
  (18, [(12, .iconst 0, 1, (0, 0, 0, 0, 0, [])), (13, .putfield 78, 3, (4, 1, 0, 0, 0, [])), (16, .iload_n 1, 1, (1, 0, 0, 0, 0, [])), (17, .ireturn, 1, (0, 0, 0, 0, 0, []))])]
def zt_X8_fault : List (Nat × List zv_E) := [
  (10, [(0, .aload_n 0, 1, (0, 0, 0, 0, 0, [])), (1, .getfield 12, 3, (8, 0, 2, 0, 0, [])), (4, .invokevirtual 86, 3, (29, 1, 1, 0, 0, [])), (7, .istore_n 1, 1, (1, 0, 0, 0, 0, [])), (8, .iload_n 1, 1, (1, 0, 0, 0, 0, [])), (9, .iconst (-1), 1, (0, 0, 0, (-1), 0, []))]),
  (20, [(10, .if_icmp .ne 8, 3, (18, 0, 0, 0, 0, [])), (13, .bipush (-9), 2, (0, 0, 0, (-9), 0, [])), (15, .goto 4, 3, (19, 0, 0, 0, 0, [])), (18, .iload_n 1, 1, (1, 0, 0, 0, 0, [])), (19, .ireturn, 1, (0, 0, 0, 0, 0, []))])]
def zt_X8_domain : List (Nat × List zv_E) := [
  (14, [(0, .aload_n 0, 1, (0, 0, 0, 0, 0, [])), (1, .getfield 12, 3, (8, 0, 2, 0, 0, [])), (4, .invokevirtual 86, 3, (29, 1, 1, 0, 0, [])), (7, .iconst (-1), 1, (0, 0, 0, (-1), 0, [])), (8, .if_icmp .eq 6, 3, (14, 0, 0, 0, 0, [])), (11, .bipush (-3), 2, (0, 0, 0, (-3), 0, [])), (13, .ireturn, 1, (0, 0, 0, 0, 0, []))]),
  (27, [(14, .aload_n 0, 1, (0, 0, 0, 0, 0, [])), (15, .getfield 19, 3, (8, 1, 2, 0, 0, [])), (18, .aload_n 0, 1, (0, 0, 0, 0, 0, [])), (19, .getfield 12, 3, (8, 0, 2, 0, 0, [])), (22, .invokevirtual 90, 3, (20, 2, 0, 0, 0, [])), (25, .aload_n 0, 1, (0, 0, 0, 0, 0, [])), (26, .getfield 28, 3, (8, 2, 2, 0, 0, []))]),
  (42, [(29, .aload_n 0, 1, (0, 0, 0, 0, 0, [])), (30, .getfield 12, 3, (8, 0, 2, 0, 0, [])), (33, .invokevirtual 94, 3, (46, 2, 0, 0, 0, [])), (36, .aload_n 0, 1, (0, 0, 0, 0, 0, [])), (37, .getfield 52, 3, (8, 6, 2, 0, 0, [])), (40, .iconst 0, 1, (0, 0, 0, 0, 0, [])), (41, .putfield 97, 3, (2, 0, 0, 0, 0, []))]),
  (53, [(44, .iconst 0, 1, (0, 0, 0, 0, 0, [])), (45, .istore_n 1, 1, (1, 0, 0, 0, 0, [])), (46, .iload_n 1, 1, (1, 0, 0, 0, 0, [])), (47, .iconst 2, 1, (0, 0, 0, 2, 0, [])), (48, .if_icmp .ge 16, 3, (64, 0, 0, 0, 0, [])), (51, .aload_n 0, 1, (0, 0, 0, 0, 0, [])), (52, .getfield 63, 3, (8, 8, 2, 0, 0, []))]),
  (66, [(55, .iload_n 1, 1, (1, 0, 0, 0, 0, [])), (56, .iconst 0, 1, (0, 0, 0, 0, 0, [])), (57, .bastore, 1, (0, 0, 0, 0, 0, [])), (58, .iinc 1 1, 3, (1, 0, 0, 1, 0, [])), (61, .goto (-15), 3, (46, 0, 0, 0, 0, [])), (64, .aload_n 0, 1, (0, 0, 0, 0, 0, [])), (65, .getfield 12, 3, (8, 0, 2, 0, 0, []))]),
  (72, [(68, .getfield 100, 3, (4, 4, 0, 0, 0, [])), (71, .ireturn, 1, (0, 0, 0, 0, 0, []))])]
def zt_X8_link : List (Nat × List zv_E) := [
  (13, [(0, .aload_n 0, 1, (0, 0, 0, 0, 0, [])), (1, .getfield 19, 3, (8, 1, 2, 0, 0, [])), (4, .iload_n 1, 1, (1, 0, 0, 0, 0, [])), (5, .invokevirtual 103, 3, (22, 2, 1, 0, 0, [])), (8, .ifCond .eq 14, 3, (22, 0, 0, 0, 0, [])), (11, .aload_n 0, 1, (0, 0, 0, 0, 0, [])), (12, .getfield 19, 3, (8, 1, 2, 0, 0, []))]),
  (26, [(15, .iload_n 2, 1, (2, 0, 0, 0, 0, [])), (16, .invokevirtual 103, 3, (22, 2, 1, 0, 0, [])), (19, .ifCond .ne 5, 3, (24, 0, 0, 0, 0, [])), (22, .iconst (-1), 1, (0, 0, 0, (-1), 0, [])), (23, .ireturn, 1, (0, 0, 0, 0, 0, [])), (24, .iload_n 3, 1, (3, 0, 0, 0, 0, [])), (25, .ifCond .lt 8, 3, (33, 0, 0, 0, 0, []))]),
  (38, [(28, .iload_n 3, 1, (3, 0, 0, 0, 0, [])), (29, .iconst 1, 1, (0, 0, 0, 1, 0, [])), (30, .if_icmp .le 6, 3, (36, 0, 0, 0, 0, [])), (33, .bipush (-2), 2, (0, 0, 0, (-2), 0, [])), (35, .ireturn, 1, (0, 0, 0, 0, 0, [])), (36, .iload_n 3, 1, (3, 0, 0, 0, 0, [])), (37, .ifCond .ne 16, 3, (53, 0, 0, 0, 0, []))]),
  (53, [(40, .aload_n 0, 1, (0, 0, 0, 0, 0, [])), (41, .getfield 28, 3, (8, 2, 2, 0, 0, [])), (44, .getfield 107, 3, (6, 1, 2, 0, 0, [])), (47, .iload_n 1, 1, (1, 0, 0, 0, 0, [])), (48, .iload_n 2, 1, (2, 0, 0, 0, 0, [])), (49, .invokevirtual 111, 3, (71, 3, 1, 0, 0, [])), (52, .ireturn, 1, (0, 0, 0, 0, 0, []))]),
  (65, [(53, .aload_n 0, 1, (0, 0, 0, 0, 0, [])), (54, .getfield 28, 3, (8, 2, 2, 0, 0, [])), (57, .iload_n 1, 1, (1, 0, 0, 0, 0, [])), (58, .iload_n 2, 1, (2, 0, 0, 0, 0, [])), (59, .invokevirtual 115, 3, (55, 3, 1, 0, 0, [])), (62, .istore 4, 2, (4, 0, 0, 0, 0, [])), (64, .iload 4, 2, (4, 0, 0, 0, 0, []))]),
  (80, [(66, .sipush 1000, 3, (0, 0, 0, 1000, 0, [])), (69, .if_icmp .ge 8, 3, (77, 0, 0, 0, 0, [])), (72, .iload 4, 2, (4, 0, 0, 0, 0, [])), (74, .goto 5, 3, (79, 0, 0, 0, 0, [])), (77, .bipush (-9), 2, (0, 0, 0, (-9), 0, [])), (79, .ireturn, 1, (0, 0, 0, 0, 0, []))])]
def zt_X8_session : List (Nat × List zv_E) := [
  (12, [(0, .aload_n 0, 1, (0, 0, 0, 0, 0, [])), (1, .getfield 19, 3, (8, 1, 2, 0, 0, [])), (4, .iload_n 1, 1, (1, 0, 0, 0, 0, [])), (5, .invokevirtual 103, 3, (22, 2, 1, 0, 0, [])), (8, .ifCond .eq 14, 3, (22, 0, 0, 0, 0, [])), (11, .aload_n 0, 1, (0, 0, 0, 0, 0, []))]),
  (24, [(12, .getfield 19, 3, (8, 1, 2, 0, 0, [])), (15, .iload_n 2, 1, (2, 0, 0, 0, 0, [])), (16, .invokevirtual 103, 3, (22, 2, 1, 0, 0, [])), (19, .ifCond .ne 5, 3, (24, 0, 0, 0, 0, [])), (22, .iconst (-1), 1, (0, 0, 0, (-1), 0, [])), (23, .ireturn, 1, (0, 0, 0, 0, 0, []))]),
  (34, [(24, .aload_n 0, 1, (0, 0, 0, 0, 0, [])), (25, .getfield 19, 3, (8, 1, 2, 0, 0, [])), (28, .iload_n 1, 1, (1, 0, 0, 0, 0, [])), (29, .iload_n 2, 1, (2, 0, 0, 0, 0, [])), (30, .invokevirtual 118, 3, (24, 3, 1, 0, 0, [])), (33, .ireturn, 1, (0, 0, 0, 0, 0, []))])]
def zt_X8_exit : List (Nat × List zv_E) := [
  (13, [(0, .aload_n 0, 1, (0, 0, 0, 0, 0, [])), (1, .getfield 19, 3, (8, 1, 2, 0, 0, [])), (4, .iload_n 1, 1, (1, 0, 0, 0, 0, [])), (5, .invokevirtual 121, 3, (23, 2, 1, 0, 0, [])), (8, .ifCond .ne 5, 3, (13, 0, 0, 0, 0, [])), (11, .iconst (-1), 1, (0, 0, 0, (-1), 0, [])), (12, .ireturn, 1, (0, 0, 0, 0, 0, []))]),
  (57, [(13, .iload_n 2, 1, (2, 0, 0, 0, 0, [])), (14, .tableswitch 92 0 4 #[34, 44, 54, 64, 77], 34, (106, 0, 0, 0, 0, [(0, 48), (1, 58), (2, 68), (3, 78), (4, 91)])), (48, .aload_n 0, 1, (0, 0, 0, 0, 0, [])), (49, .getfield 19, 3, (8, 1, 2, 0, 0, [])), (52, .getfield 124, 3, (3, 4, 2, 0, 0, [])), (55, .iload_n 1, 1, (1, 0, 0, 0, 0, [])), (56, .iaload, 1, (0, 0, 0, 0, 0, []))]),
  (68, [(57, .ireturn, 1, (0, 0, 0, 0, 0, [])), (58, .aload_n 0, 1, (0, 0, 0, 0, 0, [])), (59, .getfield 19, 3, (8, 1, 2, 0, 0, [])), (62, .getfield 128, 3, (3, 5, 2, 0, 0, [])), (65, .iload_n 1, 1, (1, 0, 0, 0, 0, [])), (66, .iaload, 1, (0, 0, 0, 0, 0, [])), (67, .ireturn, 1, (0, 0, 0, 0, 0, []))]),
  (79, [(68, .aload_n 0, 1, (0, 0, 0, 0, 0, [])), (69, .getfield 19, 3, (8, 1, 2, 0, 0, [])), (72, .getfield 131, 3, (3, 6, 2, 0, 0, [])), (75, .iload_n 1, 1, (1, 0, 0, 0, 0, [])), (76, .iaload, 1, (0, 0, 0, 0, 0, [])), (77, .ireturn, 1, (0, 0, 0, 0, 0, [])), (78, .aload_n 0, 1, (0, 0, 0, 0, 0, []))]),
  (92, [(79, .getfield 28, 3, (8, 2, 2, 0, 0, [])), (82, .getfield 107, 3, (6, 1, 2, 0, 0, [])), (85, .getfield 134, 3, (7, 1, 2, 0, 0, [])), (88, .iload_n 1, 1, (1, 0, 0, 0, 0, [])), (89, .iaload, 1, (0, 0, 0, 0, 0, [])), (90, .ireturn, 1, (0, 0, 0, 0, 0, [])), (91, .aload_n 0, 1, (0, 0, 0, 0, 0, []))]),
  (105, [(92, .getfield 28, 3, (8, 2, 2, 0, 0, [])), (95, .getfield 107, 3, (6, 1, 2, 0, 0, [])), (98, .getfield 137, 3, (7, 3, 0, 0, 0, [])), (101, .iload_n 1, 1, (1, 0, 0, 0, 0, [])), (102, .ishr, 1, (0, 0, 0, 0, 0, [])), (103, .iconst 1, 1, (0, 0, 0, 1, 0, [])), (104, .iand, 1, (0, 0, 0, 0, 0, []))]),
  (109, [(105, .ireturn, 1, (0, 0, 0, 0, 0, [])), (106, .bipush (-2), 2, (0, 0, 0, (-2), 0, [])), (108, .ireturn, 1, (0, 0, 0, 0, 0, []))])]
def zt_X8_step : List (Nat × List zv_E) := [
  (12, [(0, .aload_n 0, 1, (0, 0, 0, 0, 0, [])), (1, .getfield 19, 3, (8, 1, 2, 0, 0, [])), (4, .iload_n 1, 1, (1, 0, 0, 0, 0, [])), (5, .invokevirtual 103, 3, (22, 2, 1, 0, 0, [])), (8, .ifCond .ne 5, 3, (13, 0, 0, 0, 0, [])), (11, .iconst (-1), 1, (0, 0, 0, (-1), 0, []))]),
  (22, [(12, .ireturn, 1, (0, 0, 0, 0, 0, [])), (13, .aload_n 0, 1, (0, 0, 0, 0, 0, [])), (14, .getfield 52, 3, (8, 6, 2, 0, 0, [])), (17, .aload_n 0, 1, (0, 0, 0, 0, 0, [])), (18, .getfield 28, 3, (8, 2, 2, 0, 0, [])), (21, .getfield 107, 3, (6, 1, 2, 0, 0, []))]),
  (36, [(24, .invokevirtual 140, 3, (17, 2, 0, 0, 0, [])), (27, .aload_n 0, 1, (0, 0, 0, 0, 0, [])), (28, .getfield 28, 3, (8, 2, 2, 0, 0, [])), (31, .iload_n 1, 1, (1, 0, 0, 0, 0, [])), (32, .invokevirtual 144, 3, (56, 2, 1, 0, 0, [])), (35, .ifCond .eq 7, 3, (42, 0, 0, 0, 0, []))]),
  (44, [(38, .iconst 1, 1, (0, 0, 0, 1, 0, [])), (39, .goto 4, 3, (43, 0, 0, 0, 0, [])), (42, .iconst 0, 1, (0, 0, 0, 0, 0, [])), (43, .ireturn, 1, (0, 0, 0, 0, 0, []))])]
def zt_X8_round : List (Nat × List zv_E) := [
  (12, [(0, .aload_n 0, 1, (0, 0, 0, 0, 0, [])), (1, .getfield 52, 3, (8, 6, 2, 0, 0, [])), (4, .aload_n 0, 1, (0, 0, 0, 0, 0, [])), (5, .getfield 28, 3, (8, 2, 2, 0, 0, [])), (8, .getfield 107, 3, (6, 1, 2, 0, 0, [])), (11, .invokevirtual 140, 3, (17, 2, 0, 0, 0, []))]),
  (22, [(14, .aload_n 0, 1, (0, 0, 0, 0, 0, [])), (15, .getfield 28, 3, (8, 2, 2, 0, 0, [])), (18, .invokevirtual 147, 3, (57, 1, 1, 0, 0, [])), (21, .ireturn, 1, (0, 0, 0, 0, 0, []))])]
def zt_X8_setLink : List (Nat × List zv_E) := [
  (13, [(0, .aload_n 0, 1, (0, 0, 0, 0, 0, [])), (1, .getfield 19, 3, (8, 1, 2, 0, 0, [])), (4, .iload_n 1, 1, (1, 0, 0, 0, 0, [])), (5, .invokevirtual 103, 3, (22, 2, 1, 0, 0, [])), (8, .ifCond .eq 14, 3, (22, 0, 0, 0, 0, [])), (11, .aload_n 0, 1, (0, 0, 0, 0, 0, [])), (12, .getfield 19, 3, (8, 1, 2, 0, 0, []))]),
  (26, [(15, .iload_n 2, 1, (2, 0, 0, 0, 0, [])), (16, .invokevirtual 103, 3, (22, 2, 1, 0, 0, [])), (19, .ifCond .ne 5, 3, (24, 0, 0, 0, 0, [])), (22, .iconst (-1), 1, (0, 0, 0, (-1), 0, [])), (23, .ireturn, 1, (0, 0, 0, 0, 0, [])), (24, .iload_n 1, 1, (1, 0, 0, 0, 0, [])), (25, .iload_n 2, 1, (2, 0, 0, 0, 0, []))]),
  (40, [(26, .if_icmp .eq 13, 3, (39, 0, 0, 0, 0, [])), (29, .iload_n 3, 1, (3, 0, 0, 0, 0, [])), (30, .ifCond .lt 9, 3, (39, 0, 0, 0, 0, [])), (33, .iload_n 3, 1, (3, 0, 0, 0, 0, [])), (34, .bipush 9, 2, (0, 0, 0, 9, 0, [])), (36, .if_icmp .le 6, 3, (42, 0, 0, 0, 0, [])), (39, .bipush (-2), 2, (0, 0, 0, (-2), 0, []))]),
  (54, [(41, .ireturn, 1, (0, 0, 0, 0, 0, [])), (42, .aload_n 0, 1, (0, 0, 0, 0, 0, [])), (43, .getfield 52, 3, (8, 6, 2, 0, 0, [])), (46, .aload_n 0, 1, (0, 0, 0, 0, 0, [])), (47, .getfield 28, 3, (8, 2, 2, 0, 0, [])), (50, .getfield 107, 3, (6, 1, 2, 0, 0, [])), (53, .invokevirtual 140, 3, (17, 2, 0, 0, 0, []))]),
  (69, [(56, .aload_n 0, 1, (0, 0, 0, 0, 0, [])), (57, .getfield 28, 3, (8, 2, 2, 0, 0, [])), (60, .getfield 107, 3, (6, 1, 2, 0, 0, [])), (63, .iload_n 1, 1, (1, 0, 0, 0, 0, [])), (64, .iload_n 2, 1, (2, 0, 0, 0, 0, [])), (65, .invokevirtual 111, 3, (71, 3, 1, 0, 0, [])), (68, .istore 4, 2, (4, 0, 0, 0, 0, []))]),
  (81, [(70, .aload_n 0, 1, (0, 0, 0, 0, 0, [])), (71, .getfield 28, 3, (8, 2, 2, 0, 0, [])), (74, .iload_n 1, 1, (1, 0, 0, 0, 0, [])), (75, .iload_n 2, 1, (2, 0, 0, 0, 0, [])), (76, .iload_n 3, 1, (3, 0, 0, 0, 0, [])), (77, .invokevirtual 150, 3, (49, 4, 0, 0, 0, [])), (80, .iload 4, 2, (4, 0, 0, 0, 0, []))]),
  (83, [(82, .ireturn, 1, (0, 0, 0, 0, 0, []))])]
def zt_X8_turn : List (Nat × List zv_E) := [
  (12, [(0, .aload_n 0, 1, (0, 0, 0, 0, 0, [])), (1, .getfield 19, 3, (8, 1, 2, 0, 0, [])), (4, .iload_n 1, 1, (1, 0, 0, 0, 0, [])), (5, .invokevirtual 121, 3, (23, 2, 1, 0, 0, [])), (8, .ifCond .ne 5, 3, (13, 0, 0, 0, 0, [])), (11, .iconst (-1), 1, (0, 0, 0, (-1), 0, []))]),
  (22, [(12, .ireturn, 1, (0, 0, 0, 0, 0, [])), (13, .aload_n 0, 1, (0, 0, 0, 0, 0, [])), (14, .getfield 52, 3, (8, 6, 2, 0, 0, [])), (17, .aload_n 0, 1, (0, 0, 0, 0, 0, [])), (18, .getfield 28, 3, (8, 2, 2, 0, 0, [])), (21, .getfield 107, 3, (6, 1, 2, 0, 0, []))]),
  (36, [(24, .invokevirtual 140, 3, (17, 2, 0, 0, 0, [])), (27, .aload_n 0, 1, (0, 0, 0, 0, 0, [])), (28, .getfield 28, 3, (8, 2, 2, 0, 0, [])), (31, .getfield 107, 3, (6, 1, 2, 0, 0, [])), (34, .iload_n 1, 1, (1, 0, 0, 0, 0, [])), (35, .invokevirtual 154, 3, (72, 2, 0, 0, 0, []))]),
  (50, [(38, .aload_n 0, 1, (0, 0, 0, 0, 0, [])), (39, .getfield 28, 3, (8, 2, 2, 0, 0, [])), (42, .getfield 107, 3, (6, 1, 2, 0, 0, [])), (45, .getfield 137, 3, (7, 3, 0, 0, 0, [])), (48, .iload_n 1, 1, (1, 0, 0, 0, 0, [])), (49, .ishr, 1, (0, 0, 0, 0, 0, []))]),
  (53, [(50, .iconst 1, 1, (0, 0, 0, 1, 0, [])), (51, .iand, 1, (0, 0, 0, 0, 0, [])), (52, .ireturn, 1, (0, 0, 0, 0, 0, []))])]
def zt_X8_weigh : List (Nat × List zv_E) := [
  (12, [(0, .aload_n 0, 1, (0, 0, 0, 0, 0, [])), (1, .getfield 19, 3, (8, 1, 2, 0, 0, [])), (4, .iload_n 1, 1, (1, 0, 0, 0, 0, [])), (5, .invokevirtual 121, 3, (23, 2, 1, 0, 0, [])), (8, .ifCond .ne 5, 3, (13, 0, 0, 0, 0, [])), (11, .iconst (-1), 1, (0, 0, 0, (-1), 0, []))]),
  (20, [(12, .ireturn, 1, (0, 0, 0, 0, 0, [])), (13, .iload_n 2, 1, (2, 0, 0, 0, 0, [])), (14, .ifCond .lt 8, 3, (22, 0, 0, 0, 0, [])), (17, .iload_n 2, 1, (2, 0, 0, 0, 0, [])), (18, .iconst 5, 1, (0, 0, 0, 5, 0, [])), (19, .if_icmp .le 6, 3, (25, 0, 0, 0, 0, []))]),
  (31, [(22, .bipush (-2), 2, (0, 0, 0, (-2), 0, [])), (24, .ireturn, 1, (0, 0, 0, 0, 0, [])), (25, .aload_n 0, 1, (0, 0, 0, 0, 0, [])), (26, .getfield 52, 3, (8, 6, 2, 0, 0, [])), (29, .aload_n 0, 1, (0, 0, 0, 0, 0, [])), (30, .getfield 28, 3, (8, 2, 2, 0, 0, []))]),
  (47, [(33, .getfield 107, 3, (6, 1, 2, 0, 0, [])), (36, .invokevirtual 140, 3, (17, 2, 0, 0, 0, [])), (39, .aload_n 0, 1, (0, 0, 0, 0, 0, [])), (40, .getfield 28, 3, (8, 2, 2, 0, 0, [])), (43, .getfield 107, 3, (6, 1, 2, 0, 0, [])), (46, .getfield 134, 3, (7, 1, 2, 0, 0, []))]),
  (57, [(49, .iload_n 1, 1, (1, 0, 0, 0, 0, [])), (50, .iaload, 1, (0, 0, 0, 0, 0, [])), (51, .istore_n 3, 1, (3, 0, 0, 0, 0, [])), (52, .aload_n 0, 1, (0, 0, 0, 0, 0, [])), (53, .getfield 28, 3, (8, 2, 2, 0, 0, [])), (56, .iload_n 1, 1, (1, 0, 0, 0, 0, []))]),
  (63, [(57, .iload_n 2, 1, (2, 0, 0, 0, 0, [])), (58, .invokevirtual 158, 3, (50, 3, 0, 0, 0, [])), (61, .iload_n 3, 1, (3, 0, 0, 0, 0, [])), (62, .ireturn, 1, (0, 0, 0, 0, 0, []))])]
end
section
/-! ===== rows of the methods ===== -/
def zt_X8_add : List (Nat × List zv_E) := [
  (12, [(0, .aload_n 0, 1, (0, 0, 0, 0, 0, [])), (1, .getfield 19, 3, (8, 1, 2, 0, 0, [])), (4, .iload_n 1, 1, (1, 0, 0, 0, 0, [])), (5, .invokevirtual 103, 3, (22, 2, 1, 0, 0, [])), (8, .ifCond .ne 5, 3, (13, 0, 0, 0, 0, [])), (11, .iconst (-1), 1, (0, 0, 0, (-1), 0, []))]),
  (22, [(12, .ireturn, 1, (0, 0, 0, 0, 0, [])), (13, .aload_n 0, 1, (0, 0, 0, 0, 0, [])), (14, .getfield 52, 3, (8, 6, 2, 0, 0, [])), (17, .aload_n 0, 1, (0, 0, 0, 0, 0, [])), (18, .getfield 28, 3, (8, 2, 2, 0, 0, [])), (21, .getfield 107, 3, (6, 1, 2, 0, 0, []))]),
  (36, [(24, .invokevirtual 140, 3, (17, 2, 0, 0, 0, [])), (27, .aload_n 0, 1, (0, 0, 0, 0, 0, [])), (28, .getfield 28, 3, (8, 2, 2, 0, 0, [])), (31, .getfield 107, 3, (6, 1, 2, 0, 0, [])), (34, .iload_n 1, 1, (1, 0, 0, 0, 0, [])), (35, .invokevirtual 162, 3, (73, 2, 0, 0, 0, []))]),
  (50, [(38, .aload_n 0, 1, (0, 0, 0, 0, 0, [])), (39, .getfield 28, 3, (8, 2, 2, 0, 0, [])), (42, .getfield 107, 3, (6, 1, 2, 0, 0, [])), (45, .getfield 165, 3, (7, 4, 0, 0, 0, [])), (48, .iload_n 1, 1, (1, 0, 0, 0, 0, [])), (49, .ishr, 1, (0, 0, 0, 0, 0, []))]),
  (53, [(50, .iconst 1, 1, (0, 0, 0, 1, 0, [])), (51, .iand, 1, (0, 0, 0, 0, 0, [])), (52, .ireturn, 1, (0, 0, 0, 0, 0, []))])]
def zt_X8_setMode : List (Nat × List zv_E) := [
  (10, [(0, .iload_n 1, 1, (1, 0, 0, 0, 0, [])), (1, .ifCond .lt 8, 3, (9, 0, 0, 0, 0, [])), (4, .iload_n 1, 1, (1, 0, 0, 0, 0, [])), (5, .iconst 2, 1, (0, 0, 0, 2, 0, [])), (6, .if_icmp .le 6, 3, (12, 0, 0, 0, 0, [])), (9, .bipush (-2), 2, (0, 0, 0, (-2), 0, []))]),
  (21, [(11, .ireturn, 1, (0, 0, 0, 0, 0, [])), (12, .aload_n 0, 1, (0, 0, 0, 0, 0, [])), (13, .getfield 52, 3, (8, 6, 2, 0, 0, [])), (16, .aload_n 0, 1, (0, 0, 0, 0, 0, [])), (17, .getfield 28, 3, (8, 2, 2, 0, 0, [])), (20, .getfield 107, 3, (6, 1, 2, 0, 0, []))]),
  (37, [(23, .invokevirtual 140, 3, (17, 2, 0, 0, 0, [])), (26, .aload_n 0, 1, (0, 0, 0, 0, 0, [])), (27, .getfield 28, 3, (8, 2, 2, 0, 0, [])), (30, .getfield 107, 3, (6, 1, 2, 0, 0, [])), (33, .getfield 168, 3, (7, 5, 0, 0, 0, [])), (36, .istore_n 2, 1, (2, 0, 0, 0, 0, []))]),
  (47, [(37, .aload_n 0, 1, (0, 0, 0, 0, 0, [])), (38, .getfield 28, 3, (8, 2, 2, 0, 0, [])), (41, .iload_n 1, 1, (1, 0, 0, 0, 0, [])), (42, .invokevirtual 171, 3, (51, 2, 0, 0, 0, [])), (45, .iload_n 2, 1, (2, 0, 0, 0, 0, [])), (46, .ireturn, 1, (0, 0, 0, 0, 0, []))])]
def zt_X8_undo : List (Nat × List zv_E) := [
  (13, [(0, .aload_n 0, 1, (0, 0, 0, 0, 0, [])), (1, .getfield 52, 3, (8, 6, 2, 0, 0, [])), (4, .getfield 97, 3, (2, 0, 0, 0, 0, [])), (7, .ifCond .ne 6, 3, (13, 0, 0, 0, 0, [])), (10, .bipush (-3), 2, (0, 0, 0, (-3), 0, [])), (12, .ireturn, 1, (0, 0, 0, 0, 0, []))]),
  (25, [(13, .aload_n 0, 1, (0, 0, 0, 0, 0, [])), (14, .getfield 28, 3, (8, 2, 2, 0, 0, [])), (17, .aload_n 0, 1, (0, 0, 0, 0, 0, [])), (18, .getfield 52, 3, (8, 6, 2, 0, 0, [])), (21, .invokevirtual 174, 3, (18, 1, 3, 0, 0, [])), (24, .invokevirtual 178, 3, (47, 2, 0, 0, 0, []))]),
  (35, [(27, .aload_n 0, 1, (0, 0, 0, 0, 0, [])), (28, .getfield 52, 3, (8, 6, 2, 0, 0, [])), (31, .getfield 97, 3, (2, 0, 0, 0, 0, [])), (34, .ireturn, 1, (0, 0, 0, 0, 0, []))])]
def zt_X8_choice : List (Nat × List zv_E) := [
  (14, [(0, .aload_n 0, 1, (0, 0, 0, 0, 0, [])), (1, .getfield 19, 3, (8, 1, 2, 0, 0, [])), (4, .iload_n 1, 1, (1, 0, 0, 0, 0, [])), (5, .invokevirtual 103, 3, (22, 2, 1, 0, 0, [])), (8, .ifCond .ne 5, 3, (13, 0, 0, 0, 0, [])), (11, .iconst (-1), 1, (0, 0, 0, (-1), 0, [])), (12, .ireturn, 1, (0, 0, 0, 0, 0, [])), (13, .iload_n 2, 1, (2, 0, 0, 0, 0, []))]),
  (28, [(14, .ifCond .lt 17, 3, (31, 0, 0, 0, 0, [])), (17, .iload_n 2, 1, (2, 0, 0, 0, 0, [])), (18, .iconst 1, 1, (0, 0, 0, 1, 0, [])), (19, .if_icmp .gt 12, 3, (31, 0, 0, 0, 0, [])), (22, .iload_n 3, 1, (3, 0, 0, 0, 0, [])), (23, .ifCond .lt 8, 3, (31, 0, 0, 0, 0, [])), (26, .iload_n 3, 1, (3, 0, 0, 0, 0, [])), (27, .iconst 2, 1, (0, 0, 0, 2, 0, []))]),
  (43, [(28, .if_icmp .le 6, 3, (34, 0, 0, 0, 0, [])), (31, .bipush (-2), 2, (0, 0, 0, (-2), 0, [])), (33, .ireturn, 1, (0, 0, 0, 0, 0, [])), (34, .iload_n 2, 1, (2, 0, 0, 0, 0, [])), (35, .ifCond .ne 17, 3, (52, 0, 0, 0, 0, [])), (38, .aload_n 0, 1, (0, 0, 0, 0, 0, [])), (39, .getfield 28, 3, (8, 2, 2, 0, 0, [])), (42, .getfield 107, 3, (6, 1, 2, 0, 0, []))]),
  (61, [(45, .iload_n 1, 1, (1, 0, 0, 0, 0, [])), (46, .invokevirtual 181, 3, (74, 2, 1, 0, 0, [])), (49, .goto 14, 3, (63, 0, 0, 0, 0, [])), (52, .aload_n 0, 1, (0, 0, 0, 0, 0, [])), (53, .getfield 28, 3, (8, 2, 2, 0, 0, [])), (56, .getfield 107, 3, (6, 1, 2, 0, 0, [])), (59, .iload_n 1, 1, (1, 0, 0, 0, 0, [])), (60, .invokevirtual 185, 3, (75, 2, 1, 0, 0, []))]),
  (78, [(63, .istore 4, 2, (4, 0, 0, 0, 0, [])), (65, .iload 4, 2, (4, 0, 0, 0, 0, [])), (67, .ifCond .ne 6, 3, (73, 0, 0, 0, 0, [])), (70, .bipush (-9), 2, (0, 0, 0, (-9), 0, [])), (72, .ireturn, 1, (0, 0, 0, 0, 0, [])), (73, .iload_n 3, 1, (3, 0, 0, 0, 0, [])), (74, .ifCond .ne 9, 3, (83, 0, 0, 0, 0, [])), (77, .iload 4, 2, (4, 0, 0, 0, 0, []))]),
  (94, [(79, .invokestatic 188, 3, (115, 1, 1, 0, 0, [])), (82, .ireturn, 1, (0, 0, 0, 0, 0, [])), (83, .iload_n 3, 1, (3, 0, 0, 0, 0, [])), (84, .iconst 1, 1, (0, 0, 0, 1, 0, [])), (85, .if_icmp .ne 11, 3, (96, 0, 0, 0, 0, [])), (88, .iload 4, 2, (4, 0, 0, 0, 0, [])), (90, .invokestatic 191, 3, (116, 1, 1, 0, 0, [])), (93, .goto 8, 3, (101, 0, 0, 0, 0, []))]),
  (102, [(96, .iload 4, 2, (4, 0, 0, 0, 0, [])), (98, .bipush 31, 2, (0, 0, 0, 31, 0, [])), (100, .iand, 1, (0, 0, 0, 0, 0, [])), (101, .ireturn, 1, (0, 0, 0, 0, 0, []))])]
def zt_X8_heard : List (Nat × List zv_E) := [
  (12, [(0, .aload_n 0, 1, (0, 0, 0, 0, 0, [])), (1, .getfield 19, 3, (8, 1, 2, 0, 0, [])), (4, .iload_n 1, 1, (1, 0, 0, 0, 0, [])), (5, .invokevirtual 103, 3, (22, 2, 1, 0, 0, [])), (8, .ifCond .ne 5, 3, (13, 0, 0, 0, 0, [])), (11, .iconst (-1), 1, (0, 0, 0, (-1), 0, []))]),
  (22, [(12, .ireturn, 1, (0, 0, 0, 0, 0, [])), (13, .aload_n 0, 1, (0, 0, 0, 0, 0, [])), (14, .getfield 28, 3, (8, 2, 2, 0, 0, [])), (17, .iload_n 1, 1, (1, 0, 0, 0, 0, [])), (18, .invokevirtual 194, 3, (59, 2, 1, 0, 0, [])), (21, .ireturn, 1, (0, 0, 0, 0, 0, []))])]
def zt_X8_tells : List (Nat × List zv_E) := [
  (13, [(0, .aload_n 0, 1, (0, 0, 0, 0, 0, [])), (1, .getfield 19, 3, (8, 1, 2, 0, 0, [])), (4, .iload_n 1, 1, (1, 0, 0, 0, 0, [])), (5, .invokevirtual 103, 3, (22, 2, 1, 0, 0, [])), (8, .ifCond .eq 14, 3, (22, 0, 0, 0, 0, [])), (11, .aload_n 0, 1, (0, 0, 0, 0, 0, [])), (12, .getfield 19, 3, (8, 1, 2, 0, 0, []))]),
  (26, [(15, .iload_n 2, 1, (2, 0, 0, 0, 0, [])), (16, .invokevirtual 103, 3, (22, 2, 1, 0, 0, [])), (19, .ifCond .ne 5, 3, (24, 0, 0, 0, 0, [])), (22, .iconst (-1), 1, (0, 0, 0, (-1), 0, [])), (23, .ireturn, 1, (0, 0, 0, 0, 0, [])), (24, .aload_n 0, 1, (0, 0, 0, 0, 0, [])), (25, .getfield 28, 3, (8, 2, 2, 0, 0, []))]),
  (41, [(28, .getfield 107, 3, (6, 1, 2, 0, 0, [])), (31, .iload_n 1, 1, (1, 0, 0, 0, 0, [])), (32, .invokevirtual 181, 3, (74, 2, 1, 0, 0, [])), (35, .istore_n 3, 1, (3, 0, 0, 0, 0, [])), (36, .iload_n 3, 1, (3, 0, 0, 0, 0, [])), (37, .ifCond .eq 27, 3, (64, 0, 0, 0, 0, [])), (40, .aload_n 0, 1, (0, 0, 0, 0, 0, []))]),
  (54, [(41, .getfield 19, 3, (8, 1, 2, 0, 0, [])), (44, .iload_n 1, 1, (1, 0, 0, 0, 0, [])), (45, .iload_n 2, 1, (2, 0, 0, 0, 0, [])), (46, .invokevirtual 197, 3, (25, 3, 1, 0, 0, [])), (49, .iload_n 3, 1, (3, 0, 0, 0, 0, [])), (50, .invokestatic 191, 3, (116, 1, 1, 0, 0, [])), (53, .ishr, 1, (0, 0, 0, 0, 0, []))]),
  (65, [(54, .iconst 1, 1, (0, 0, 0, 1, 0, [])), (55, .iand, 1, (0, 0, 0, 0, 0, [])), (56, .iconst 1, 1, (0, 0, 0, 1, 0, [])), (57, .if_icmp .ne 7, 3, (64, 0, 0, 0, 0, [])), (60, .iconst 1, 1, (0, 0, 0, 1, 0, [])), (61, .goto 4, 3, (65, 0, 0, 0, 0, [])), (64, .iconst 0, 1, (0, 0, 0, 0, 0, []))]),
  (66, [(65, .ireturn, 1, (0, 0, 0, 0, 0, []))])]
def zt_X8_mesh : List (Nat × List zv_E) := [
  (12, [(0, .aload_n 0, 1, (0, 0, 0, 0, 0, [])), (1, .getfield 19, 3, (8, 1, 2, 0, 0, [])), (4, .iload_n 1, 1, (1, 0, 0, 0, 0, [])), (5, .invokevirtual 103, 3, (22, 2, 1, 0, 0, [])), (8, .ifCond .ne 5, 3, (13, 0, 0, 0, 0, [])), (11, .iconst (-1), 1, (0, 0, 0, (-1), 0, []))]),
  (20, [(12, .ireturn, 1, (0, 0, 0, 0, 0, [])), (13, .aload_n 0, 1, (0, 0, 0, 0, 0, [])), (14, .getfield 28, 3, (8, 2, 2, 0, 0, [])), (17, .iload_n 1, 1, (1, 0, 0, 0, 0, [])), (18, .aload_n 0, 1, (0, 0, 0, 0, 0, [])), (19, .getfield 28, 3, (8, 2, 2, 0, 0, []))]),
  (32, [(22, .getfield 200, 3, (6, 2, 2, 0, 0, [])), (25, .iload_n 1, 1, (1, 0, 0, 0, 0, [])), (26, .iaload, 1, (0, 0, 0, 0, 0, [])), (27, .aload_n 0, 1, (0, 0, 0, 0, 0, [])), (28, .getfield 28, 3, (8, 2, 2, 0, 0, [])), (31, .getfield 107, 3, (6, 1, 2, 0, 0, []))]),
  (44, [(34, .getfield 137, 3, (7, 3, 0, 0, 0, [])), (37, .iand, 1, (0, 0, 0, 0, 0, [])), (38, .invokevirtual 203, 3, (61, 3, 1, 0, 0, [])), (41, .istore_n 2, 1, (2, 0, 0, 0, 0, [])), (42, .iload_n 2, 1, (2, 0, 0, 0, 0, [])), (43, .iconst (-1), 1, (0, 0, 0, (-1), 0, []))]),
  (54, [(44, .if_icmp .ne 8, 3, (52, 0, 0, 0, 0, [])), (47, .bipush (-9), 2, (0, 0, 0, (-9), 0, [])), (49, .goto 4, 3, (53, 0, 0, 0, 0, [])), (52, .iload_n 2, 1, (2, 0, 0, 0, 0, [])), (53, .ireturn, 1, (0, 0, 0, 0, 0, []))])]
def zt_X8_leaves : List (Nat × List zv_E) := [
  (12, [(0, .aload_n 0, 1, (0, 0, 0, 0, 0, [])), (1, .getfield 19, 3, (8, 1, 2, 0, 0, [])), (4, .iload_n 1, 1, (1, 0, 0, 0, 0, [])), (5, .invokevirtual 103, 3, (22, 2, 1, 0, 0, [])), (8, .ifCond .ne 5, 3, (13, 0, 0, 0, 0, [])), (11, .iconst (-1), 1, (0, 0, 0, (-1), 0, []))]),
  (20, [(12, .ireturn, 1, (0, 0, 0, 0, 0, [])), (13, .iload_n 2, 1, (2, 0, 0, 0, 0, [])), (14, .ifCond .lt 8, 3, (22, 0, 0, 0, 0, [])), (17, .iload_n 2, 1, (2, 0, 0, 0, 0, [])), (18, .iconst 1, 1, (0, 0, 0, 1, 0, [])), (19, .if_icmp .le 6, 3, (25, 0, 0, 0, 0, []))]),
  (31, [(22, .bipush (-2), 2, (0, 0, 0, (-2), 0, [])), (24, .ireturn, 1, (0, 0, 0, 0, 0, [])), (25, .aload_n 0, 1, (0, 0, 0, 0, 0, [])), (26, .getfield 28, 3, (8, 2, 2, 0, 0, [])), (29, .iload_n 1, 1, (1, 0, 0, 0, 0, [])), (30, .invokevirtual 206, 3, (64, 2, 1, 0, 0, []))]),
  (42, [(33, .istore_n 3, 1, (3, 0, 0, 0, 0, [])), (34, .iload_n 3, 1, (3, 0, 0, 0, 0, [])), (35, .iconst (-1), 1, (0, 0, 0, (-1), 0, [])), (36, .if_icmp .ne 6, 3, (42, 0, 0, 0, 0, [])), (39, .bipush (-9), 2, (0, 0, 0, (-9), 0, [])), (41, .ireturn, 1, (0, 0, 0, 0, 0, []))]),
  (52, [(42, .iload_n 2, 1, (2, 0, 0, 0, 0, [])), (43, .ifCond .ne 7, 3, (50, 0, 0, 0, 0, [])), (46, .iload_n 3, 1, (3, 0, 0, 0, 0, [])), (47, .goto 10, 3, (57, 0, 0, 0, 0, [])), (50, .aload_n 0, 1, (0, 0, 0, 0, 0, [])), (51, .getfield 28, 3, (8, 2, 2, 0, 0, []))]),
  (58, [(54, .getfield 209, 3, (6, 3, 0, 0, 0, [])), (57, .ireturn, 1, (0, 0, 0, 0, 0, []))])]
def zt_X8_run : List (Nat × List zv_E) := [
  (15, [(0, .iload_n 1, 1, (1, 0, 0, 0, 0, [])), (1, .ifCond .lt 17, 3, (18, 0, 0, 0, 0, [])), (4, .iload_n 1, 1, (1, 0, 0, 0, 0, [])), (5, .iconst 1, 1, (0, 0, 0, 1, 0, [])), (6, .if_icmp .gt 12, 3, (18, 0, 0, 0, 0, [])), (9, .iload_n 2, 1, (2, 0, 0, 0, 0, [])), (10, .ifCond .lt 8, 3, (18, 0, 0, 0, 0, [])), (13, .iload_n 2, 1, (2, 0, 0, 0, 0, [])), (14, .iconst 3, 1, (0, 0, 0, 3, 0, []))]),
  (33, [(15, .if_icmp .le 6, 3, (21, 0, 0, 0, 0, [])), (18, .bipush (-2), 2, (0, 0, 0, (-2), 0, [])), (20, .ireturn, 1, (0, 0, 0, 0, 0, [])), (21, .aload_n 0, 1, (0, 0, 0, 0, 0, [])), (22, .getfield 32, 3, (8, 3, 2, 0, 0, [])), (25, .aload_n 0, 1, (0, 0, 0, 0, 0, [])), (26, .getfield 28, 3, (8, 2, 2, 0, 0, [])), (29, .invokevirtual 212, 3, (48, 2, 0, 0, 0, [])), (32, .iload_n 1, 1, (1, 0, 0, 0, 0, []))]),
  (52, [(33, .iconst 1, 1, (0, 0, 0, 1, 0, [])), (34, .if_icmp .ne 13, 3, (47, 0, 0, 0, 0, [])), (37, .aload_n 0, 1, (0, 0, 0, 0, 0, [])), (38, .getfield 32, 3, (8, 3, 2, 0, 0, [])), (41, .getfield 107, 3, (6, 1, 2, 0, 0, [])), (44, .invokevirtual 216, 3, (70, 1, 0, 0, 0, [])), (47, .aload_n 0, 1, (0, 0, 0, 0, 0, [])), (48, .getfield 38, 3, (8, 4, 2, 0, 0, [])), (51, .aload_n 0, 1, (0, 0, 0, 0, 0, []))]),
  (93, [(52, .getfield 32, 3, (8, 3, 2, 0, 0, [])), (55, .invokevirtual 219, 3, (3, 2, 0, 0, 0, [])), (58, .iload_n 2, 1, (2, 0, 0, 0, 0, [])), (59, .tableswitch 81 0 2 #[25, 33, 57], 25, (140, 0, 0, 0, 0, [(0, 84), (1, 92), (2, 116)])), (84, .aload_n 0, 1, (0, 0, 0, 0, 0, [])), (85, .getfield 38, 3, (8, 4, 2, 0, 0, [])), (88, .getfield 222, 3, (0, 0, 0, 0, 0, [])), (91, .ireturn, 1, (0, 0, 0, 0, 0, [])), (92, .aload_n 0, 1, (0, 0, 0, 0, 0, []))]),
  (113, [(93, .getfield 38, 3, (8, 4, 2, 0, 0, [])), (96, .getfield 222, 3, (0, 0, 0, 0, 0, [])), (99, .iconst 2, 1, (0, 0, 0, 2, 0, [])), (100, .if_icmp .ne 8, 3, (108, 0, 0, 0, 0, [])), (103, .bipush (-9), 2, (0, 0, 0, (-9), 0, [])), (105, .goto 10, 3, (115, 0, 0, 0, 0, [])), (108, .aload_n 0, 1, (0, 0, 0, 0, 0, [])), (109, .getfield 38, 3, (8, 4, 2, 0, 0, [])), (112, .getfield 225, 3, (0, 1, 0, 0, 0, []))]),
  (133, [(115, .ireturn, 1, (0, 0, 0, 0, 0, [])), (116, .aload_n 0, 1, (0, 0, 0, 0, 0, [])), (117, .getfield 38, 3, (8, 4, 2, 0, 0, [])), (120, .getfield 222, 3, (0, 0, 0, 0, 0, [])), (123, .iconst 2, 1, (0, 0, 0, 2, 0, [])), (124, .if_icmp .ne 8, 3, (132, 0, 0, 0, 0, [])), (127, .bipush (-9), 2, (0, 0, 0, (-9), 0, [])), (129, .goto 10, 3, (139, 0, 0, 0, 0, [])), (132, .aload_n 0, 1, (0, 0, 0, 0, 0, []))]),
  (152, [(133, .getfield 38, 3, (8, 4, 2, 0, 0, [])), (136, .getfield 228, 3, (0, 2, 0, 0, 0, [])), (139, .ireturn, 1, (0, 0, 0, 0, 0, [])), (140, .aload_n 0, 1, (0, 0, 0, 0, 0, [])), (141, .getfield 38, 3, (8, 4, 2, 0, 0, [])), (144, .getfield 222, 3, (0, 0, 0, 0, 0, [])), (147, .ifCond .ne 13, 3, (160, 0, 0, 0, 0, [])), (150, .aload_n 0, 1, (0, 0, 0, 0, 0, [])), (151, .getfield 32, 3, (8, 3, 2, 0, 0, []))]),
  (163, [(154, .invokevirtual 231, 3, (66, 1, 1, 0, 0, [])), (157, .goto 5, 3, (162, 0, 0, 0, 0, [])), (160, .bipush (-9), 2, (0, 0, 0, (-9), 0, [])), (162, .ireturn, 1, (0, 0, 0, 0, 0, []))])]
def zt_X8_orders : List (Nat × List zv_E) := [
  (12, [(0, .iload_n 1, 1, (1, 0, 0, 0, 0, [])), (1, .ifCond .lt 8, 3, (9, 0, 0, 0, 0, [])), (4, .iload_n 1, 1, (1, 0, 0, 0, 0, [])), (5, .iconst 2, 1, (0, 0, 0, 2, 0, [])), (6, .if_icmp .le 6, 3, (12, 0, 0, 0, 0, [])), (9, .bipush (-2), 2, (0, 0, 0, (-2), 0, [])), (11, .ireturn, 1, (0, 0, 0, 0, 0, []))]),
  (25, [(12, .aload_n 0, 1, (0, 0, 0, 0, 0, [])), (13, .getfield 32, 3, (8, 3, 2, 0, 0, [])), (16, .aload_n 0, 1, (0, 0, 0, 0, 0, [])), (17, .getfield 28, 3, (8, 2, 2, 0, 0, [])), (20, .invokevirtual 212, 3, (48, 2, 0, 0, 0, [])), (23, .aload_n 0, 1, (0, 0, 0, 0, 0, [])), (24, .getfield 45, 3, (8, 5, 2, 0, 0, []))]),
  (40, [(27, .aload_n 0, 1, (0, 0, 0, 0, 0, [])), (28, .getfield 32, 3, (8, 3, 2, 0, 0, [])), (31, .invokevirtual 234, 3, (9, 2, 0, 0, 0, [])), (34, .iload_n 1, 1, (1, 0, 0, 0, 0, [])), (35, .ifCond .ne 11, 3, (46, 0, 0, 0, 0, [])), (38, .aload_n 0, 1, (0, 0, 0, 0, 0, [])), (39, .getfield 45, 3, (8, 5, 2, 0, 0, []))]),
  (53, [(42, .getfield 237, 3, (1, 0, 0, 0, 0, [])), (45, .ireturn, 1, (0, 0, 0, 0, 0, [])), (46, .iload_n 1, 1, (1, 0, 0, 0, 0, [])), (47, .iconst 1, 1, (0, 0, 0, 1, 0, [])), (48, .if_icmp .ne 11, 3, (59, 0, 0, 0, 0, [])), (51, .aload_n 0, 1, (0, 0, 0, 0, 0, [])), (52, .getfield 45, 3, (8, 5, 2, 0, 0, []))]),
  (70, [(55, .getfield 240, 3, (1, 1, 0, 0, 0, [])), (58, .ireturn, 1, (0, 0, 0, 0, 0, [])), (59, .aload_n 0, 1, (0, 0, 0, 0, 0, [])), (60, .getfield 45, 3, (8, 5, 2, 0, 0, [])), (63, .getfield 240, 3, (1, 1, 0, 0, 0, [])), (66, .ifCond .ne 8, 3, (74, 0, 0, 0, 0, [])), (69, .bipush (-9), 2, (0, 0, 0, (-9), 0, []))]),
  (82, [(71, .goto 10, 3, (81, 0, 0, 0, 0, [])), (74, .aload_n 0, 1, (0, 0, 0, 0, 0, [])), (75, .getfield 45, 3, (8, 5, 2, 0, 0, [])), (78, .getfield 243, 3, (1, 2, 0, 0, 0, [])), (81, .ireturn, 1, (0, 0, 0, 0, 0, []))])]
def zt_X8_healed : List (Nat × List zv_E) := [
  (13, [(0, .iload_n 1, 1, (1, 0, 0, 0, 0, [])), (1, .ifCond .lt 8, 3, (9, 0, 0, 0, 0, [])), (4, .iload_n 1, 1, (1, 0, 0, 0, 0, [])), (5, .iconst 1, 1, (0, 0, 0, 1, 0, [])), (6, .if_icmp .le 6, 3, (12, 0, 0, 0, 0, [])), (9, .bipush (-2), 2, (0, 0, 0, (-2), 0, [])), (11, .ireturn, 1, (0, 0, 0, 0, 0, [])), (12, .aload_n 0, 1, (0, 0, 0, 0, 0, []))]),
  (27, [(13, .getfield 32, 3, (8, 3, 2, 0, 0, [])), (16, .aload_n 0, 1, (0, 0, 0, 0, 0, [])), (17, .getfield 28, 3, (8, 2, 2, 0, 0, [])), (20, .invokevirtual 212, 3, (48, 2, 0, 0, 0, [])), (23, .iconst 0, 1, (0, 0, 0, 0, 0, [])), (24, .istore_n 2, 1, (2, 0, 0, 0, 0, [])), (25, .iload_n 2, 1, (2, 0, 0, 0, 0, [])), (26, .aload_n 0, 1, (0, 0, 0, 0, 0, []))]),
  (41, [(27, .getfield 19, 3, (8, 1, 2, 0, 0, [])), (30, .getfield 246, 3, (3, 0, 0, 0, 0, [])), (33, .if_icmp .gt 66, 3, (99, 0, 0, 0, 0, [])), (36, .iconst 0, 1, (0, 0, 0, 0, 0, [])), (37, .istore_n 3, 1, (3, 0, 0, 0, 0, [])), (38, .iload_n 3, 1, (3, 0, 0, 0, 0, [])), (39, .iconst 1, 1, (0, 0, 0, 1, 0, [])), (40, .aload_n 0, 1, (0, 0, 0, 0, 0, []))]),
  (59, [(41, .getfield 19, 3, (8, 1, 2, 0, 0, [])), (44, .getfield 246, 3, (3, 0, 0, 0, 0, [])), (47, .ishl, 1, (0, 0, 0, 0, 0, [])), (48, .if_icmp .ge 45, 3, (93, 0, 0, 0, 0, [])), (51, .aload_n 0, 1, (0, 0, 0, 0, 0, [])), (52, .getfield 32, 3, (8, 3, 2, 0, 0, [])), (55, .getfield 107, 3, (6, 1, 2, 0, 0, [])), (58, .iload_n 3, 1, (3, 0, 0, 0, 0, []))]),
  (75, [(59, .putfield 165, 3, (7, 4, 0, 0, 0, [])), (62, .iload_n 3, 1, (3, 0, 0, 0, 0, [])), (63, .invokestatic 249, 3, (0, 1, 1, 0, 0, [])), (66, .iload_n 2, 1, (2, 0, 0, 0, 0, [])), (67, .if_icmp .ne 20, 3, (87, 0, 0, 0, 0, [])), (70, .aload_n 0, 1, (0, 0, 0, 0, 0, [])), (71, .invokevirtual 254, 3, (121, 1, 1, 0, 0, [])), (74, .ifCond .eq 13, 3, (87, 0, 0, 0, 0, []))]),
  (91, [(77, .iload_n 1, 1, (1, 0, 0, 0, 0, [])), (78, .ifCond .ne 7, 3, (85, 0, 0, 0, 0, [])), (81, .iload_n 2, 1, (2, 0, 0, 0, 0, [])), (82, .goto 4, 3, (86, 0, 0, 0, 0, [])), (85, .iload_n 3, 1, (3, 0, 0, 0, 0, [])), (86, .ireturn, 1, (0, 0, 0, 0, 0, [])), (87, .iinc 3 1, 3, (3, 0, 0, 1, 0, [])), (90, .goto (-52), 3, (38, 0, 0, 0, 0, []))]),
  (102, [(93, .iinc 2 1, 3, (2, 0, 0, 1, 0, [])), (96, .goto (-71), 3, (25, 0, 0, 0, 0, [])), (99, .bipush (-9), 2, (0, 0, 0, (-9), 0, [])), (101, .ireturn, 1, (0, 0, 0, 0, 0, []))])]
def zt_X8_judge : List (Nat × List zv_E) := [
  (12, [(0, .iload_n 1, 1, (1, 0, 0, 0, 0, [])), (1, .iconst 1, 1, (0, 0, 0, 1, 0, [])), (2, .if_icmp .lt 24, 3, (26, 0, 0, 0, 0, [])), (5, .iload_n 1, 1, (1, 0, 0, 0, 0, [])), (6, .iconst 4, 1, (0, 0, 0, 4, 0, [])), (7, .if_icmp .gt 19, 3, (26, 0, 0, 0, 0, [])), (10, .lload_n 2, 1, (2, 0, 0, 0, 0, [])), (11, .lconst 0, 1, (0, 0, 0, 0, 0, []))]),
  (24, [(12, .lcmp, 1, (0, 0, 0, 0, 0, [])), (13, .ifCond .lt 13, 3, (26, 0, 0, 0, 0, [])), (16, .lload_n 2, 1, (2, 0, 0, 0, 0, [])), (17, .getstatic 258, 3, (1000001, 0, 0, 0, 0, [])), (20, .iload_n 1, 1, (1, 0, 0, 0, 0, [])), (21, .laload, 1, (0, 0, 0, 0, 0, [])), (22, .lcmp, 1, (0, 0, 0, 0, 0, [])), (23, .ifCond .lt 6, 3, (29, 0, 0, 0, 0, []))]),
  (41, [(26, .bipush (-2), 2, (0, 0, 0, (-2), 0, [])), (28, .ireturn, 1, (0, 0, 0, 0, 0, [])), (29, .aload_n 0, 1, (0, 0, 0, 0, 0, [])), (30, .getfield 32, 3, (8, 3, 2, 0, 0, [])), (33, .aload_n 0, 1, (0, 0, 0, 0, 0, [])), (34, .getfield 28, 3, (8, 2, 2, 0, 0, [])), (37, .invokevirtual 212, 3, (48, 2, 0, 0, 0, [])), (40, .iconst 0, 1, (0, 0, 0, 0, 0, []))]),
  (55, [(41, .istore 4, 2, (4, 0, 0, 0, 0, [])), (43, .iload 4, 2, (4, 0, 0, 0, 0, [])), (45, .iload_n 1, 1, (1, 0, 0, 0, 0, [])), (46, .if_icmp .ge 47, 3, (93, 0, 0, 0, 0, [])), (49, .getstatic 258, 3, (1000001, 0, 0, 0, 0, [])), (52, .iload_n 1, 1, (1, 0, 0, 0, 0, [])), (53, .iconst 1, 1, (0, 0, 0, 1, 0, [])), (54, .isub, 1, (0, 0, 0, 0, 0, []))]),
  (66, [(55, .iload 4, 2, (4, 0, 0, 0, 0, [])), (57, .isub, 1, (0, 0, 0, 0, 0, [])), (58, .laload, 1, (0, 0, 0, 0, 0, [])), (59, .lstore 5, 2, (5, 0, 0, 0, 0, [])), (61, .lload 5, 2, (5, 0, 0, 0, 0, [])), (63, .lconst 1, 1, (0, 0, 0, 0, 1, [])), (64, .lcmp, 1, (0, 0, 0, 0, 0, [])), (65, .ifCond .lt 19, 3, (84, 0, 0, 0, 0, []))]),
  (79, [(68, .aload_n 0, 1, (0, 0, 0, 0, 0, [])), (69, .lload_n 2, 1, (2, 0, 0, 0, 0, [])), (70, .lload 5, 2, (5, 0, 0, 0, 0, [])), (72, .ldiv, 1, (0, 0, 0, 0, 0, [])), (73, .ldc2_w 262, 3, (0, 0, 0, 0, 10000, [])), (76, .lrem, 1, (0, 0, 0, 0, 0, [])), (77, .l2i, 1, (0, 0, 0, 0, 0, [])), (78, .invokevirtual 264, 3, (124, 2, 1, 0, 0, []))]),
  (96, [(81, .ifCond .ne 6, 3, (87, 0, 0, 0, 0, [])), (84, .iload 4, 2, (4, 0, 0, 0, 0, [])), (86, .ireturn, 1, (0, 0, 0, 0, 0, [])), (87, .iinc 4 1, 3, (4, 0, 0, 1, 0, [])), (90, .goto (-47), 3, (43, 0, 0, 0, 0, [])), (93, .bipush (-9), 2, (0, 0, 0, (-9), 0, [])), (95, .ireturn, 1, (0, 0, 0, 0, 0, []))])]
def zt_X8_see : List (Nat × List zv_E) := [
  (13, [(0, .aload_n 0, 1, (0, 0, 0, 0, 0, [])), (1, .getfield 19, 3, (8, 1, 2, 0, 0, [])), (4, .iload_n 1, 1, (1, 0, 0, 0, 0, [])), (5, .invokevirtual 103, 3, (22, 2, 1, 0, 0, [])), (8, .ifCond .eq 14, 3, (22, 0, 0, 0, 0, [])), (11, .aload_n 0, 1, (0, 0, 0, 0, 0, [])), (12, .getfield 19, 3, (8, 1, 2, 0, 0, []))]),
  (26, [(15, .iload_n 2, 1, (2, 0, 0, 0, 0, [])), (16, .invokevirtual 121, 3, (23, 2, 1, 0, 0, [])), (19, .ifCond .ne 5, 3, (24, 0, 0, 0, 0, [])), (22, .iconst (-1), 1, (0, 0, 0, (-1), 0, [])), (23, .ireturn, 1, (0, 0, 0, 0, 0, [])), (24, .iload_n 3, 1, (3, 0, 0, 0, 0, [])), (25, .ifCond .lt 8, 3, (33, 0, 0, 0, 0, []))]),
  (38, [(28, .iload_n 3, 1, (3, 0, 0, 0, 0, [])), (29, .iconst 1, 1, (0, 0, 0, 1, 0, [])), (30, .if_icmp .le 6, 3, (36, 0, 0, 0, 0, [])), (33, .bipush (-2), 2, (0, 0, 0, (-2), 0, [])), (35, .ireturn, 1, (0, 0, 0, 0, 0, [])), (36, .aload_n 0, 1, (0, 0, 0, 0, 0, [])), (37, .getfield 70, 3, (8, 9, 2, 0, 0, []))]),
  (53, [(40, .getfield 267, 3, (5, 0, 0, 0, 0, [])), (43, .bipush 6, 2, (0, 0, 0, 6, 0, [])), (45, .if_icmp .lt 6, 3, (51, 0, 0, 0, 0, [])), (48, .bipush (-4), 2, (0, 0, 0, (-4), 0, [])), (50, .ireturn, 1, (0, 0, 0, 0, 0, [])), (51, .aload_n 0, 1, (0, 0, 0, 0, 0, [])), (52, .getfield 70, 3, (8, 9, 2, 0, 0, []))]),
  (66, [(55, .iload_n 1, 1, (1, 0, 0, 0, 0, [])), (56, .iload_n 2, 1, (2, 0, 0, 0, 0, [])), (57, .iload_n 3, 1, (3, 0, 0, 0, 0, [])), (58, .invokevirtual 268, 3, (43, 4, 0, 0, 0, [])), (61, .aload_n 0, 1, (0, 0, 0, 0, 0, [])), (62, .getfield 70, 3, (8, 9, 2, 0, 0, [])), (65, .getfield 267, 3, (5, 0, 0, 0, 0, []))]),
  (69, [(68, .ireturn, 1, (0, 0, 0, 0, 0, []))])]
def zt_X8_unsee : List (Nat × List zv_E) := [
  (10, [(0, .aload_n 0, 1, (0, 0, 0, 0, 0, [])), (1, .getfield 70, 3, (8, 9, 2, 0, 0, [])), (4, .getfield 267, 3, (5, 0, 0, 0, 0, [])), (7, .istore_n 1, 1, (1, 0, 0, 0, 0, [])), (8, .aload_n 0, 1, (0, 0, 0, 0, 0, [])), (9, .getfield 70, 3, (8, 9, 2, 0, 0, []))]),
  (18, [(12, .iconst 0, 1, (0, 0, 0, 0, 0, [])), (13, .putfield 267, 3, (5, 0, 0, 0, 0, [])), (16, .iload_n 1, 1, (1, 0, 0, 0, 0, [])), (17, .ireturn, 1, (0, 0, 0, 0, 0, []))])]
def zt_X8_which : List (Nat × List zv_E) := [
  (12, [(0, .iconst 0, 1, (0, 0, 0, 0, 0, [])), (1, .istore_n 1, 1, (1, 0, 0, 0, 0, [])), (2, .iconst 1, 1, (0, 0, 0, 1, 0, [])), (3, .aload_n 0, 1, (0, 0, 0, 0, 0, [])), (4, .getfield 19, 3, (8, 1, 2, 0, 0, [])), (7, .getfield 271, 3, (3, 1, 0, 0, 0, [])), (10, .ishl, 1, (0, 0, 0, 0, 0, [])), (11, .iconst 1, 1, (0, 0, 0, 1, 0, []))]),
  (26, [(12, .isub, 1, (0, 0, 0, 0, 0, [])), (13, .istore_n 2, 1, (2, 0, 0, 0, 0, [])), (14, .aload_n 0, 1, (0, 0, 0, 0, 0, [])), (15, .getfield 32, 3, (8, 3, 2, 0, 0, [])), (18, .aload_n 0, 1, (0, 0, 0, 0, 0, [])), (19, .getfield 28, 3, (8, 2, 2, 0, 0, [])), (22, .invokevirtual 212, 3, (48, 2, 0, 0, 0, [])), (25, .iconst 0, 1, (0, 0, 0, 0, 0, []))]),
  (40, [(26, .istore_n 3, 1, (3, 0, 0, 0, 0, [])), (27, .iload_n 3, 1, (3, 0, 0, 0, 0, [])), (28, .aload_n 0, 1, (0, 0, 0, 0, 0, [])), (29, .getfield 19, 3, (8, 1, 2, 0, 0, [])), (32, .getfield 271, 3, (3, 1, 0, 0, 0, [])), (35, .if_icmp .ge 50, 3, (85, 0, 0, 0, 0, [])), (38, .aload_n 0, 1, (0, 0, 0, 0, 0, [])), (39, .getfield 32, 3, (8, 3, 2, 0, 0, []))]),
  (52, [(42, .getfield 107, 3, (6, 1, 2, 0, 0, [])), (45, .iload_n 2, 1, (2, 0, 0, 0, 0, [])), (46, .iconst 1, 1, (0, 0, 0, 1, 0, [])), (47, .iload_n 3, 1, (3, 0, 0, 0, 0, [])), (48, .ishl, 1, (0, 0, 0, 0, 0, [])), (49, .iconst (-1), 1, (0, 0, 0, (-1), 0, [])), (50, .ixor, 1, (0, 0, 0, 0, 0, [])), (51, .iand, 1, (0, 0, 0, 0, 0, []))]),
  (68, [(52, .putfield 137, 3, (7, 3, 0, 0, 0, [])), (55, .aload_n 0, 1, (0, 0, 0, 0, 0, [])), (56, .getfield 70, 3, (8, 9, 2, 0, 0, [])), (59, .aload_n 0, 1, (0, 0, 0, 0, 0, [])), (60, .getfield 32, 3, (8, 3, 2, 0, 0, [])), (63, .aload_n 0, 1, (0, 0, 0, 0, 0, [])), (64, .invokevirtual 254, 3, (121, 1, 1, 0, 0, [])), (67, .invokevirtual 274, 3, (44, 3, 1, 0, 0, []))]),
  (80, [(70, .ifCond .eq 9, 3, (79, 0, 0, 0, 0, [])), (73, .iload_n 1, 1, (1, 0, 0, 0, 0, [])), (74, .iconst 1, 1, (0, 0, 0, 1, 0, [])), (75, .iload_n 3, 1, (3, 0, 0, 0, 0, [])), (76, .ishl, 1, (0, 0, 0, 0, 0, [])), (77, .ior, 1, (0, 0, 0, 0, 0, [])), (78, .istore_n 1, 1, (1, 0, 0, 0, 0, [])), (79, .iinc 3 1, 3, (3, 0, 0, 1, 0, []))]),
  (87, [(82, .goto (-55), 3, (27, 0, 0, 0, 0, [])), (85, .iload_n 1, 1, (1, 0, 0, 0, 0, [])), (86, .ireturn, 1, (0, 0, 0, 0, 0, []))])]
def zt_X8_share : List (Nat × List zv_E) := [
  (14, [(0, .aload_n 0, 1, (0, 0, 0, 0, 0, [])), (1, .getfield 19, 3, (8, 1, 2, 0, 0, [])), (4, .iload_n 1, 1, (1, 0, 0, 0, 0, [])), (5, .invokevirtual 121, 3, (23, 2, 1, 0, 0, [])), (8, .ifCond .ne 5, 3, (13, 0, 0, 0, 0, [])), (11, .iconst (-1), 1, (0, 0, 0, (-1), 0, [])), (12, .ireturn, 1, (0, 0, 0, 0, 0, [])), (13, .aload_n 0, 1, (0, 0, 0, 0, 0, []))]),
  (28, [(14, .getfield 32, 3, (8, 3, 2, 0, 0, [])), (17, .aload_n 0, 1, (0, 0, 0, 0, 0, [])), (18, .getfield 28, 3, (8, 2, 2, 0, 0, [])), (21, .invokevirtual 212, 3, (48, 2, 0, 0, 0, [])), (24, .iconst 0, 1, (0, 0, 0, 0, 0, [])), (25, .istore_n 3, 1, (3, 0, 0, 0, 0, [])), (26, .iconst 0, 1, (0, 0, 0, 0, 0, [])), (27, .istore 4, 2, (4, 0, 0, 0, 0, []))]),
  (44, [(29, .iload 4, 2, (4, 0, 0, 0, 0, [])), (31, .iconst 1, 1, (0, 0, 0, 1, 0, [])), (32, .aload_n 0, 1, (0, 0, 0, 0, 0, [])), (33, .getfield 19, 3, (8, 1, 2, 0, 0, [])), (36, .getfield 271, 3, (3, 1, 0, 0, 0, [])), (39, .ishl, 1, (0, 0, 0, 0, 0, [])), (40, .if_icmp .ge 60, 3, (100, 0, 0, 0, 0, [])), (43, .aload_n 0, 1, (0, 0, 0, 0, 0, []))]),
  (63, [(44, .getfield 32, 3, (8, 3, 2, 0, 0, [])), (47, .getfield 107, 3, (6, 1, 2, 0, 0, [])), (50, .iload 4, 2, (4, 0, 0, 0, 0, [])), (52, .putfield 137, 3, (7, 3, 0, 0, 0, [])), (55, .aload_n 0, 1, (0, 0, 0, 0, 0, [])), (56, .invokevirtual 254, 3, (121, 1, 1, 0, 0, [])), (59, .ifCond .eq 19, 3, (78, 0, 0, 0, 0, [])), (62, .aload_n 0, 1, (0, 0, 0, 0, 0, []))]),
  (82, [(63, .getfield 32, 3, (8, 3, 2, 0, 0, [])), (66, .getfield 107, 3, (6, 1, 2, 0, 0, [])), (69, .invokevirtual 278, 3, (79, 1, 1, 0, 0, [])), (72, .invokestatic 249, 3, (0, 1, 1, 0, 0, [])), (75, .goto 4, 3, (79, 0, 0, 0, 0, [])), (78, .iconst 0, 1, (0, 0, 0, 0, 0, [])), (79, .istore 5, 2, (5, 0, 0, 0, 0, [])), (81, .iload_n 3, 1, (3, 0, 0, 0, 0, []))]),
  (94, [(82, .iload 5, 2, (5, 0, 0, 0, 0, [])), (84, .aload_n 0, 1, (0, 0, 0, 0, 0, [])), (85, .iload 4, 2, (4, 0, 0, 0, 0, [])), (87, .iload_n 1, 1, (1, 0, 0, 0, 0, [])), (88, .invokevirtual 281, 3, (122, 3, 1, 0, 0, [])), (91, .imul, 1, (0, 0, 0, 0, 0, [])), (92, .iadd, 1, (0, 0, 0, 0, 0, [])), (93, .istore_n 3, 1, (3, 0, 0, 0, 0, []))]),
  (112, [(94, .iinc 4 1, 3, (4, 0, 0, 1, 0, [])), (97, .goto (-68), 3, (29, 0, 0, 0, 0, [])), (100, .iload_n 3, 1, (3, 0, 0, 0, 0, [])), (101, .aload_n 0, 1, (0, 0, 0, 0, 0, [])), (102, .getfield 19, 3, (8, 1, 2, 0, 0, [])), (105, .getfield 271, 3, (3, 1, 0, 0, 0, [])), (108, .invokestatic 284, 3, (118, 1, 1, 0, 0, [])), (111, .iload_n 2, 1, (2, 0, 0, 0, 0, []))]),
  (116, [(112, .invokestatic 287, 3, (120, 3, 1, 0, 0, [])), (115, .ireturn, 1, (0, 0, 0, 0, 0, []))])]
def zt_X8_lost : List (Nat × List zv_E) := [
  (15, [(0, .iload_n 1, 1, (1, 0, 0, 0, 0, [])), (1, .ifCond .lt 9, 3, (10, 0, 0, 0, 0, [])), (4, .iload_n 1, 1, (1, 0, 0, 0, 0, [])), (5, .bipush 10, 2, (0, 0, 0, 10, 0, [])), (7, .if_icmp .le 6, 3, (13, 0, 0, 0, 0, [])), (10, .bipush (-2), 2, (0, 0, 0, (-2), 0, [])), (12, .ireturn, 1, (0, 0, 0, 0, 0, [])), (13, .aload_n 0, 1, (0, 0, 0, 0, 0, [])), (14, .getfield 32, 3, (8, 3, 2, 0, 0, []))]),
  (31, [(17, .aload_n 0, 1, (0, 0, 0, 0, 0, [])), (18, .getfield 28, 3, (8, 2, 2, 0, 0, [])), (21, .invokevirtual 212, 3, (48, 2, 0, 0, 0, [])), (24, .iconst 0, 1, (0, 0, 0, 0, 0, [])), (25, .istore_n 3, 1, (3, 0, 0, 0, 0, [])), (26, .iconst 1, 1, (0, 0, 0, 1, 0, [])), (27, .istore 4, 2, (4, 0, 0, 0, 0, [])), (29, .iconst 0, 1, (0, 0, 0, 0, 0, [])), (30, .istore 5, 2, (5, 0, 0, 0, 0, []))]),
  (50, [(32, .iload 5, 2, (5, 0, 0, 0, 0, [])), (34, .aload_n 0, 1, (0, 0, 0, 0, 0, [])), (35, .getfield 19, 3, (8, 1, 2, 0, 0, [])), (38, .getfield 271, 3, (3, 1, 0, 0, 0, [])), (41, .if_icmp .ge 16, 3, (57, 0, 0, 0, 0, [])), (44, .iload 4, 2, (4, 0, 0, 0, 0, [])), (46, .bipush 10, 2, (0, 0, 0, 10, 0, [])), (48, .imul, 1, (0, 0, 0, 0, 0, [])), (49, .istore 4, 2, (4, 0, 0, 0, 0, []))]),
  (68, [(51, .iinc 5 1, 3, (5, 0, 0, 1, 0, [])), (54, .goto (-22), 3, (32, 0, 0, 0, 0, [])), (57, .iconst 0, 1, (0, 0, 0, 0, 0, [])), (58, .istore 5, 2, (5, 0, 0, 0, 0, [])), (60, .iload 5, 2, (5, 0, 0, 0, 0, [])), (62, .iconst 1, 1, (0, 0, 0, 1, 0, [])), (63, .aload_n 0, 1, (0, 0, 0, 0, 0, [])), (64, .getfield 19, 3, (8, 1, 2, 0, 0, [])), (67, .getfield 271, 3, (3, 1, 0, 0, 0, []))]),
  (88, [(70, .ishl, 1, (0, 0, 0, 0, 0, [])), (71, .if_icmp .ge 47, 3, (118, 0, 0, 0, 0, [])), (74, .aload_n 0, 1, (0, 0, 0, 0, 0, [])), (75, .getfield 32, 3, (8, 3, 2, 0, 0, [])), (78, .getfield 107, 3, (6, 1, 2, 0, 0, [])), (81, .iload 5, 2, (5, 0, 0, 0, 0, [])), (83, .putfield 137, 3, (7, 3, 0, 0, 0, [])), (86, .aload_n 0, 1, (0, 0, 0, 0, 0, [])), (87, .iload 5, 2, (5, 0, 0, 0, 0, []))]),
  (108, [(89, .iload_n 1, 1, (1, 0, 0, 0, 0, [])), (90, .invokevirtual 291, 3, (123, 3, 1, 0, 0, [])), (93, .istore 6, 2, (6, 0, 0, 0, 0, [])), (95, .iload 6, 2, (6, 0, 0, 0, 0, [])), (97, .ifCond .eq 15, 3, (112, 0, 0, 0, 0, [])), (100, .aload_n 0, 1, (0, 0, 0, 0, 0, [])), (101, .invokevirtual 254, 3, (121, 1, 1, 0, 0, [])), (104, .ifCond .eq 8, 3, (112, 0, 0, 0, 0, [])), (107, .iload_n 3, 1, (3, 0, 0, 0, 0, []))]),
  (123, [(108, .iload 6, 2, (6, 0, 0, 0, 0, [])), (110, .iadd, 1, (0, 0, 0, 0, 0, [])), (111, .istore_n 3, 1, (3, 0, 0, 0, 0, [])), (112, .iinc 5 1, 3, (5, 0, 0, 1, 0, [])), (115, .goto (-55), 3, (60, 0, 0, 0, 0, [])), (118, .iload_n 3, 1, (3, 0, 0, 0, 0, [])), (119, .iload 4, 2, (4, 0, 0, 0, 0, [])), (121, .iload_n 2, 1, (2, 0, 0, 0, 0, [])), (122, .invokestatic 287, 3, (120, 3, 1, 0, 0, []))]),
  (126, [(125, .ireturn, 1, (0, 0, 0, 0, 0, []))])]
def zt_X8_seed : List (Nat × List zv_E) := [
  (8, [(0, .aload_n 0, 1, (0, 0, 0, 0, 0, [])), (1, .getfield 74, 3, (8, 10, 1, 0, 0, [])), (4, .lstore_n 3, 1, (3, 0, 0, 0, 0, [])), (5, .aload_n 0, 1, (0, 0, 0, 0, 0, [])), (6, .lload_n 1, 1, (1, 0, 0, 0, 0, [])), (7, .putfield 74, 3, (8, 10, 1, 0, 0, []))]),
  (12, [(10, .lload_n 3, 1, (3, 0, 0, 0, 0, [])), (11, .lreturn, 1, (0, 0, 0, 0, 0, []))])]
def zt_X8_drawn : List (Nat × List zv_E) := [
  (14, [(0, .iload_n 1, 1, (1, 0, 0, 0, 0, [])), (1, .iconst 1, 1, (0, 0, 0, 1, 0, [])), (2, .if_icmp .lt 9, 3, (11, 0, 0, 0, 0, [])), (5, .iload_n 1, 1, (1, 0, 0, 0, 0, [])), (6, .bipush 20, 2, (0, 0, 0, 20, 0, [])), (8, .if_icmp .le 6, 3, (14, 0, 0, 0, 0, [])), (11, .bipush (-2), 2, (0, 0, 0, (-2), 0, [])), (13, .ireturn, 1, (0, 0, 0, 0, 0, []))]),
  (28, [(14, .aload_n 0, 1, (0, 0, 0, 0, 0, [])), (15, .getfield 32, 3, (8, 3, 2, 0, 0, [])), (18, .aload_n 0, 1, (0, 0, 0, 0, 0, [])), (19, .getfield 28, 3, (8, 2, 2, 0, 0, [])), (22, .invokevirtual 212, 3, (48, 2, 0, 0, 0, [])), (25, .iconst 0, 1, (0, 0, 0, 0, 0, [])), (26, .istore_n 2, 1, (2, 0, 0, 0, 0, [])), (27, .iconst 0, 1, (0, 0, 0, 0, 0, []))]),
  (40, [(28, .istore_n 3, 1, (3, 0, 0, 0, 0, [])), (29, .iload_n 3, 1, (3, 0, 0, 0, 0, [])), (30, .iload_n 1, 1, (1, 0, 0, 0, 0, [])), (31, .if_icmp .ge 84, 3, (115, 0, 0, 0, 0, [])), (34, .aload_n 0, 1, (0, 0, 0, 0, 0, [])), (35, .aload_n 0, 1, (0, 0, 0, 0, 0, [])), (36, .getfield 74, 3, (8, 10, 1, 0, 0, [])), (39, .ldc2_w 294, 3, (0, 0, 0, 0, 6364136223846793005, []))]),
  (58, [(42, .lmul, 1, (0, 0, 0, 0, 0, [])), (43, .ldc2_w 296, 3, (0, 0, 0, 0, 1442695040888963407, [])), (46, .ladd, 1, (0, 0, 0, 0, 0, [])), (47, .putfield 74, 3, (8, 10, 1, 0, 0, [])), (50, .aload_n 0, 1, (0, 0, 0, 0, 0, [])), (51, .getfield 19, 3, (8, 1, 2, 0, 0, [])), (54, .getfield 246, 3, (3, 0, 0, 0, 0, [])), (57, .ifCond .le 22, 3, (79, 0, 0, 0, 0, []))]),
  (73, [(60, .aload_n 0, 1, (0, 0, 0, 0, 0, [])), (61, .getfield 74, 3, (8, 10, 1, 0, 0, [])), (64, .bipush 33, 2, (0, 0, 0, 33, 0, [])), (66, .lushr, 1, (0, 0, 0, 0, 0, [])), (67, .l2i, 1, (0, 0, 0, 0, 0, [])), (68, .aload_n 0, 1, (0, 0, 0, 0, 0, [])), (69, .getfield 19, 3, (8, 1, 2, 0, 0, [])), (72, .getfield 246, 3, (3, 0, 0, 0, 0, []))]),
  (89, [(75, .irem, 1, (0, 0, 0, 0, 0, [])), (76, .goto 4, 3, (80, 0, 0, 0, 0, [])), (79, .iconst 0, 1, (0, 0, 0, 0, 0, [])), (80, .istore 4, 2, (4, 0, 0, 0, 0, [])), (82, .aload_n 0, 1, (0, 0, 0, 0, 0, [])), (83, .getfield 32, 3, (8, 3, 2, 0, 0, [])), (86, .iload 4, 2, (4, 0, 0, 0, 0, [])), (88, .invokevirtual 144, 3, (56, 2, 1, 0, 0, []))]),
  (106, [(91, .pop, 1, (0, 0, 0, 0, 0, [])), (92, .iload_n 2, 1, (2, 0, 0, 0, 0, [])), (93, .aload_n 0, 1, (0, 0, 0, 0, 0, [])), (94, .getfield 32, 3, (8, 3, 2, 0, 0, [])), (97, .getfield 107, 3, (6, 1, 2, 0, 0, [])), (100, .iload 4, 2, (4, 0, 0, 0, 0, [])), (102, .invokevirtual 298, 3, (76, 2, 1, 0, 0, [])), (105, .iconst 1, 1, (0, 0, 0, 1, 0, []))]),
  (117, [(106, .iadd, 1, (0, 0, 0, 0, 0, [])), (107, .iadd, 1, (0, 0, 0, 0, 0, [])), (108, .istore_n 2, 1, (2, 0, 0, 0, 0, [])), (109, .iinc 3 1, 3, (3, 0, 0, 1, 0, [])), (112, .goto (-83), 3, (29, 0, 0, 0, 0, [])), (115, .iload_n 2, 1, (2, 0, 0, 0, 0, [])), (116, .ireturn, 1, (0, 0, 0, 0, 0, []))])]
def zt_X8_keep : List (Nat × List zv_E) := [
  (10, [(0, .iload_n 1, 1, (1, 0, 0, 0, 0, [])), (1, .ifCond .lt 8, 3, (9, 0, 0, 0, 0, [])), (4, .iload_n 1, 1, (1, 0, 0, 0, 0, [])), (5, .iconst 2, 1, (0, 0, 0, 2, 0, [])), (6, .if_icmp .lt 5, 3, (11, 0, 0, 0, 0, [])), (9, .iconst (-1), 1, (0, 0, 0, (-1), 0, []))]),
  (18, [(10, .ireturn, 1, (0, 0, 0, 0, 0, [])), (11, .aload_n 0, 1, (0, 0, 0, 0, 0, [])), (12, .getfield 58, 3, (8, 7, 2, 0, 0, [])), (15, .iload_n 1, 1, (1, 0, 0, 0, 0, [])), (16, .aaload, 1, (0, 0, 0, 0, 0, [])), (17, .aload_n 0, 1, (0, 0, 0, 0, 0, []))]),
  (32, [(18, .getfield 28, 3, (8, 2, 2, 0, 0, [])), (21, .getfield 107, 3, (6, 1, 2, 0, 0, [])), (24, .invokevirtual 301, 3, (68, 2, 0, 0, 0, [])), (27, .aload_n 0, 1, (0, 0, 0, 0, 0, [])), (28, .getfield 63, 3, (8, 8, 2, 0, 0, [])), (31, .iload_n 1, 1, (1, 0, 0, 0, 0, []))]),
  (42, [(32, .iconst 1, 1, (0, 0, 0, 1, 0, [])), (33, .bastore, 1, (0, 0, 0, 0, 0, [])), (34, .aload_n 0, 1, (0, 0, 0, 0, 0, [])), (35, .getfield 19, 3, (8, 1, 2, 0, 0, [])), (38, .getfield 246, 3, (3, 0, 0, 0, 0, [])), (41, .ireturn, 1, (0, 0, 0, 0, 0, []))])]
def zt_X8_again : List (Nat × List zv_E) := [
  (10, [(0, .iload_n 1, 1, (1, 0, 0, 0, 0, [])), (1, .ifCond .lt 8, 3, (9, 0, 0, 0, 0, [])), (4, .iload_n 1, 1, (1, 0, 0, 0, 0, [])), (5, .iconst 2, 1, (0, 0, 0, 2, 0, [])), (6, .if_icmp .lt 5, 3, (11, 0, 0, 0, 0, [])), (9, .iconst (-1), 1, (0, 0, 0, (-1), 0, []))]),
  (18, [(10, .ireturn, 1, (0, 0, 0, 0, 0, [])), (11, .aload_n 0, 1, (0, 0, 0, 0, 0, [])), (12, .getfield 63, 3, (8, 8, 2, 0, 0, [])), (15, .iload_n 1, 1, (1, 0, 0, 0, 0, [])), (16, .baload, 1, (0, 0, 0, 0, 0, [])), (17, .ifCond .ne 6, 3, (23, 0, 0, 0, 0, []))]),
  (29, [(20, .bipush (-3), 2, (0, 0, 0, (-3), 0, [])), (22, .ireturn, 1, (0, 0, 0, 0, 0, [])), (23, .aload_n 0, 1, (0, 0, 0, 0, 0, [])), (24, .getfield 28, 3, (8, 2, 2, 0, 0, [])), (27, .aload_n 0, 1, (0, 0, 0, 0, 0, [])), (28, .getfield 58, 3, (8, 7, 2, 0, 0, []))]),
  (41, [(31, .iload_n 1, 1, (1, 0, 0, 0, 0, [])), (32, .aaload, 1, (0, 0, 0, 0, 0, [])), (33, .invokevirtual 178, 3, (47, 2, 0, 0, 0, [])), (36, .aload_n 0, 1, (0, 0, 0, 0, 0, [])), (37, .getfield 52, 3, (8, 6, 2, 0, 0, [])), (40, .iconst 0, 1, (0, 0, 0, 0, 0, []))]),
  (52, [(41, .putfield 97, 3, (2, 0, 0, 0, 0, [])), (44, .aload_n 0, 1, (0, 0, 0, 0, 0, [])), (45, .getfield 19, 3, (8, 1, 2, 0, 0, [])), (48, .getfield 246, 3, (3, 0, 0, 0, 0, [])), (51, .ireturn, 1, (0, 0, 0, 0, 0, []))])]
def zt_X8_count : List (Nat × List zv_E) := [
  (70, [(0, .iload_n 1, 1, (1, 0, 0, 0, 0, [])), (1, .tableswitch 162 0 10 #[59, 67, 75, 86, 94, 102, 113, 124, 135, 146, 154], 59, (163, 0, 0, 0, 0, [(0, 60), (1, 68), (2, 76), (3, 87), (4, 95), (5, 103), (6, 114), (7, 125), (8, 136), (9, 147), (10, 155)])), (60, .aload_n 0, 1, (0, 0, 0, 0, 0, [])), (61, .getfield 12, 3, (8, 0, 2, 0, 0, [])), (64, .getfield 78, 3, (4, 1, 0, 0, 0, [])), (67, .ireturn, 1, (0, 0, 0, 0, 0, [])), (68, .aload_n 0, 1, (0, 0, 0, 0, 0, [])), (69, .getfield 19, 3, (8, 1, 2, 0, 0, []))]),
  (88, [(72, .getfield 246, 3, (3, 0, 0, 0, 0, [])), (75, .ireturn, 1, (0, 0, 0, 0, 0, [])), (76, .aload_n 0, 1, (0, 0, 0, 0, 0, [])), (77, .getfield 28, 3, (8, 2, 2, 0, 0, [])), (80, .getfield 107, 3, (6, 1, 2, 0, 0, [])), (83, .invokevirtual 303, 3, (77, 1, 1, 0, 0, [])), (86, .ireturn, 1, (0, 0, 0, 0, 0, [])), (87, .aload_n 0, 1, (0, 0, 0, 0, 0, []))]),
  (104, [(88, .getfield 19, 3, (8, 1, 2, 0, 0, [])), (91, .invokevirtual 306, 3, (27, 1, 1, 0, 0, [])), (94, .ireturn, 1, (0, 0, 0, 0, 0, [])), (95, .aload_n 0, 1, (0, 0, 0, 0, 0, [])), (96, .getfield 19, 3, (8, 1, 2, 0, 0, [])), (99, .getfield 271, 3, (3, 1, 0, 0, 0, [])), (102, .ireturn, 1, (0, 0, 0, 0, 0, [])), (103, .aload_n 0, 1, (0, 0, 0, 0, 0, []))]),
  (122, [(104, .getfield 28, 3, (8, 2, 2, 0, 0, [])), (107, .getfield 107, 3, (6, 1, 2, 0, 0, [])), (110, .getfield 137, 3, (7, 3, 0, 0, 0, [])), (113, .ireturn, 1, (0, 0, 0, 0, 0, [])), (114, .aload_n 0, 1, (0, 0, 0, 0, 0, [])), (115, .getfield 28, 3, (8, 2, 2, 0, 0, [])), (118, .getfield 107, 3, (6, 1, 2, 0, 0, [])), (121, .getfield 165, 3, (7, 4, 0, 0, 0, []))]),
  (138, [(124, .ireturn, 1, (0, 0, 0, 0, 0, [])), (125, .aload_n 0, 1, (0, 0, 0, 0, 0, [])), (126, .getfield 28, 3, (8, 2, 2, 0, 0, [])), (129, .getfield 107, 3, (6, 1, 2, 0, 0, [])), (132, .getfield 168, 3, (7, 5, 0, 0, 0, [])), (135, .ireturn, 1, (0, 0, 0, 0, 0, [])), (136, .aload_n 0, 1, (0, 0, 0, 0, 0, [])), (137, .getfield 28, 3, (8, 2, 2, 0, 0, []))]),
  (156, [(140, .getfield 107, 3, (6, 1, 2, 0, 0, [])), (143, .invokevirtual 309, 3, (78, 1, 1, 0, 0, [])), (146, .ireturn, 1, (0, 0, 0, 0, 0, [])), (147, .aload_n 0, 1, (0, 0, 0, 0, 0, [])), (148, .getfield 52, 3, (8, 6, 2, 0, 0, [])), (151, .getfield 97, 3, (2, 0, 0, 0, 0, [])), (154, .ireturn, 1, (0, 0, 0, 0, 0, [])), (155, .aload_n 0, 1, (0, 0, 0, 0, 0, []))]),
  (166, [(156, .getfield 70, 3, (8, 9, 2, 0, 0, [])), (159, .getfield 267, 3, (5, 0, 0, 0, 0, [])), (162, .ireturn, 1, (0, 0, 0, 0, 0, [])), (163, .bipush (-2), 2, (0, 0, 0, (-2), 0, [])), (165, .ireturn, 1, (0, 0, 0, 0, 0, []))])]
def zt_X8_exitOf : List (Nat × List zv_E) := [
  (7, [(0, .iload_n 0, 1, (0, 0, 0, 0, 0, [])), (1, .bipush 8, 2, (0, 0, 0, 8, 0, [])), (3, .ishr, 1, (0, 0, 0, 0, 0, [])), (4, .iconst 3, 1, (0, 0, 0, 3, 0, [])), (5, .iand, 1, (0, 0, 0, 0, 0, [])), (6, .ireturn, 1, (0, 0, 0, 0, 0, []))])]
def zt_X8_fromOf : List (Nat × List zv_E) := [
  (7, [(0, .iload_n 0, 1, (0, 0, 0, 0, 0, [])), (1, .iconst 5, 1, (0, 0, 0, 5, 0, [])), (2, .ishr, 1, (0, 0, 0, 0, 0, [])), (3, .bipush 7, 2, (0, 0, 0, 7, 0, [])), (5, .iand, 1, (0, 0, 0, 0, 0, [])), (6, .ireturn, 1, (0, 0, 0, 0, 0, []))])]
def zt_X8_routeOf : List (Nat × List zv_E) := [
  (9, [(0, .sipush 1024, 3, (0, 0, 0, 1024, 0, [])), (3, .iload_n 0, 1, (0, 0, 0, 0, 0, [])), (4, .bipush 8, 2, (0, 0, 0, 8, 0, [])), (6, .ishl, 1, (0, 0, 0, 0, 0, [])), (7, .ior, 1, (0, 0, 0, 0, 0, [])), (8, .iload_n 1, 1, (1, 0, 0, 0, 0, []))]),
  (15, [(9, .iconst 5, 1, (0, 0, 0, 5, 0, [])), (10, .ishl, 1, (0, 0, 0, 0, 0, [])), (11, .ior, 1, (0, 0, 0, 0, 0, [])), (12, .iload_n 2, 1, (2, 0, 0, 0, 0, [])), (13, .ior, 1, (0, 0, 0, 0, 0, [])), (14, .ireturn, 1, (0, 0, 0, 0, 0, []))])]
def zt_X8_factorial : List (Nat × List zv_E) := [
  (10, [(0, .iload_n 0, 1, (0, 0, 0, 0, 0, [])), (1, .ifCond .lt 11, 3, (12, 0, 0, 0, 0, [])), (4, .iload_n 0, 1, (0, 0, 0, 0, 0, [])), (5, .getstatic 312, 3, (1000002, 0, 0, 0, 0, [])), (8, .arraylength, 1, (0, 0, 0, 0, 0, [])), (9, .if_icmp .lt 7, 3, (16, 0, 0, 0, 0, []))]),
  (22, [(12, .iconst 1, 1, (0, 0, 0, 1, 0, [])), (13, .goto 8, 3, (21, 0, 0, 0, 0, [])), (16, .getstatic 312, 3, (1000002, 0, 0, 0, 0, [])), (19, .iload_n 0, 1, (0, 0, 0, 0, 0, [])), (20, .iaload, 1, (0, 0, 0, 0, 0, [])), (21, .ireturn, 1, (0, 0, 0, 0, 0, []))])]
def zt_X8_commonDivisor : List (Nat × List zv_E) := [
  (6, [(0, .iload_n 0, 1, (0, 0, 0, 0, 0, [])), (1, .istore_n 2, 1, (2, 0, 0, 0, 0, [])), (2, .iload_n 1, 1, (1, 0, 0, 0, 0, [])), (3, .istore_n 3, 1, (3, 0, 0, 0, 0, [])), (4, .iconst 0, 1, (0, 0, 0, 0, 0, [])), (5, .istore 4, 2, (4, 0, 0, 0, 0, []))]),
  (19, [(7, .iload 4, 2, (4, 0, 0, 0, 0, [])), (9, .bipush 100, 2, (0, 0, 0, 100, 0, [])), (11, .if_icmp .ge 23, 3, (34, 0, 0, 0, 0, [])), (14, .iload_n 3, 1, (3, 0, 0, 0, 0, [])), (15, .ifCond .eq 19, 3, (34, 0, 0, 0, 0, [])), (18, .iload_n 2, 1, (2, 0, 0, 0, 0, []))]),
  (26, [(19, .iload_n 3, 1, (3, 0, 0, 0, 0, [])), (20, .irem, 1, (0, 0, 0, 0, 0, [])), (21, .istore 5, 2, (5, 0, 0, 0, 0, [])), (23, .iload_n 3, 1, (3, 0, 0, 0, 0, [])), (24, .istore_n 2, 1, (2, 0, 0, 0, 0, [])), (25, .iload 5, 2, (5, 0, 0, 0, 0, []))]),
  (36, [(27, .istore_n 3, 1, (3, 0, 0, 0, 0, [])), (28, .iinc 4 1, 3, (4, 0, 0, 1, 0, [])), (31, .goto (-24), 3, (7, 0, 0, 0, 0, [])), (34, .iload_n 2, 1, (2, 0, 0, 0, 0, [])), (35, .ireturn, 1, (0, 0, 0, 0, 0, []))])]
def zt_X8_part : List (Nat × List zv_E) := [
  (10, [(0, .iload_n 0, 1, (0, 0, 0, 0, 0, [])), (1, .invokestatic 315, 3, (995, 1, 1, 0, 0, [])), (4, .iload_n 1, 1, (1, 0, 0, 0, 0, [])), (5, .invokestatic 320, 3, (119, 2, 1, 0, 0, [])), (8, .istore_n 3, 1, (3, 0, 0, 0, 0, [])), (9, .iload_n 3, 1, (3, 0, 0, 0, 0, []))]),
  (22, [(10, .ifCond .gt 13, 3, (23, 0, 0, 0, 0, [])), (13, .iload_n 2, 1, (2, 0, 0, 0, 0, [])), (14, .ifCond .eq 7, 3, (21, 0, 0, 0, 0, [])), (17, .iload_n 0, 1, (0, 0, 0, 0, 0, [])), (18, .goto 4, 3, (22, 0, 0, 0, 0, [])), (21, .iload_n 1, 1, (1, 0, 0, 0, 0, []))]),
  (30, [(22, .ireturn, 1, (0, 0, 0, 0, 0, [])), (23, .iload_n 2, 1, (2, 0, 0, 0, 0, [])), (24, .ifCond .eq 9, 3, (33, 0, 0, 0, 0, [])), (27, .iload_n 0, 1, (0, 0, 0, 0, 0, [])), (28, .iload_n 3, 1, (3, 0, 0, 0, 0, [])), (29, .idiv, 1, (0, 0, 0, 0, 0, []))]),
  (37, [(30, .goto 6, 3, (36, 0, 0, 0, 0, [])), (33, .iload_n 1, 1, (1, 0, 0, 0, 0, [])), (34, .iload_n 3, 1, (3, 0, 0, 0, 0, [])), (35, .idiv, 1, (0, 0, 0, 0, 0, [])), (36, .ireturn, 1, (0, 0, 0, 0, 0, []))])]
def zt_X8_restsAnew : List (Nat × List zv_E) := [
  (12, [(0, .aload_n 0, 1, (0, 0, 0, 0, 0, [])), (1, .getfield 32, 3, (8, 3, 2, 0, 0, [])), (4, .getfield 107, 3, (6, 1, 2, 0, 0, [])), (7, .invokevirtual 216, 3, (70, 1, 0, 0, 0, [])), (10, .aload_n 0, 1, (0, 0, 0, 0, 0, [])), (11, .getfield 38, 3, (8, 4, 2, 0, 0, []))]),
  (26, [(14, .aload_n 0, 1, (0, 0, 0, 0, 0, [])), (15, .getfield 32, 3, (8, 3, 2, 0, 0, [])), (18, .invokevirtual 219, 3, (3, 2, 0, 0, 0, [])), (21, .aload_n 0, 1, (0, 0, 0, 0, 0, [])), (22, .getfield 38, 3, (8, 4, 2, 0, 0, [])), (25, .getfield 222, 3, (0, 0, 0, 0, 0, []))]),
  (37, [(28, .ifCond .ne 7, 3, (35, 0, 0, 0, 0, [])), (31, .iconst 1, 1, (0, 0, 0, 1, 0, [])), (32, .goto 4, 3, (36, 0, 0, 0, 0, [])), (35, .iconst 0, 1, (0, 0, 0, 0, 0, [])), (36, .ireturn, 1, (0, 0, 0, 0, 0, []))])]
def zt_X8_gainFactor : List (Nat × List zv_E) := [
  (8, [(0, .iload_n 1, 1, (1, 0, 0, 0, 0, [])), (1, .invokestatic 249, 3, (0, 1, 1, 0, 0, [])), (4, .istore_n 3, 1, (3, 0, 0, 0, 0, [])), (5, .iload_n 1, 1, (1, 0, 0, 0, 0, [])), (6, .iload_n 2, 1, (2, 0, 0, 0, 0, [])), (7, .ishr, 1, (0, 0, 0, 0, 0, []))]),
  (16, [(8, .iconst 1, 1, (0, 0, 0, 1, 0, [])), (9, .iand, 1, (0, 0, 0, 0, 0, [])), (10, .iconst 1, 1, (0, 0, 0, 1, 0, [])), (11, .if_icmp .ne 23, 3, (34, 0, 0, 0, 0, [])), (14, .iload_n 3, 1, (3, 0, 0, 0, 0, [])), (15, .iconst 1, 1, (0, 0, 0, 1, 0, []))]),
  (28, [(16, .isub, 1, (0, 0, 0, 0, 0, [])), (17, .invokestatic 284, 3, (118, 1, 1, 0, 0, [])), (20, .aload_n 0, 1, (0, 0, 0, 0, 0, [])), (21, .getfield 19, 3, (8, 1, 2, 0, 0, [])), (24, .getfield 271, 3, (3, 1, 0, 0, 0, [])), (27, .iload_n 3, 1, (3, 0, 0, 0, 0, []))]),
  (36, [(28, .isub, 1, (0, 0, 0, 0, 0, [])), (29, .invokestatic 284, 3, (118, 1, 1, 0, 0, [])), (32, .imul, 1, (0, 0, 0, 0, 0, [])), (33, .ireturn, 1, (0, 0, 0, 0, 0, [])), (34, .iload_n 3, 1, (3, 0, 0, 0, 0, [])), (35, .invokestatic 284, 3, (118, 1, 1, 0, 0, []))]),
  (48, [(38, .ineg, 1, (0, 0, 0, 0, 0, [])), (39, .aload_n 0, 1, (0, 0, 0, 0, 0, [])), (40, .getfield 19, 3, (8, 1, 2, 0, 0, [])), (43, .getfield 271, 3, (3, 1, 0, 0, 0, [])), (46, .iconst 1, 1, (0, 0, 0, 1, 0, [])), (47, .isub, 1, (0, 0, 0, 0, 0, []))]),
  (55, [(48, .iload_n 3, 1, (3, 0, 0, 0, 0, [])), (49, .isub, 1, (0, 0, 0, 0, 0, [])), (50, .invokestatic 284, 3, (118, 1, 1, 0, 0, [])), (53, .imul, 1, (0, 0, 0, 0, 0, [])), (54, .ireturn, 1, (0, 0, 0, 0, 0, []))])]
def zt_X8_chanceOf : List (Nat × List zv_E) := [
  (8, [(0, .iconst 1, 1, (0, 0, 0, 1, 0, [])), (1, .istore_n 3, 1, (3, 0, 0, 0, 0, [])), (2, .iconst 0, 1, (0, 0, 0, 0, 0, [])), (3, .istore 4, 2, (4, 0, 0, 0, 0, [])), (5, .iload 4, 2, (4, 0, 0, 0, 0, [])), (7, .aload_n 0, 1, (0, 0, 0, 0, 0, []))]),
  (20, [(8, .getfield 19, 3, (8, 1, 2, 0, 0, [])), (11, .getfield 271, 3, (3, 1, 0, 0, 0, [])), (14, .if_icmp .ge 30, 3, (44, 0, 0, 0, 0, [])), (17, .iload_n 3, 1, (3, 0, 0, 0, 0, [])), (18, .iload_n 1, 1, (1, 0, 0, 0, 0, [])), (19, .iload 4, 2, (4, 0, 0, 0, 0, []))]),
  (29, [(21, .ishr, 1, (0, 0, 0, 0, 0, [])), (22, .iconst 1, 1, (0, 0, 0, 1, 0, [])), (23, .iand, 1, (0, 0, 0, 0, 0, [])), (24, .iconst 1, 1, (0, 0, 0, 1, 0, [])), (25, .if_icmp .ne 10, 3, (35, 0, 0, 0, 0, [])), (28, .bipush 10, 2, (0, 0, 0, 10, 0, []))]),
  (38, [(30, .iload_n 2, 1, (2, 0, 0, 0, 0, [])), (31, .isub, 1, (0, 0, 0, 0, 0, [])), (32, .goto 4, 3, (36, 0, 0, 0, 0, [])), (35, .iload_n 2, 1, (2, 0, 0, 0, 0, [])), (36, .imul, 1, (0, 0, 0, 0, 0, [])), (37, .istore_n 3, 1, (3, 0, 0, 0, 0, []))]),
  (46, [(38, .iinc 4 1, 3, (4, 0, 0, 1, 0, [])), (41, .goto (-36), 3, (5, 0, 0, 0, 0, [])), (44, .iload_n 3, 1, (3, 0, 0, 0, 0, [])), (45, .ireturn, 1, (0, 0, 0, 0, 0, []))])]
def zt_X8_holds : List (Nat × List zv_E) := [
  (16, [(0, .iload_n 1, 1, (1, 0, 0, 0, 0, [])), (1, .sipush 1000, 3, (0, 0, 0, 1000, 0, [])), (4, .idiv, 1, (0, 0, 0, 0, 0, [])), (5, .istore_n 2, 1, (2, 0, 0, 0, 0, [])), (6, .iload_n 1, 1, (1, 0, 0, 0, 0, [])), (7, .bipush 100, 2, (0, 0, 0, 100, 0, [])), (9, .idiv, 1, (0, 0, 0, 0, 0, [])), (10, .bipush 10, 2, (0, 0, 0, 10, 0, [])), (12, .irem, 1, (0, 0, 0, 0, 0, [])), (13, .istore_n 3, 1, (3, 0, 0, 0, 0, [])), (14, .iload_n 1, 1, (1, 0, 0, 0, 0, [])), (15, .bipush 10, 2, (0, 0, 0, 10, 0, []))]),
  (36, [(17, .idiv, 1, (0, 0, 0, 0, 0, [])), (18, .bipush 10, 2, (0, 0, 0, 10, 0, [])), (20, .irem, 1, (0, 0, 0, 0, 0, [])), (21, .istore 4, 2, (4, 0, 0, 0, 0, [])), (23, .iload_n 1, 1, (1, 0, 0, 0, 0, [])), (24, .bipush 10, 2, (0, 0, 0, 10, 0, [])), (26, .irem, 1, (0, 0, 0, 0, 0, [])), (27, .istore 5, 2, (5, 0, 0, 0, 0, [])), (29, .iload 4, 2, (4, 0, 0, 0, 0, [])), (31, .ifCond .eq 5, 3, (36, 0, 0, 0, 0, [])), (34, .iconst 0, 1, (0, 0, 0, 0, 0, [])), (35, .ireturn, 1, (0, 0, 0, 0, 0, []))]),
  (99, [(36, .iload_n 2, 1, (2, 0, 0, 0, 0, [])), (37, .tableswitch 230 1 7 #[43, 43, 63, 43, 94, 129, 161], 43, (267, 0, 0, 0, 0, [(1, 80), (2, 80), (3, 100), (4, 80), (5, 131), (6, 166), (7, 198)])), (80, .iload 5, 2, (5, 0, 0, 0, 0, [])), (82, .ifCond .ne 16, 3, (98, 0, 0, 0, 0, [])), (85, .aload_n 0, 1, (0, 0, 0, 0, 0, [])), (86, .iload_n 2, 1, (2, 0, 0, 0, 0, [])), (87, .iload_n 3, 1, (3, 0, 0, 0, 0, [])), (88, .invokevirtual 323, 3, (125, 3, 1, 0, 0, [])), (91, .ifCond .eq 7, 3, (98, 0, 0, 0, 0, [])), (94, .iconst 1, 1, (0, 0, 0, 1, 0, [])), (95, .goto 4, 3, (99, 0, 0, 0, 0, [])), (98, .iconst 0, 1, (0, 0, 0, 0, 0, []))]),
  (120, [(99, .ireturn, 1, (0, 0, 0, 0, 0, [])), (100, .aload_n 0, 1, (0, 0, 0, 0, 0, [])), (101, .getfield 19, 3, (8, 1, 2, 0, 0, [])), (104, .iload_n 3, 1, (3, 0, 0, 0, 0, [])), (105, .invokevirtual 121, 3, (23, 2, 1, 0, 0, [])), (108, .ifCond .eq 9, 3, (117, 0, 0, 0, 0, [])), (111, .iload 5, 2, (5, 0, 0, 0, 0, [])), (113, .iconst 5, 1, (0, 0, 0, 5, 0, [])), (114, .if_icmp .le 5, 3, (119, 0, 0, 0, 0, [])), (117, .iconst 0, 1, (0, 0, 0, 0, 0, [])), (118, .ireturn, 1, (0, 0, 0, 0, 0, [])), (119, .aload_n 0, 1, (0, 0, 0, 0, 0, []))]),
  (142, [(120, .getfield 32, 3, (8, 3, 2, 0, 0, [])), (123, .iload_n 3, 1, (3, 0, 0, 0, 0, [])), (124, .iload 5, 2, (5, 0, 0, 0, 0, [])), (126, .invokevirtual 158, 3, (50, 3, 0, 0, 0, [])), (129, .iconst 1, 1, (0, 0, 0, 1, 0, [])), (130, .ireturn, 1, (0, 0, 0, 0, 0, [])), (131, .aload_n 0, 1, (0, 0, 0, 0, 0, [])), (132, .iload_n 3, 1, (3, 0, 0, 0, 0, [])), (133, .iload 5, 2, (5, 0, 0, 0, 0, [])), (135, .invokevirtual 327, 3, (126, 3, 1, 0, 0, [])), (138, .ifCond .eq 26, 3, (164, 0, 0, 0, 0, [])), (141, .aload_n 0, 1, (0, 0, 0, 0, 0, []))]),
  (167, [(142, .getfield 32, 3, (8, 3, 2, 0, 0, [])), (145, .getfield 107, 3, (6, 1, 2, 0, 0, [])), (148, .iload_n 3, 1, (3, 0, 0, 0, 0, [])), (149, .invokevirtual 298, 3, (76, 2, 1, 0, 0, [])), (152, .iload 5, 2, (5, 0, 0, 0, 0, [])), (154, .invokestatic 330, 3, (127, 2, 1, 0, 0, [])), (157, .ifCond .eq 7, 3, (164, 0, 0, 0, 0, [])), (160, .iconst 1, 1, (0, 0, 0, 1, 0, [])), (161, .goto 4, 3, (165, 0, 0, 0, 0, [])), (164, .iconst 0, 1, (0, 0, 0, 0, 0, [])), (165, .ireturn, 1, (0, 0, 0, 0, 0, [])), (166, .aload_n 0, 1, (0, 0, 0, 0, 0, []))]),
  (193, [(167, .iload_n 3, 1, (3, 0, 0, 0, 0, [])), (168, .iload 5, 2, (5, 0, 0, 0, 0, [])), (170, .invokevirtual 327, 3, (126, 3, 1, 0, 0, [])), (173, .ifCond .eq 23, 3, (196, 0, 0, 0, 0, [])), (176, .aload_n 0, 1, (0, 0, 0, 0, 0, [])), (177, .getfield 32, 3, (8, 3, 2, 0, 0, [])), (180, .iload_n 3, 1, (3, 0, 0, 0, 0, [])), (181, .invokevirtual 206, 3, (64, 2, 1, 0, 0, [])), (184, .iload 5, 2, (5, 0, 0, 0, 0, [])), (186, .invokestatic 330, 3, (127, 2, 1, 0, 0, [])), (189, .ifCond .eq 7, 3, (196, 0, 0, 0, 0, [])), (192, .iconst 1, 1, (0, 0, 0, 1, 0, []))]),
  (212, [(193, .goto 4, 3, (197, 0, 0, 0, 0, [])), (196, .iconst 0, 1, (0, 0, 0, 0, 0, [])), (197, .ireturn, 1, (0, 0, 0, 0, 0, [])), (198, .iload_n 3, 1, (3, 0, 0, 0, 0, [])), (199, .ifCond .ne 9, 3, (208, 0, 0, 0, 0, [])), (202, .iload 5, 2, (5, 0, 0, 0, 0, [])), (204, .iconst 1, 1, (0, 0, 0, 1, 0, [])), (205, .if_icmp .le 5, 3, (210, 0, 0, 0, 0, [])), (208, .iconst 0, 1, (0, 0, 0, 0, 0, [])), (209, .ireturn, 1, (0, 0, 0, 0, 0, [])), (210, .aload_n 0, 1, (0, 0, 0, 0, 0, [])), (211, .getfield 38, 3, (8, 4, 2, 0, 0, []))]),
  (240, [(214, .aload_n 0, 1, (0, 0, 0, 0, 0, [])), (215, .getfield 32, 3, (8, 3, 2, 0, 0, [])), (218, .invokevirtual 219, 3, (3, 2, 0, 0, 0, [])), (221, .aload_n 0, 1, (0, 0, 0, 0, 0, [])), (222, .getfield 38, 3, (8, 4, 2, 0, 0, [])), (225, .aload_n 0, 1, (0, 0, 0, 0, 0, [])), (226, .getfield 32, 3, (8, 3, 2, 0, 0, [])), (229, .invokevirtual 333, 3, (4, 2, 0, 0, 0, [])), (232, .aload_n 0, 1, (0, 0, 0, 0, 0, [])), (233, .getfield 38, 3, (8, 4, 2, 0, 0, [])), (236, .getfield 222, 3, (0, 0, 0, 0, 0, [])), (239, .ifCond .ne 7, 3, (246, 0, 0, 0, 0, []))]),
  (263, [(242, .iconst 1, 1, (0, 0, 0, 1, 0, [])), (243, .goto 4, 3, (247, 0, 0, 0, 0, [])), (246, .iconst 0, 1, (0, 0, 0, 0, 0, [])), (247, .iload 5, 2, (5, 0, 0, 0, 0, [])), (249, .iconst 1, 1, (0, 0, 0, 1, 0, [])), (250, .if_icmp .ne 7, 3, (257, 0, 0, 0, 0, [])), (253, .iconst 1, 1, (0, 0, 0, 1, 0, [])), (254, .goto 4, 3, (258, 0, 0, 0, 0, [])), (257, .iconst 0, 1, (0, 0, 0, 0, 0, [])), (258, .if_icmp .ne 7, 3, (265, 0, 0, 0, 0, [])), (261, .iconst 1, 1, (0, 0, 0, 1, 0, [])), (262, .goto 4, 3, (266, 0, 0, 0, 0, []))]),
  (269, [(265, .iconst 0, 1, (0, 0, 0, 0, 0, [])), (266, .ireturn, 1, (0, 0, 0, 0, 0, [])), (267, .iconst 0, 1, (0, 0, 0, 0, 0, [])), (268, .ireturn, 1, (0, 0, 0, 0, 0, []))])]
def zt_X8_happens : List (Nat × List zv_E) := [
  (11, [(0, .iload_n 1, 1, (1, 0, 0, 0, 0, [])), (1, .iconst 2, 1, (0, 0, 0, 2, 0, [])), (2, .if_icmp .ne 17, 3, (19, 0, 0, 0, 0, [])), (5, .aload_n 0, 1, (0, 0, 0, 0, 0, [])), (6, .getfield 19, 3, (8, 1, 2, 0, 0, [])), (9, .iload_n 2, 1, (2, 0, 0, 0, 0, [])), (10, .invokevirtual 121, 3, (23, 2, 1, 0, 0, []))]),
  (28, [(13, .ifCond .ne 19, 3, (32, 0, 0, 0, 0, [])), (16, .goto 14, 3, (30, 0, 0, 0, 0, [])), (19, .aload_n 0, 1, (0, 0, 0, 0, 0, [])), (20, .getfield 19, 3, (8, 1, 2, 0, 0, [])), (23, .iload_n 2, 1, (2, 0, 0, 0, 0, [])), (24, .invokevirtual 103, 3, (22, 2, 1, 0, 0, [])), (27, .ifCond .ne 5, 3, (32, 0, 0, 0, 0, []))]),
  (39, [(30, .iconst 0, 1, (0, 0, 0, 0, 0, [])), (31, .ireturn, 1, (0, 0, 0, 0, 0, [])), (32, .iload_n 1, 1, (1, 0, 0, 0, 0, [])), (33, .iconst 1, 1, (0, 0, 0, 1, 0, [])), (34, .if_icmp .ne 15, 3, (49, 0, 0, 0, 0, [])), (37, .aload_n 0, 1, (0, 0, 0, 0, 0, [])), (38, .getfield 32, 3, (8, 3, 2, 0, 0, []))]),
  (52, [(41, .iload_n 2, 1, (2, 0, 0, 0, 0, [])), (42, .invokevirtual 144, 3, (56, 2, 1, 0, 0, [])), (45, .pop, 1, (0, 0, 0, 0, 0, [])), (46, .goto 33, 3, (79, 0, 0, 0, 0, [])), (49, .iload_n 1, 1, (1, 0, 0, 0, 0, [])), (50, .iconst 2, 1, (0, 0, 0, 2, 0, [])), (51, .if_icmp .ne 17, 3, (68, 0, 0, 0, 0, []))]),
  (69, [(54, .aload_n 0, 1, (0, 0, 0, 0, 0, [])), (55, .getfield 32, 3, (8, 3, 2, 0, 0, [])), (58, .getfield 107, 3, (6, 1, 2, 0, 0, [])), (61, .iload_n 2, 1, (2, 0, 0, 0, 0, [])), (62, .invokevirtual 154, 3, (72, 2, 0, 0, 0, [])), (65, .goto 14, 3, (79, 0, 0, 0, 0, [])), (68, .aload_n 0, 1, (0, 0, 0, 0, 0, []))]),
  (81, [(69, .getfield 32, 3, (8, 3, 2, 0, 0, [])), (72, .getfield 107, 3, (6, 1, 2, 0, 0, [])), (75, .iload_n 2, 1, (2, 0, 0, 0, 0, [])), (76, .invokevirtual 162, 3, (73, 2, 0, 0, 0, [])), (79, .iconst 1, 1, (0, 0, 0, 1, 0, [])), (80, .ireturn, 1, (0, 0, 0, 0, 0, []))])]
def zt_X8_canBeAnswer : List (Nat × List zv_E) := [
  (12, [(0, .aload_n 0, 1, (0, 0, 0, 0, 0, [])), (1, .getfield 19, 3, (8, 1, 2, 0, 0, [])), (4, .iload_n 1, 1, (1, 0, 0, 0, 0, [])), (5, .invokevirtual 103, 3, (22, 2, 1, 0, 0, [])), (8, .ifCond .eq 24, 3, (32, 0, 0, 0, 0, [])), (11, .aload_n 0, 1, (0, 0, 0, 0, 0, []))]),
  (24, [(12, .getfield 19, 3, (8, 1, 2, 0, 0, [])), (15, .iload_n 2, 1, (2, 0, 0, 0, 0, [])), (16, .invokevirtual 121, 3, (23, 2, 1, 0, 0, [])), (19, .ifCond .ne 9, 3, (28, 0, 0, 0, 0, [])), (22, .iload_n 2, 1, (2, 0, 0, 0, 0, [])), (23, .bipush 9, 2, (0, 0, 0, 9, 0, []))]),
  (34, [(25, .if_icmp .ne 7, 3, (32, 0, 0, 0, 0, [])), (28, .iconst 1, 1, (0, 0, 0, 1, 0, [])), (29, .goto 4, 3, (33, 0, 0, 0, 0, [])), (32, .iconst 0, 1, (0, 0, 0, 0, 0, [])), (33, .ireturn, 1, (0, 0, 0, 0, 0, []))])]
def zt_X8_isExit : List (Nat × List zv_E) := [
  (9, [(0, .iload_n 0, 1, (0, 0, 0, 0, 0, [])), (1, .iload_n 1, 1, (1, 0, 0, 0, 0, [])), (2, .bipush 9, 2, (0, 0, 0, 9, 0, [])), (4, .if_icmp .ne 7, 3, (11, 0, 0, 0, 0, [])), (7, .iconst (-1), 1, (0, 0, 0, (-1), 0, [])), (8, .goto 4, 3, (12, 0, 0, 0, 0, []))]),
  (21, [(11, .iload_n 1, 1, (1, 0, 0, 0, 0, [])), (12, .if_icmp .ne 7, 3, (19, 0, 0, 0, 0, [])), (15, .iconst 1, 1, (0, 0, 0, 1, 0, [])), (16, .goto 4, 3, (20, 0, 0, 0, 0, [])), (19, .iconst 0, 1, (0, 0, 0, 0, 0, [])), (20, .ireturn, 1, (0, 0, 0, 0, 0, []))])]
def zt_X9_init : List (Nat × List zv_E) := [
  (18, [(0, .aload_n 0, 1, (0, 0, 0, 0, 0, [])), (1, .invokespecial 1, 3, (998, 1, 0, 0, 0, [])), (4, .aload_n 0, 1, (0, 0, 0, 0, 0, [])), (5, .bipush 90, 2, (0, 0, 0, 90, 0, [])), (7, .newarray .int, 2, (11, 0, 0, 0, 0, [])), (9, .putfield 7, 3, (9, 1, 2, 0, 0, [])), (12, .aload_n 0, 1, (0, 0, 0, 0, 0, [])), (13, .bipush 101, 2, (0, 0, 0, 101, 0, [])), (15, .newarray .int, 2, (11, 0, 0, 0, 0, [])), (17, .putfield 13, 3, (9, 5, 2, 0, 0, []))]),
  (38, [(20, .aload_n 0, 1, (0, 0, 0, 0, 0, [])), (21, .bipush 101, 2, (0, 0, 0, 101, 0, [])), (23, .newarray .int, 2, (11, 0, 0, 0, 0, [])), (25, .putfield 16, 3, (9, 6, 2, 0, 0, [])), (28, .aload_n 0, 1, (0, 0, 0, 0, 0, [])), (29, .bipush 101, 2, (0, 0, 0, 101, 0, [])), (31, .newarray .int, 2, (11, 0, 0, 0, 0, [])), (33, .putfield 19, 3, (9, 7, 2, 0, 0, [])), (36, .aload_n 0, 1, (0, 0, 0, 0, 0, [])), (37, .bipush 101, 2, (0, 0, 0, 101, 0, []))]),
  (60, [(39, .newarray .int, 2, (11, 0, 0, 0, 0, [])), (41, .putfield 22, 3, (9, 8, 2, 0, 0, [])), (44, .aload_n 0, 1, (0, 0, 0, 0, 0, [])), (45, .sipush 1414, 3, (0, 0, 0, 1414, 0, [])), (48, .newarray .int, 2, (11, 0, 0, 0, 0, [])), (50, .putfield 25, 3, (9, 9, 2, 0, 0, [])), (53, .aload_n 0, 1, (0, 0, 0, 0, 0, [])), (54, .sipush 202, 3, (0, 0, 0, 202, 0, [])), (57, .newarray .int, 2, (11, 0, 0, 0, 0, [])), (59, .putfield 28, 3, (9, 11, 2, 0, 0, []))]),
  (79, [(62, .aload_n 0, 1, (0, 0, 0, 0, 0, [])), (63, .iconst 2, 1, (0, 0, 0, 2, 0, [])), (64, .newarray .boolean, 2, (12, 0, 0, 0, 0, [])), (66, .putfield 31, 3, (9, 12, 2, 0, 0, [])), (69, .aload_n 0, 1, (0, 0, 0, 0, 0, [])), (70, .bipush 6, 2, (0, 0, 0, 6, 0, [])), (72, .newarray .int, 2, (11, 0, 0, 0, 0, [])), (74, .putfield 35, 3, (9, 14, 2, 0, 0, [])), (77, .aload_n 0, 1, (0, 0, 0, 0, 0, [])), (78, .bipush 6, 2, (0, 0, 0, 6, 0, []))]),
  (99, [(80, .newarray .int, 2, (11, 0, 0, 0, 0, [])), (82, .putfield 38, 3, (9, 15, 2, 0, 0, [])), (85, .aload_n 0, 1, (0, 0, 0, 0, 0, [])), (86, .bipush 6, 2, (0, 0, 0, 6, 0, [])), (88, .newarray .int, 2, (11, 0, 0, 0, 0, [])), (90, .putfield 41, 3, (9, 16, 2, 0, 0, [])), (93, .aload_n 0, 1, (0, 0, 0, 0, 0, [])), (94, .bipush 25, 2, (0, 0, 0, 25, 0, [])), (96, .newarray .int, 2, (11, 0, 0, 0, 0, [])), (98, .putfield 44, 3, (9, 18, 2, 0, 0, []))]),
  (117, [(101, .aload_n 0, 1, (0, 0, 0, 0, 0, [])), (102, .iconst 4, 1, (0, 0, 0, 4, 0, [])), (103, .newarray .int, 2, (11, 0, 0, 0, 0, [])), (105, .putfield 47, 3, (9, 19, 2, 0, 0, [])), (108, .aload_n 0, 1, (0, 0, 0, 0, 0, [])), (109, .iconst 4, 1, (0, 0, 0, 4, 0, [])), (110, .newarray .int, 2, (11, 0, 0, 0, 0, [])), (112, .putfield 50, 3, (9, 20, 2, 0, 0, [])), (115, .aload_n 0, 1, (0, 0, 0, 0, 0, [])), (116, .bipush 6, 2, (0, 0, 0, 6, 0, []))]),
  (138, [(118, .newarray .int, 2, (11, 0, 0, 0, 0, [])), (120, .putfield 53, 3, (9, 21, 2, 0, 0, [])), (123, .aload_n 0, 1, (0, 0, 0, 0, 0, [])), (124, .bipush 30, 2, (0, 0, 0, 30, 0, [])), (126, .newarray .int, 2, (11, 0, 0, 0, 0, [])), (128, .putfield 56, 3, (9, 22, 2, 0, 0, [])), (131, .aload_n 0, 1, (0, 0, 0, 0, 0, [])), (132, .sipush 1830, 3, (0, 0, 0, 1830, 0, [])), (135, .newarray .int, 2, (11, 0, 0, 0, 0, [])), (137, .putfield 59, 3, (9, 23, 2, 0, 0, []))]),
  (158, [(140, .aload_n 0, 1, (0, 0, 0, 0, 0, [])), (141, .bipush 120, 2, (0, 0, 0, 120, 0, [])), (143, .newarray .int, 2, (11, 0, 0, 0, 0, [])), (145, .putfield 62, 3, (9, 27, 2, 0, 0, [])), (148, .aload_n 0, 1, (0, 0, 0, 0, 0, [])), (149, .bipush 16, 2, (0, 0, 0, 16, 0, [])), (151, .newarray .int, 2, (11, 0, 0, 0, 0, [])), (153, .putfield 65, 3, (9, 28, 2, 0, 0, [])), (156, .aload_n 0, 1, (0, 0, 0, 0, 0, [])), (157, .getfield 16, 3, (9, 6, 2, 0, 0, []))]),
  (171, [(160, .iconst 0, 1, (0, 0, 0, 0, 0, [])), (161, .iconst 1, 1, (0, 0, 0, 1, 0, [])), (162, .iastore, 1, (0, 0, 0, 0, 0, [])), (163, .aload_n 0, 1, (0, 0, 0, 0, 0, [])), (164, .getfield 16, 3, (9, 6, 2, 0, 0, [])), (167, .invokestatic 68, 3, (133, 1, 0, 0, 0, [])), (170, .return_, 1, (0, 0, 0, 0, 0, []))])]
def zt_X9_in : List (Nat × List zv_E) := [
  (8, [(0, .lload_n 0, 1, (0, 0, 0, 0, 0, [])), (1, .lload_n 2, 1, (2, 0, 0, 0, 0, [])), (2, .lcmp, 1, (0, 0, 0, 0, 0, [])), (3, .ifCond .lt 14, 3, (17, 0, 0, 0, 0, [])), (6, .lload_n 0, 1, (0, 0, 0, 0, 0, [])), (7, .lload 4, 2, (4, 0, 0, 0, 0, []))]),
  (19, [(9, .lcmp, 1, (0, 0, 0, 0, 0, [])), (10, .ifCond .gt 7, 3, (17, 0, 0, 0, 0, [])), (13, .iconst 1, 1, (0, 0, 0, 1, 0, [])), (14, .goto 4, 3, (18, 0, 0, 0, 0, [])), (17, .iconst 0, 1, (0, 0, 0, 0, 0, [])), (18, .ireturn, 1, (0, 0, 0, 0, 0, []))])]
def zt_X9_has : List (Nat × List zv_E) := [
  (6, [(0, .iload_n 0, 1, (0, 0, 0, 0, 0, [])), (1, .iload_n 1, 1, (1, 0, 0, 0, 0, [])), (2, .ishr, 1, (0, 0, 0, 0, 0, [])), (3, .iconst 1, 1, (0, 0, 0, 1, 0, [])), (4, .iand, 1, (0, 0, 0, 0, 0, [])), (5, .iconst 1, 1, (0, 0, 0, 1, 0, []))]),
  (15, [(6, .if_icmp .ne 7, 3, (13, 0, 0, 0, 0, [])), (9, .iconst 1, 1, (0, 0, 0, 1, 0, [])), (10, .goto 4, 3, (14, 0, 0, 0, 0, [])), (13, .iconst 0, 1, (0, 0, 0, 0, 0, [])), (14, .ireturn, 1, (0, 0, 0, 0, 0, []))])]
def zt_X9_ones : List (Nat × List zv_E) := [
  (6, [(0, .iconst 0, 1, (0, 0, 0, 0, 0, [])), (1, .istore_n 1, 1, (1, 0, 0, 0, 0, [])), (2, .iconst 0, 1, (0, 0, 0, 0, 0, [])), (3, .istore_n 2, 1, (2, 0, 0, 0, 0, [])), (4, .iload_n 2, 1, (2, 0, 0, 0, 0, [])), (5, .iconst 5, 1, (0, 0, 0, 5, 0, []))]),
  (14, [(6, .if_icmp .ge 17, 3, (23, 0, 0, 0, 0, [])), (9, .iload_n 1, 1, (1, 0, 0, 0, 0, [])), (10, .iload_n 0, 1, (0, 0, 0, 0, 0, [])), (11, .iload_n 2, 1, (2, 0, 0, 0, 0, [])), (12, .ishr, 1, (0, 0, 0, 0, 0, [])), (13, .iconst 1, 1, (0, 0, 0, 1, 0, []))]),
  (24, [(14, .iand, 1, (0, 0, 0, 0, 0, [])), (15, .iadd, 1, (0, 0, 0, 0, 0, [])), (16, .istore_n 1, 1, (1, 0, 0, 0, 0, [])), (17, .iinc 2 1, 3, (2, 0, 0, 1, 0, [])), (20, .goto (-16), 3, (4, 0, 0, 0, 0, [])), (23, .iload_n 1, 1, (1, 0, 0, 0, 0, []))]),
  (25, [(24, .ireturn, 1, (0, 0, 0, 0, 0, []))])]
def zt_X9_power : List (Nat × List zv_E) := [
  (6, [(0, .iconst 1, 1, (0, 0, 0, 1, 0, [])), (1, .istore_n 2, 1, (2, 0, 0, 0, 0, [])), (2, .iconst 0, 1, (0, 0, 0, 0, 0, [])), (3, .istore_n 3, 1, (3, 0, 0, 0, 0, [])), (4, .iload_n 3, 1, (3, 0, 0, 0, 0, [])), (5, .iload_n 1, 1, (1, 0, 0, 0, 0, []))]),
  (14, [(6, .if_icmp .ge 13, 3, (19, 0, 0, 0, 0, [])), (9, .iload_n 2, 1, (2, 0, 0, 0, 0, [])), (10, .iload_n 0, 1, (0, 0, 0, 0, 0, [])), (11, .imul, 1, (0, 0, 0, 0, 0, [])), (12, .istore_n 2, 1, (2, 0, 0, 0, 0, [])), (13, .iinc 3 1, 3, (3, 0, 0, 1, 0, []))]),
  (21, [(16, .goto (-12), 3, (4, 0, 0, 0, 0, [])), (19, .iload_n 2, 1, (2, 0, 0, 0, 0, [])), (20, .ireturn, 1, (0, 0, 0, 0, 0, []))])]
def zt_X9_clearChoices : List (Nat × List zv_E) := [
  (10, [(0, .bipush 71, 2, (0, 0, 0, 71, 0, [])), (2, .istore_n 1, 1, (1, 0, 0, 0, 0, [])), (3, .iload_n 1, 1, (1, 0, 0, 0, 0, [])), (4, .bipush 101, 2, (0, 0, 0, 101, 0, [])), (6, .if_icmp .ge 14, 3, (20, 0, 0, 0, 0, [])), (9, .aload_n 0, 1, (0, 0, 0, 0, 0, []))]),
  (21, [(10, .iload_n 1, 1, (1, 0, 0, 0, 0, [])), (11, .bipush (-9), 2, (0, 0, 0, (-9), 0, [])), (13, .iastore, 1, (0, 0, 0, 0, 0, [])), (14, .iinc 1 1, 3, (1, 0, 0, 1, 0, [])), (17, .goto (-14), 3, (3, 0, 0, 0, 0, [])), (20, .return_, 1, (0, 0, 0, 0, 0, []))])]
def zt_X9_lay : List (Nat × List zv_E) := [
  (9, [(0, .iconst 0, 1, (0, 0, 0, 0, 0, [])), (1, .istore_n 2, 1, (2, 0, 0, 0, 0, [])), (2, .iload_n 2, 1, (2, 0, 0, 0, 0, [])), (3, .bipush 101, 2, (0, 0, 0, 101, 0, [])), (5, .if_icmp .ge 15, 3, (20, 0, 0, 0, 0, [])), (8, .aload_n 0, 1, (0, 0, 0, 0, 0, []))]),
  (15, [(9, .iload_n 2, 1, (2, 0, 0, 0, 0, [])), (10, .aload_n 1, 1, (1, 0, 0, 0, 0, [])), (11, .iload_n 2, 1, (2, 0, 0, 0, 0, [])), (12, .iaload, 1, (0, 0, 0, 0, 0, [])), (13, .iastore, 1, (0, 0, 0, 0, 0, [])), (14, .iinc 2 1, 3, (2, 0, 0, 1, 0, []))]),
  (21, [(17, .goto (-15), 3, (2, 0, 0, 0, 0, [])), (20, .return_, 1, (0, 0, 0, 0, 0, []))])]
def zt_X9_noRouter : List (Nat × List zv_E) := [
  (8, [(0, .iload_n 1, 1, (1, 0, 0, 0, 0, [])), (1, .i2l, 1, (0, 0, 0, 0, 0, [])), (2, .lconst 0, 1, (0, 0, 0, 0, 0, [])), (3, .aload_n 0, 1, (0, 0, 0, 0, 0, [])), (4, .getfield 16, 3, (9, 6, 2, 0, 0, [])), (7, .iconst 0, 1, (0, 0, 0, 0, 0, []))]),
  (16, [(8, .iaload, 1, (0, 0, 0, 0, 0, [])), (9, .iconst 1, 1, (0, 0, 0, 1, 0, [])), (10, .isub, 1, (0, 0, 0, 0, 0, [])), (11, .i2l, 1, (0, 0, 0, 0, 0, [])), (12, .invokestatic 76, 3, (129, 3, 1, 0, 0, [])), (15, .ifCond .ne 7, 3, (22, 0, 0, 0, 0, []))]),
  (24, [(18, .iconst 1, 1, (0, 0, 0, 1, 0, [])), (19, .goto 4, 3, (23, 0, 0, 0, 0, [])), (22, .iconst 0, 1, (0, 0, 0, 0, 0, [])), (23, .ireturn, 1, (0, 0, 0, 0, 0, []))])]
def zt_X9_noExit : List (Nat × List zv_E) := [
  (8, [(0, .iload_n 1, 1, (1, 0, 0, 0, 0, [])), (1, .i2l, 1, (0, 0, 0, 0, 0, [])), (2, .lconst 0, 1, (0, 0, 0, 0, 0, [])), (3, .aload_n 0, 1, (0, 0, 0, 0, 0, [])), (4, .getfield 16, 3, (9, 6, 2, 0, 0, [])), (7, .iconst 1, 1, (0, 0, 0, 1, 0, []))]),
  (16, [(8, .iaload, 1, (0, 0, 0, 0, 0, [])), (9, .iconst 1, 1, (0, 0, 0, 1, 0, [])), (10, .isub, 1, (0, 0, 0, 0, 0, [])), (11, .i2l, 1, (0, 0, 0, 0, 0, [])), (12, .invokestatic 76, 3, (129, 3, 1, 0, 0, [])), (15, .ifCond .ne 7, 3, (22, 0, 0, 0, 0, []))]),
  (24, [(18, .iconst 1, 1, (0, 0, 0, 1, 0, [])), (19, .goto 4, 3, (23, 0, 0, 0, 0, [])), (22, .iconst 0, 1, (0, 0, 0, 0, 0, [])), (23, .ireturn, 1, (0, 0, 0, 0, 0, []))])]
def zt_X9_pair : List (Nat × List zv_E) := [
  (6, [(0, .iload_n 0, 1, (0, 0, 0, 0, 0, [])), (1, .iconst 5, 1, (0, 0, 0, 5, 0, [])), (2, .iload_n 1, 1, (1, 0, 0, 0, 0, [])), (3, .imul, 1, (0, 0, 0, 0, 0, [])), (4, .iadd, 1, (0, 0, 0, 0, 0, [])), (5, .iload_n 2, 1, (2, 0, 0, 0, 0, []))]),
  (8, [(6, .iadd, 1, (0, 0, 0, 0, 0, [])), (7, .ireturn, 1, (0, 0, 0, 0, 0, []))])]
def zt_X9_write : List (Nat × List zv_E) := [
  (8, [(0, .aload_n 0, 1, (0, 0, 0, 0, 0, [])), (1, .iconst 0, 1, (0, 0, 0, 0, 0, [])), (2, .putfield 72, 3, (9, 0, 0, 0, 0, [])), (5, .iload_n 1, 1, (1, 0, 0, 0, 0, [])), (6, .i2l, 1, (0, 0, 0, 0, 0, [])), (7, .lconst 0, 1, (0, 0, 0, 0, 0, []))]),
  (21, [(8, .ldc2_w 80, 3, (0, 0, 0, 0, 255, [])), (11, .invokestatic 76, 3, (129, 3, 1, 0, 0, [])), (14, .ifCond .ne 6, 3, (20, 0, 0, 0, 0, [])), (17, .bipush (-2), 2, (0, 0, 0, (-2), 0, [])), (19, .ireturn, 1, (0, 0, 0, 0, 0, [])), (20, .aload_n 0, 1, (0, 0, 0, 0, 0, []))]),
  (33, [(21, .getfield 82, 3, (9, 2, 0, 0, 0, [])), (24, .bipush 90, 2, (0, 0, 0, 90, 0, [])), (26, .if_icmp .ne 6, 3, (32, 0, 0, 0, 0, [])), (29, .bipush (-4), 2, (0, 0, 0, (-4), 0, [])), (31, .ireturn, 1, (0, 0, 0, 0, 0, [])), (32, .aload_n 0, 1, (0, 0, 0, 0, 0, []))]),
  (43, [(33, .getfield 7, 3, (9, 1, 2, 0, 0, [])), (36, .aload_n 0, 1, (0, 0, 0, 0, 0, [])), (37, .getfield 82, 3, (9, 2, 0, 0, 0, [])), (40, .iload_n 1, 1, (1, 0, 0, 0, 0, [])), (41, .iastore, 1, (0, 0, 0, 0, 0, [])), (42, .aload_n 0, 1, (0, 0, 0, 0, 0, []))]),
  (53, [(43, .dup, 1, (0, 0, 0, 0, 0, [])), (44, .getfield 82, 3, (9, 2, 0, 0, 0, [])), (47, .iconst 1, 1, (0, 0, 0, 1, 0, [])), (48, .iadd, 1, (0, 0, 0, 0, 0, [])), (49, .putfield 82, 3, (9, 2, 0, 0, 0, [])), (52, .aload_n 0, 1, (0, 0, 0, 0, 0, []))]),
  (57, [(53, .getfield 82, 3, (9, 2, 0, 0, 0, [])), (56, .ireturn, 1, (0, 0, 0, 0, 0, []))])]
def zt_X9_wipe : List (Nat × List zv_E) := [
  (10, [(0, .aload_n 0, 1, (0, 0, 0, 0, 0, [])), (1, .iconst 0, 1, (0, 0, 0, 0, 0, [])), (2, .putfield 72, 3, (9, 0, 0, 0, 0, [])), (5, .aload_n 0, 1, (0, 0, 0, 0, 0, [])), (6, .getfield 82, 3, (9, 2, 0, 0, 0, [])), (9, .istore_n 1, 1, (1, 0, 0, 0, 0, []))]),
  (17, [(10, .aload_n 0, 1, (0, 0, 0, 0, 0, [])), (11, .iconst 0, 1, (0, 0, 0, 0, 0, [])), (12, .putfield 82, 3, (9, 2, 0, 0, 0, [])), (15, .iload_n 1, 1, (1, 0, 0, 0, 0, [])), (16, .ireturn, 1, (0, 0, 0, 0, 0, []))])]
def zt_X9_figure : List (Nat × List zv_E) := [
  (13, [(0, .aload_n 0, 1, (0, 0, 0, 0, 0, [])), (1, .getfield 85, 3, (9, 3, 0, 0, 0, [])), (4, .aload_n 0, 1, (0, 0, 0, 0, 0, [])), (5, .getfield 82, 3, (9, 2, 0, 0, 0, [])), (8, .if_icmp .eq 26, 3, (34, 0, 0, 0, 0, [])), (11, .aload_n 0, 1, (0, 0, 0, 0, 0, [])), (12, .getfield 7, 3, (9, 1, 2, 0, 0, []))]),
  (25, [(15, .aload_n 0, 1, (0, 0, 0, 0, 0, [])), (16, .getfield 85, 3, (9, 3, 0, 0, 0, [])), (19, .iaload, 1, (0, 0, 0, 0, 0, [])), (20, .bipush 48, 2, (0, 0, 0, 48, 0, [])), (22, .isub, 1, (0, 0, 0, 0, 0, [])), (23, .i2l, 1, (0, 0, 0, 0, 0, [])), (24, .iload_n 1, 1, (1, 0, 0, 0, 0, []))]),
  (37, [(25, .i2l, 1, (0, 0, 0, 0, 0, [])), (26, .iload_n 2, 1, (2, 0, 0, 0, 0, [])), (27, .i2l, 1, (0, 0, 0, 0, 0, [])), (28, .invokestatic 76, 3, (129, 3, 1, 0, 0, [])), (31, .ifCond .ne 6, 3, (37, 0, 0, 0, 0, [])), (34, .bipush (-9), 2, (0, 0, 0, (-9), 0, [])), (36, .ireturn, 1, (0, 0, 0, 0, 0, []))]),
  (48, [(37, .aload_n 0, 1, (0, 0, 0, 0, 0, [])), (38, .dup, 1, (0, 0, 0, 0, 0, [])), (39, .getfield 85, 3, (9, 3, 0, 0, 0, [])), (42, .iconst 1, 1, (0, 0, 0, 1, 0, [])), (43, .iadd, 1, (0, 0, 0, 0, 0, [])), (44, .putfield 85, 3, (9, 3, 0, 0, 0, [])), (47, .aload_n 0, 1, (0, 0, 0, 0, 0, []))]),
  (59, [(48, .getfield 7, 3, (9, 1, 2, 0, 0, [])), (51, .aload_n 0, 1, (0, 0, 0, 0, 0, [])), (52, .getfield 85, 3, (9, 3, 0, 0, 0, [])), (55, .iconst 1, 1, (0, 0, 0, 1, 0, [])), (56, .isub, 1, (0, 0, 0, 0, 0, [])), (57, .iaload, 1, (0, 0, 0, 0, 0, [])), (58, .bipush 48, 2, (0, 0, 0, 48, 0, []))]),
  (62, [(60, .isub, 1, (0, 0, 0, 0, 0, [])), (61, .ireturn, 1, (0, 0, 0, 0, 0, []))])]
def zt_X9_apart : List (Nat × List zv_E) := [
  (8, [(0, .iconst 0, 1, (0, 0, 0, 0, 0, [])), (1, .istore_n 3, 1, (3, 0, 0, 0, 0, [])), (2, .iconst 0, 1, (0, 0, 0, 0, 0, [])), (3, .istore 4, 2, (4, 0, 0, 0, 0, [])), (5, .iload 4, 2, (4, 0, 0, 0, 0, [])), (7, .aload_n 0, 1, (0, 0, 0, 0, 0, []))]),
  (18, [(8, .getfield 13, 3, (9, 5, 2, 0, 0, [])), (11, .iconst 0, 1, (0, 0, 0, 0, 0, [])), (12, .iaload, 1, (0, 0, 0, 0, 0, [])), (13, .if_icmp .ge 38, 3, (51, 0, 0, 0, 0, [])), (16, .iload_n 3, 1, (3, 0, 0, 0, 0, [])), (17, .iload 4, 2, (4, 0, 0, 0, 0, []))]),
  (29, [(19, .iload_n 2, 1, (2, 0, 0, 0, 0, [])), (20, .if_icmp .eq 22, 3, (42, 0, 0, 0, 0, [])), (23, .aload_n 0, 1, (0, 0, 0, 0, 0, [])), (24, .getfield 13, 3, (9, 5, 2, 0, 0, [])), (27, .iload_n 1, 1, (1, 0, 0, 0, 0, [])), (28, .iload_n 2, 1, (2, 0, 0, 0, 0, []))]),
  (40, [(29, .iload 4, 2, (4, 0, 0, 0, 0, [])), (31, .invokestatic 88, 3, (137, 3, 1, 0, 0, [])), (34, .iaload, 1, (0, 0, 0, 0, 0, [])), (35, .ifCond .ne 7, 3, (42, 0, 0, 0, 0, [])), (38, .iconst 1, 1, (0, 0, 0, 1, 0, [])), (39, .goto 4, 3, (43, 0, 0, 0, 0, []))]),
  (52, [(42, .iconst 0, 1, (0, 0, 0, 0, 0, [])), (43, .iadd, 1, (0, 0, 0, 0, 0, [])), (44, .istore_n 3, 1, (3, 0, 0, 0, 0, [])), (45, .iinc 4 1, 3, (4, 0, 0, 1, 0, [])), (48, .goto (-43), 3, (5, 0, 0, 0, 0, [])), (51, .iload_n 3, 1, (3, 0, 0, 0, 0, []))]),
  (53, [(52, .ireturn, 1, (0, 0, 0, 0, 0, []))])]
def zt_X9_isAnyApart : List (Nat × List zv_E) := [
  (6, [(0, .iconst 0, 1, (0, 0, 0, 0, 0, [])), (1, .istore_n 2, 1, (2, 0, 0, 0, 0, [])), (2, .iconst 0, 1, (0, 0, 0, 0, 0, [])), (3, .istore_n 3, 1, (3, 0, 0, 0, 0, [])), (4, .iload_n 3, 1, (3, 0, 0, 0, 0, [])), (5, .aload_n 0, 1, (0, 0, 0, 0, 0, []))]),
  (16, [(6, .getfield 13, 3, (9, 5, 2, 0, 0, [])), (9, .iconst 0, 1, (0, 0, 0, 0, 0, [])), (10, .iaload, 1, (0, 0, 0, 0, 0, [])), (11, .if_icmp .ge 18, 3, (29, 0, 0, 0, 0, [])), (14, .iload_n 2, 1, (2, 0, 0, 0, 0, [])), (15, .aload_n 0, 1, (0, 0, 0, 0, 0, []))]),
  (24, [(16, .iload_n 1, 1, (1, 0, 0, 0, 0, [])), (17, .iload_n 3, 1, (3, 0, 0, 0, 0, [])), (18, .invokevirtual 92, 3, (141, 3, 1, 0, 0, [])), (21, .iadd, 1, (0, 0, 0, 0, 0, [])), (22, .istore_n 2, 1, (2, 0, 0, 0, 0, [])), (23, .iinc 3 1, 3, (3, 0, 0, 1, 0, []))]),
  (38, [(26, .goto (-22), 3, (4, 0, 0, 0, 0, [])), (29, .iload_n 2, 1, (2, 0, 0, 0, 0, [])), (30, .ifCond .le 7, 3, (37, 0, 0, 0, 0, [])), (33, .iconst 1, 1, (0, 0, 0, 1, 0, [])), (34, .goto 4, 3, (38, 0, 0, 0, 0, [])), (37, .iconst 0, 1, (0, 0, 0, 0, 0, []))]),
  (39, [(38, .ireturn, 1, (0, 0, 0, 0, 0, []))])]
def zt_X9_readTwo : List (Nat × List zv_E) := [
  (11, [(0, .aload_n 0, 1, (0, 0, 0, 0, 0, [])), (1, .aload_n 0, 1, (0, 0, 0, 0, 0, [])), (2, .iconst 0, 1, (0, 0, 0, 0, 0, [])), (3, .aload_n 0, 1, (0, 0, 0, 0, 0, [])), (4, .getfield 13, 3, (9, 5, 2, 0, 0, [])), (7, .iconst 0, 1, (0, 0, 0, 0, 0, [])), (8, .iaload, 1, (0, 0, 0, 0, 0, [])), (9, .iconst 1, 1, (0, 0, 0, 1, 0, [])), (10, .isub, 1, (0, 0, 0, 0, 0, []))]),
  (29, [(11, .invokevirtual 96, 3, (140, 3, 1, 0, 0, [])), (14, .putfield 99, 3, (9, 29, 0, 0, 0, [])), (17, .aload_n 0, 1, (0, 0, 0, 0, 0, [])), (18, .getfield 99, 3, (9, 29, 0, 0, 0, [])), (21, .bipush (-9), 2, (0, 0, 0, (-9), 0, [])), (23, .if_icmp .ne 5, 3, (28, 0, 0, 0, 0, [])), (26, .iconst 0, 1, (0, 0, 0, 0, 0, [])), (27, .ireturn, 1, (0, 0, 0, 0, 0, [])), (28, .aload_n 0, 1, (0, 0, 0, 0, 0, []))]),
  (46, [(29, .iload_n 1, 1, (1, 0, 0, 0, 0, [])), (30, .aload_n 0, 1, (0, 0, 0, 0, 0, [])), (31, .getfield 99, 3, (9, 29, 0, 0, 0, [])), (34, .invokevirtual 92, 3, (141, 3, 1, 0, 0, [])), (37, .ifCond .ne 15, 3, (52, 0, 0, 0, 0, [])), (40, .aload_n 0, 1, (0, 0, 0, 0, 0, [])), (41, .dup, 1, (0, 0, 0, 0, 0, [])), (42, .getfield 85, 3, (9, 3, 0, 0, 0, [])), (45, .iconst 1, 1, (0, 0, 0, 1, 0, []))]),
  (57, [(46, .isub, 1, (0, 0, 0, 0, 0, [])), (47, .putfield 85, 3, (9, 3, 0, 0, 0, [])), (50, .iconst 0, 1, (0, 0, 0, 0, 0, [])), (51, .ireturn, 1, (0, 0, 0, 0, 0, [])), (52, .aload_n 0, 1, (0, 0, 0, 0, 0, [])), (53, .aload_n 0, 1, (0, 0, 0, 0, 0, [])), (54, .iconst 0, 1, (0, 0, 0, 0, 0, [])), (55, .aload_n 0, 1, (0, 0, 0, 0, 0, [])), (56, .getfield 13, 3, (9, 5, 2, 0, 0, []))]),
  (74, [(59, .iconst 0, 1, (0, 0, 0, 0, 0, [])), (60, .iaload, 1, (0, 0, 0, 0, 0, [])), (61, .iconst 1, 1, (0, 0, 0, 1, 0, [])), (62, .isub, 1, (0, 0, 0, 0, 0, [])), (63, .invokevirtual 96, 3, (140, 3, 1, 0, 0, [])), (66, .putfield 102, 3, (9, 30, 0, 0, 0, [])), (69, .aload_n 0, 1, (0, 0, 0, 0, 0, [])), (70, .getfield 102, 3, (9, 30, 0, 0, 0, [])), (73, .bipush (-9), 2, (0, 0, 0, (-9), 0, []))]),
  (92, [(75, .if_icmp .ne 5, 3, (80, 0, 0, 0, 0, [])), (78, .iconst 0, 1, (0, 0, 0, 0, 0, [])), (79, .ireturn, 1, (0, 0, 0, 0, 0, [])), (80, .aload_n 0, 1, (0, 0, 0, 0, 0, [])), (81, .getfield 102, 3, (9, 30, 0, 0, 0, [])), (84, .aload_n 0, 1, (0, 0, 0, 0, 0, [])), (85, .getfield 99, 3, (9, 29, 0, 0, 0, [])), (88, .if_icmp .eq 23, 3, (111, 0, 0, 0, 0, [])), (91, .aload_n 0, 1, (0, 0, 0, 0, 0, []))]),
  (109, [(92, .getfield 13, 3, (9, 5, 2, 0, 0, [])), (95, .iload_n 1, 1, (1, 0, 0, 0, 0, [])), (96, .aload_n 0, 1, (0, 0, 0, 0, 0, [])), (97, .getfield 99, 3, (9, 29, 0, 0, 0, [])), (100, .aload_n 0, 1, (0, 0, 0, 0, 0, [])), (101, .getfield 102, 3, (9, 30, 0, 0, 0, [])), (104, .invokestatic 88, 3, (137, 3, 1, 0, 0, [])), (107, .iaload, 1, (0, 0, 0, 0, 0, [])), (108, .ifCond .le 15, 3, (123, 0, 0, 0, 0, []))]),
  (124, [(111, .aload_n 0, 1, (0, 0, 0, 0, 0, [])), (112, .dup, 1, (0, 0, 0, 0, 0, [])), (113, .getfield 85, 3, (9, 3, 0, 0, 0, [])), (116, .iconst 1, 1, (0, 0, 0, 1, 0, [])), (117, .isub, 1, (0, 0, 0, 0, 0, [])), (118, .putfield 85, 3, (9, 3, 0, 0, 0, [])), (121, .iconst 0, 1, (0, 0, 0, 0, 0, [])), (122, .ireturn, 1, (0, 0, 0, 0, 0, [])), (123, .iconst 1, 1, (0, 0, 0, 1, 0, []))]),
  (125, [(124, .ireturn, 1, (0, 0, 0, 0, 0, []))])]
def zt_X9_readLink : List (Nat × List zv_E) := [
  (11, [(0, .aload_n 0, 1, (0, 0, 0, 0, 0, [])), (1, .iconst 5, 1, (0, 0, 0, 5, 0, [])), (2, .invokevirtual 105, 3, (143, 2, 1, 0, 0, [])), (5, .ifCond .ne 5, 3, (10, 0, 0, 0, 0, [])), (8, .iconst 0, 1, (0, 0, 0, 0, 0, [])), (9, .ireturn, 1, (0, 0, 0, 0, 0, [])), (10, .aload_n 0, 1, (0, 0, 0, 0, 0, []))]),
  (23, [(11, .iconst 1, 1, (0, 0, 0, 1, 0, [])), (12, .bipush 9, 2, (0, 0, 0, 9, 0, [])), (14, .invokevirtual 96, 3, (140, 3, 1, 0, 0, [])), (17, .istore_n 1, 1, (1, 0, 0, 0, 0, [])), (18, .aload_n 0, 1, (0, 0, 0, 0, 0, [])), (19, .getfield 13, 3, (9, 5, 2, 0, 0, [])), (22, .iconst 5, 1, (0, 0, 0, 5, 0, []))]),
  (36, [(23, .aload_n 0, 1, (0, 0, 0, 0, 0, [])), (24, .getfield 99, 3, (9, 29, 0, 0, 0, [])), (27, .aload_n 0, 1, (0, 0, 0, 0, 0, [])), (28, .getfield 102, 3, (9, 30, 0, 0, 0, [])), (31, .invokestatic 88, 3, (137, 3, 1, 0, 0, [])), (34, .iload_n 1, 1, (1, 0, 0, 0, 0, [])), (35, .iastore, 1, (0, 0, 0, 0, 0, []))]),
  (47, [(36, .aload_n 0, 1, (0, 0, 0, 0, 0, [])), (37, .getfield 13, 3, (9, 5, 2, 0, 0, [])), (40, .iconst 5, 1, (0, 0, 0, 5, 0, [])), (41, .aload_n 0, 1, (0, 0, 0, 0, 0, [])), (42, .getfield 102, 3, (9, 30, 0, 0, 0, [])), (45, .aload_n 0, 1, (0, 0, 0, 0, 0, [])), (46, .getfield 99, 3, (9, 29, 0, 0, 0, []))]),
  (61, [(49, .invokestatic 88, 3, (137, 3, 1, 0, 0, [])), (52, .iload_n 1, 1, (1, 0, 0, 0, 0, [])), (53, .iastore, 1, (0, 0, 0, 0, 0, [])), (54, .iload_n 1, 1, (1, 0, 0, 0, 0, [])), (55, .bipush (-9), 2, (0, 0, 0, (-9), 0, [])), (57, .if_icmp .eq 7, 3, (64, 0, 0, 0, 0, [])), (60, .iconst 1, 1, (0, 0, 0, 1, 0, []))]),
  (66, [(61, .goto 4, 3, (65, 0, 0, 0, 0, [])), (64, .iconst 0, 1, (0, 0, 0, 0, 0, [])), (65, .ireturn, 1, (0, 0, 0, 0, 0, []))])]
def zt_X9_readSession : List (Nat × List zv_E) := [
  (12, [(0, .aload_n 0, 1, (0, 0, 0, 0, 0, [])), (1, .bipush 30, 2, (0, 0, 0, 30, 0, [])), (3, .invokevirtual 105, 3, (143, 2, 1, 0, 0, [])), (6, .ifCond .ne 5, 3, (11, 0, 0, 0, 0, [])), (9, .iconst 0, 1, (0, 0, 0, 0, 0, [])), (10, .ireturn, 1, (0, 0, 0, 0, 0, [])), (11, .aload_n 0, 1, (0, 0, 0, 0, 0, []))]),
  (26, [(12, .getfield 13, 3, (9, 5, 2, 0, 0, [])), (15, .bipush 30, 2, (0, 0, 0, 30, 0, [])), (17, .aload_n 0, 1, (0, 0, 0, 0, 0, [])), (18, .getfield 99, 3, (9, 29, 0, 0, 0, [])), (21, .aload_n 0, 1, (0, 0, 0, 0, 0, [])), (22, .getfield 102, 3, (9, 30, 0, 0, 0, [])), (25, .invokestatic 88, 3, (137, 3, 1, 0, 0, []))]),
  (39, [(28, .iload_n 1, 1, (1, 0, 0, 0, 0, [])), (29, .ifCond .eq 7, 3, (36, 0, 0, 0, 0, [])), (32, .iconst 1, 1, (0, 0, 0, 1, 0, [])), (33, .goto 4, 3, (37, 0, 0, 0, 0, [])), (36, .iconst 2, 1, (0, 0, 0, 2, 0, [])), (37, .iastore, 1, (0, 0, 0, 0, 0, [])), (38, .aload_n 0, 1, (0, 0, 0, 0, 0, []))]),
  (53, [(39, .getfield 13, 3, (9, 5, 2, 0, 0, [])), (42, .bipush 30, 2, (0, 0, 0, 30, 0, [])), (44, .aload_n 0, 1, (0, 0, 0, 0, 0, [])), (45, .getfield 102, 3, (9, 30, 0, 0, 0, [])), (48, .aload_n 0, 1, (0, 0, 0, 0, 0, [])), (49, .getfield 99, 3, (9, 29, 0, 0, 0, [])), (52, .invokestatic 88, 3, (137, 3, 1, 0, 0, []))]),
  (66, [(55, .iload_n 1, 1, (1, 0, 0, 0, 0, [])), (56, .ifCond .eq 7, 3, (63, 0, 0, 0, 0, [])), (59, .iconst 1, 1, (0, 0, 0, 1, 0, [])), (60, .goto 4, 3, (64, 0, 0, 0, 0, [])), (63, .iconst 3, 1, (0, 0, 0, 3, 0, [])), (64, .iastore, 1, (0, 0, 0, 0, 0, [])), (65, .iconst 1, 1, (0, 0, 0, 1, 0, []))]),
  (67, [(66, .ireturn, 1, (0, 0, 0, 0, 0, []))])]
def zt_X9_readExit : List (Nat × List zv_E) := [
  (11, [(0, .bipush 55, 2, (0, 0, 0, 55, 0, [])), (2, .iconst 4, 1, (0, 0, 0, 4, 0, [])), (3, .aload_n 0, 1, (0, 0, 0, 0, 0, [])), (4, .getfield 13, 3, (9, 5, 2, 0, 0, [])), (7, .iconst 1, 1, (0, 0, 0, 1, 0, [])), (8, .iaload, 1, (0, 0, 0, 0, 0, [])), (9, .imul, 1, (0, 0, 0, 0, 0, [])), (10, .iadd, 1, (0, 0, 0, 0, 0, []))]),
  (21, [(11, .istore_n 1, 1, (1, 0, 0, 0, 0, [])), (12, .iconst 0, 1, (0, 0, 0, 0, 0, [])), (13, .istore_n 2, 1, (2, 0, 0, 0, 0, [])), (14, .iload_n 2, 1, (2, 0, 0, 0, 0, [])), (15, .iconst 4, 1, (0, 0, 0, 4, 0, [])), (16, .if_icmp .ge 66, 3, (82, 0, 0, 0, 0, [])), (19, .aload_n 0, 1, (0, 0, 0, 0, 0, [])), (20, .iload_n 2, 1, (2, 0, 0, 0, 0, []))]),
  (35, [(21, .iconst 2, 1, (0, 0, 0, 2, 0, [])), (22, .if_icmp .ne 7, 3, (29, 0, 0, 0, 0, [])), (25, .iconst 1, 1, (0, 0, 0, 1, 0, [])), (26, .goto 4, 3, (30, 0, 0, 0, 0, [])), (29, .iconst 0, 1, (0, 0, 0, 0, 0, [])), (30, .iload_n 2, 1, (2, 0, 0, 0, 0, [])), (31, .ifCond .ne 14, 3, (45, 0, 0, 0, 0, [])), (34, .aload_n 0, 1, (0, 0, 0, 0, 0, []))]),
  (47, [(35, .getfield 13, 3, (9, 5, 2, 0, 0, [])), (38, .iconst 0, 1, (0, 0, 0, 0, 0, [])), (39, .iaload, 1, (0, 0, 0, 0, 0, [])), (40, .iconst 1, 1, (0, 0, 0, 1, 0, [])), (41, .isub, 1, (0, 0, 0, 0, 0, [])), (42, .goto 13, 3, (55, 0, 0, 0, 0, [])), (45, .iload_n 2, 1, (2, 0, 0, 0, 0, [])), (46, .iconst 1, 1, (0, 0, 0, 1, 0, []))]),
  (61, [(47, .if_icmp .ne 7, 3, (54, 0, 0, 0, 0, [])), (50, .iconst 2, 1, (0, 0, 0, 2, 0, [])), (51, .goto 4, 3, (55, 0, 0, 0, 0, [])), (54, .iconst 5, 1, (0, 0, 0, 5, 0, [])), (55, .invokevirtual 96, 3, (140, 3, 1, 0, 0, [])), (58, .istore_n 3, 1, (3, 0, 0, 0, 0, [])), (59, .iload_n 3, 1, (3, 0, 0, 0, 0, [])), (60, .bipush (-9), 2, (0, 0, 0, (-9), 0, []))]),
  (74, [(62, .if_icmp .ne 5, 3, (67, 0, 0, 0, 0, [])), (65, .iconst 0, 1, (0, 0, 0, 0, 0, [])), (66, .ireturn, 1, (0, 0, 0, 0, 0, [])), (67, .aload_n 0, 1, (0, 0, 0, 0, 0, [])), (68, .getfield 13, 3, (9, 5, 2, 0, 0, [])), (71, .iload_n 1, 1, (1, 0, 0, 0, 0, [])), (72, .iload_n 2, 1, (2, 0, 0, 0, 0, [])), (73, .iadd, 1, (0, 0, 0, 0, 0, []))]),
  (88, [(74, .iload_n 3, 1, (3, 0, 0, 0, 0, [])), (75, .iastore, 1, (0, 0, 0, 0, 0, [])), (76, .iinc 2 1, 3, (2, 0, 0, 1, 0, [])), (79, .goto (-65), 3, (14, 0, 0, 0, 0, [])), (82, .aload_n 0, 1, (0, 0, 0, 0, 0, [])), (83, .getfield 13, 3, (9, 5, 2, 0, 0, [])), (86, .iconst 1, 1, (0, 0, 0, 1, 0, [])), (87, .dup2, 1, (0, 0, 0, 0, 0, []))]),
  (94, [(88, .iaload, 1, (0, 0, 0, 0, 0, [])), (89, .iconst 1, 1, (0, 0, 0, 1, 0, [])), (90, .iadd, 1, (0, 0, 0, 0, 0, [])), (91, .iastore, 1, (0, 0, 0, 0, 0, [])), (92, .iconst 1, 1, (0, 0, 0, 1, 0, [])), (93, .ireturn, 1, (0, 0, 0, 0, 0, []))])]
def zt_X9_readPart : List (Nat × List zv_E) := [
  (12, [(0, .aload_n 0, 1, (0, 0, 0, 0, 0, [])), (1, .getfield 7, 3, (9, 1, 2, 0, 0, [])), (4, .aload_n 0, 1, (0, 0, 0, 0, 0, [])), (5, .getfield 85, 3, (9, 3, 0, 0, 0, [])), (8, .iaload, 1, (0, 0, 0, 0, 0, [])), (9, .istore_n 1, 1, (1, 0, 0, 0, 0, [])), (10, .iconst 0, 1, (0, 0, 0, 0, 0, [])), (11, .istore_n 2, 1, (2, 0, 0, 0, 0, []))]),
  (66, [(12, .iload_n 1, 1, (1, 0, 0, 0, 0, [])), (13, .lookupswitch 81 #[(99, 52), (101, 62), (108, 43), (112, 52)], 43, (94, 0, 0, 0, 0, [(99, 65), (101, 75), (108, 56), (112, 65)])), (56, .aload_n 0, 1, (0, 0, 0, 0, 0, [])), (57, .iconst 5, 1, (0, 0, 0, 5, 0, [])), (58, .invokevirtual 109, 3, (142, 2, 1, 0, 0, [])), (61, .istore_n 2, 1, (2, 0, 0, 0, 0, [])), (62, .goto 32, 3, (94, 0, 0, 0, 0, [])), (65, .aload_n 0, 1, (0, 0, 0, 0, 0, []))]),
  (81, [(66, .bipush 30, 2, (0, 0, 0, 30, 0, [])), (68, .invokevirtual 109, 3, (142, 2, 1, 0, 0, [])), (71, .istore_n 2, 1, (2, 0, 0, 0, 0, [])), (72, .goto 22, 3, (94, 0, 0, 0, 0, [])), (75, .aload_n 0, 1, (0, 0, 0, 0, 0, [])), (76, .getfield 13, 3, (9, 5, 2, 0, 0, [])), (79, .iconst 1, 1, (0, 0, 0, 1, 0, [])), (80, .iaload, 1, (0, 0, 0, 0, 0, []))]),
  (95, [(81, .iconst 4, 1, (0, 0, 0, 4, 0, [])), (82, .if_icmp .ge 7, 3, (89, 0, 0, 0, 0, [])), (85, .iconst 1, 1, (0, 0, 0, 1, 0, [])), (86, .goto 4, 3, (90, 0, 0, 0, 0, [])), (89, .iconst 0, 1, (0, 0, 0, 0, 0, [])), (90, .istore_n 2, 1, (2, 0, 0, 0, 0, [])), (91, .goto 3, 3, (94, 0, 0, 0, 0, [])), (94, .iload_n 2, 1, (2, 0, 0, 0, 0, []))]),
  (107, [(95, .ifCond .ne 5, 3, (100, 0, 0, 0, 0, [])), (98, .iconst 0, 1, (0, 0, 0, 0, 0, [])), (99, .ireturn, 1, (0, 0, 0, 0, 0, [])), (100, .aload_n 0, 1, (0, 0, 0, 0, 0, [])), (101, .dup, 1, (0, 0, 0, 0, 0, [])), (102, .getfield 85, 3, (9, 3, 0, 0, 0, [])), (105, .iconst 1, 1, (0, 0, 0, 1, 0, [])), (106, .iadd, 1, (0, 0, 0, 0, 0, []))]),
  (124, [(107, .putfield 85, 3, (9, 3, 0, 0, 0, [])), (110, .iload_n 1, 1, (1, 0, 0, 0, 0, [])), (111, .bipush 108, 2, (0, 0, 0, 108, 0, [])), (113, .if_icmp .ne 10, 3, (123, 0, 0, 0, 0, [])), (116, .aload_n 0, 1, (0, 0, 0, 0, 0, [])), (117, .invokevirtual 112, 3, (144, 1, 1, 0, 0, [])), (120, .goto 31, 3, (151, 0, 0, 0, 0, [])), (123, .iload_n 1, 1, (1, 0, 0, 0, 0, []))]),
  (139, [(124, .bipush 101, 2, (0, 0, 0, 101, 0, [])), (126, .if_icmp .ne 10, 3, (136, 0, 0, 0, 0, [])), (129, .aload_n 0, 1, (0, 0, 0, 0, 0, [])), (130, .invokevirtual 116, 3, (146, 1, 1, 0, 0, [])), (133, .goto 18, 3, (151, 0, 0, 0, 0, [])), (136, .aload_n 0, 1, (0, 0, 0, 0, 0, [])), (137, .iload_n 1, 1, (1, 0, 0, 0, 0, [])), (138, .bipush 112, 2, (0, 0, 0, 112, 0, []))]),
  (152, [(140, .if_icmp .ne 7, 3, (147, 0, 0, 0, 0, [])), (143, .iconst 1, 1, (0, 0, 0, 1, 0, [])), (144, .goto 4, 3, (148, 0, 0, 0, 0, [])), (147, .iconst 0, 1, (0, 0, 0, 0, 0, [])), (148, .invokevirtual 119, 3, (145, 2, 1, 0, 0, [])), (151, .ireturn, 1, (0, 0, 0, 0, 0, []))])]
def zt_X9_readDomain : List (Nat × List zv_E) := [
  (14, [(0, .iconst 0, 1, (0, 0, 0, 0, 0, [])), (1, .istore_n 1, 1, (1, 0, 0, 0, 0, [])), (2, .iload_n 1, 1, (1, 0, 0, 0, 0, [])), (3, .bipush 101, 2, (0, 0, 0, 101, 0, [])), (5, .if_icmp .ge 16, 3, (21, 0, 0, 0, 0, [])), (8, .aload_n 0, 1, (0, 0, 0, 0, 0, [])), (9, .getfield 13, 3, (9, 5, 2, 0, 0, [])), (12, .iload_n 1, 1, (1, 0, 0, 0, 0, [])), (13, .iconst 0, 1, (0, 0, 0, 0, 0, []))]),
  (31, [(14, .iastore, 1, (0, 0, 0, 0, 0, [])), (15, .iinc 1 1, 3, (1, 0, 0, 1, 0, [])), (18, .goto (-16), 3, (2, 0, 0, 0, 0, [])), (21, .aload_n 0, 1, (0, 0, 0, 0, 0, [])), (22, .getfield 13, 3, (9, 5, 2, 0, 0, [])), (25, .invokestatic 68, 3, (133, 1, 0, 0, 0, [])), (28, .aload_n 0, 1, (0, 0, 0, 0, 0, [])), (29, .iconst 0, 1, (0, 0, 0, 0, 0, [])), (30, .putfield 123, 3, (9, 4, 0, 0, 0, []))]),
  (49, [(33, .aload_n 0, 1, (0, 0, 0, 0, 0, [])), (34, .getfield 82, 3, (9, 2, 0, 0, 0, [])), (37, .ifCond .eq 14, 3, (51, 0, 0, 0, 0, [])), (40, .aload_n 0, 1, (0, 0, 0, 0, 0, [])), (41, .getfield 7, 3, (9, 1, 2, 0, 0, [])), (44, .iconst 0, 1, (0, 0, 0, 0, 0, [])), (45, .iaload, 1, (0, 0, 0, 0, 0, [])), (46, .bipush 68, 2, (0, 0, 0, 68, 0, [])), (48, .if_icmp .eq 5, 3, (53, 0, 0, 0, 0, []))]),
  (62, [(51, .iconst 0, 1, (0, 0, 0, 0, 0, [])), (52, .ireturn, 1, (0, 0, 0, 0, 0, [])), (53, .aload_n 0, 1, (0, 0, 0, 0, 0, [])), (54, .iconst 1, 1, (0, 0, 0, 1, 0, [])), (55, .putfield 85, 3, (9, 3, 0, 0, 0, [])), (58, .aload_n 0, 1, (0, 0, 0, 0, 0, [])), (59, .iconst 1, 1, (0, 0, 0, 1, 0, [])), (60, .iconst 5, 1, (0, 0, 0, 5, 0, [])), (61, .invokevirtual 96, 3, (140, 3, 1, 0, 0, []))]),
  (78, [(64, .istore_n 1, 1, (1, 0, 0, 0, 0, [])), (65, .iload_n 1, 1, (1, 0, 0, 0, 0, [])), (66, .bipush (-9), 2, (0, 0, 0, (-9), 0, [])), (68, .if_icmp .ne 5, 3, (73, 0, 0, 0, 0, [])), (71, .iconst 1, 1, (0, 0, 0, 1, 0, [])), (72, .ireturn, 1, (0, 0, 0, 0, 0, [])), (73, .aload_n 0, 1, (0, 0, 0, 0, 0, [])), (74, .getfield 13, 3, (9, 5, 2, 0, 0, [])), (77, .iconst 0, 1, (0, 0, 0, 0, 0, []))]),
  (93, [(78, .iload_n 1, 1, (1, 0, 0, 0, 0, [])), (79, .iastore, 1, (0, 0, 0, 0, 0, [])), (80, .aload_n 0, 1, (0, 0, 0, 0, 0, [])), (81, .getfield 85, 3, (9, 3, 0, 0, 0, [])), (84, .aload_n 0, 1, (0, 0, 0, 0, 0, [])), (85, .getfield 82, 3, (9, 2, 0, 0, 0, [])), (88, .if_icmp .ge 28, 3, (116, 0, 0, 0, 0, [])), (91, .aload_n 0, 1, (0, 0, 0, 0, 0, [])), (92, .invokevirtual 126, 3, (147, 1, 1, 0, 0, []))]),
  (110, [(95, .ifCond .ne 8, 3, (103, 0, 0, 0, 0, [])), (98, .aload_n 0, 1, (0, 0, 0, 0, 0, [])), (99, .getfield 85, 3, (9, 3, 0, 0, 0, [])), (102, .ireturn, 1, (0, 0, 0, 0, 0, [])), (103, .aload_n 0, 1, (0, 0, 0, 0, 0, [])), (104, .dup, 1, (0, 0, 0, 0, 0, [])), (105, .getfield 123, 3, (9, 4, 0, 0, 0, [])), (108, .iconst 1, 1, (0, 0, 0, 1, 0, [])), (109, .iadd, 1, (0, 0, 0, 0, 0, []))]),
  (127, [(110, .putfield 123, 3, (9, 4, 0, 0, 0, [])), (113, .goto (-33), 3, (80, 0, 0, 0, 0, [])), (116, .aload_n 0, 1, (0, 0, 0, 0, 0, [])), (117, .getfield 13, 3, (9, 5, 2, 0, 0, [])), (120, .iconst 2, 1, (0, 0, 0, 2, 0, [])), (121, .iconst 1, 1, (0, 0, 0, 1, 0, [])), (122, .aload_n 0, 1, (0, 0, 0, 0, 0, [])), (123, .getfield 13, 3, (9, 5, 2, 0, 0, [])), (126, .iconst 1, 1, (0, 0, 0, 1, 0, []))]),
  (135, [(127, .iaload, 1, (0, 0, 0, 0, 0, [])), (128, .ishl, 1, (0, 0, 0, 0, 0, [])), (129, .iconst 1, 1, (0, 0, 0, 1, 0, [])), (130, .isub, 1, (0, 0, 0, 0, 0, [])), (131, .iastore, 1, (0, 0, 0, 0, 0, [])), (132, .bipush (-9), 2, (0, 0, 0, (-9), 0, [])), (134, .ireturn, 1, (0, 0, 0, 0, 0, []))])]
def zt_X9_fault : List (Nat × List zv_E) := [
  (10, [(0, .aload_n 0, 1, (0, 0, 0, 0, 0, [])), (1, .iconst 0, 1, (0, 0, 0, 0, 0, [])), (2, .putfield 72, 3, (9, 0, 0, 0, 0, [])), (5, .aload_n 0, 1, (0, 0, 0, 0, 0, [])), (6, .invokevirtual 129, 3, (148, 1, 1, 0, 0, [])), (9, .ireturn, 1, (0, 0, 0, 0, 0, []))])]
def zt_X9_domain : List (Nat × List zv_E) := [
  (10, [(0, .aload_n 0, 1, (0, 0, 0, 0, 0, [])), (1, .iconst 0, 1, (0, 0, 0, 0, 0, [])), (2, .putfield 72, 3, (9, 0, 0, 0, 0, [])), (5, .aload_n 0, 1, (0, 0, 0, 0, 0, [])), (6, .invokevirtual 129, 3, (148, 1, 1, 0, 0, [])), (9, .bipush (-9), 2, (0, 0, 0, (-9), 0, []))]),
  (22, [(11, .if_icmp .eq 6, 3, (17, 0, 0, 0, 0, [])), (14, .bipush (-3), 2, (0, 0, 0, (-3), 0, [])), (16, .ireturn, 1, (0, 0, 0, 0, 0, [])), (17, .aload_n 0, 1, (0, 0, 0, 0, 0, [])), (18, .getfield 16, 3, (9, 6, 2, 0, 0, [])), (21, .aload_n 0, 1, (0, 0, 0, 0, 0, []))]),
  (34, [(22, .getfield 13, 3, (9, 5, 2, 0, 0, [])), (25, .invokestatic 133, 3, (134, 2, 0, 0, 0, [])), (28, .aload_n 0, 1, (0, 0, 0, 0, 0, [])), (29, .iconst 0, 1, (0, 0, 0, 0, 0, [])), (30, .putfield 137, 3, (9, 10, 0, 0, 0, [])), (33, .aload_n 0, 1, (0, 0, 0, 0, 0, []))]),
  (42, [(34, .getfield 31, 3, (9, 12, 2, 0, 0, [])), (37, .iconst 0, 1, (0, 0, 0, 0, 0, [])), (38, .iconst 0, 1, (0, 0, 0, 0, 0, [])), (39, .bastore, 1, (0, 0, 0, 0, 0, [])), (40, .aload_n 0, 1, (0, 0, 0, 0, 0, [])), (41, .getfield 31, 3, (9, 12, 2, 0, 0, []))]),
  (52, [(44, .iconst 1, 1, (0, 0, 0, 1, 0, [])), (45, .iconst 0, 1, (0, 0, 0, 0, 0, [])), (46, .bastore, 1, (0, 0, 0, 0, 0, [])), (47, .aload_n 0, 1, (0, 0, 0, 0, 0, [])), (48, .getfield 123, 3, (9, 4, 0, 0, 0, [])), (51, .ireturn, 1, (0, 0, 0, 0, 0, []))])]
def zt_X9_layCosts : List (Nat × List zv_E) := [
  (14, [(0, .aload_n 1, 1, (1, 0, 0, 0, 0, [])), (1, .iconst 0, 1, (0, 0, 0, 0, 0, [])), (2, .iaload, 1, (0, 0, 0, 0, 0, [])), (3, .istore_n 2, 1, (2, 0, 0, 0, 0, [])), (4, .iconst 0, 1, (0, 0, 0, 0, 0, [])), (5, .istore_n 3, 1, (3, 0, 0, 0, 0, [])), (6, .iload_n 3, 1, (3, 0, 0, 0, 0, [])), (7, .bipush 25, 2, (0, 0, 0, 25, 0, [])), (9, .if_icmp .ge 30, 3, (39, 0, 0, 0, 0, [])), (12, .aload_n 0, 1, (0, 0, 0, 0, 0, [])), (13, .getfield 44, 3, (9, 18, 2, 0, 0, []))]),
  (31, [(16, .iload_n 3, 1, (3, 0, 0, 0, 0, [])), (17, .iload_n 3, 1, (3, 0, 0, 0, 0, [])), (18, .iconst 5, 1, (0, 0, 0, 5, 0, [])), (19, .idiv, 1, (0, 0, 0, 0, 0, [])), (20, .iload_n 3, 1, (3, 0, 0, 0, 0, [])), (21, .iconst 5, 1, (0, 0, 0, 5, 0, [])), (22, .irem, 1, (0, 0, 0, 0, 0, [])), (23, .if_icmp .ne 7, 3, (30, 0, 0, 0, 0, [])), (26, .iconst 0, 1, (0, 0, 0, 0, 0, [])), (27, .goto 5, 3, (32, 0, 0, 0, 0, [])), (30, .bipush (-9), 2, (0, 0, 0, (-9), 0, []))]),
  (50, [(32, .iastore, 1, (0, 0, 0, 0, 0, [])), (33, .iinc 3 1, 3, (3, 0, 0, 1, 0, [])), (36, .goto (-30), 3, (6, 0, 0, 0, 0, [])), (39, .iconst 0, 1, (0, 0, 0, 0, 0, [])), (40, .istore_n 3, 1, (3, 0, 0, 0, 0, [])), (41, .iload_n 3, 1, (3, 0, 0, 0, 0, [])), (42, .iload_n 2, 1, (2, 0, 0, 0, 0, [])), (43, .if_icmp .ge 136, 3, (179, 0, 0, 0, 0, [])), (46, .iconst 0, 1, (0, 0, 0, 0, 0, [])), (47, .istore 4, 2, (4, 0, 0, 0, 0, [])), (49, .iload 4, 2, (4, 0, 0, 0, 0, []))]),
  (65, [(51, .iload_n 2, 1, (2, 0, 0, 0, 0, [])), (52, .iload_n 2, 1, (2, 0, 0, 0, 0, [])), (53, .imul, 1, (0, 0, 0, 0, 0, [])), (54, .iload_n 2, 1, (2, 0, 0, 0, 0, [])), (55, .imul, 1, (0, 0, 0, 0, 0, [])), (56, .if_icmp .ge 117, 3, (173, 0, 0, 0, 0, [])), (59, .iload 4, 2, (4, 0, 0, 0, 0, [])), (61, .iload_n 2, 1, (2, 0, 0, 0, 0, [])), (62, .iload_n 2, 1, (2, 0, 0, 0, 0, [])), (63, .imul, 1, (0, 0, 0, 0, 0, [])), (64, .idiv, 1, (0, 0, 0, 0, 0, []))]),
  (80, [(65, .istore 5, 2, (5, 0, 0, 0, 0, [])), (67, .iload 4, 2, (4, 0, 0, 0, 0, [])), (69, .iload_n 2, 1, (2, 0, 0, 0, 0, [])), (70, .idiv, 1, (0, 0, 0, 0, 0, [])), (71, .iload_n 2, 1, (2, 0, 0, 0, 0, [])), (72, .irem, 1, (0, 0, 0, 0, 0, [])), (73, .istore 6, 2, (6, 0, 0, 0, 0, [])), (75, .iload 4, 2, (4, 0, 0, 0, 0, [])), (77, .iload_n 2, 1, (2, 0, 0, 0, 0, [])), (78, .irem, 1, (0, 0, 0, 0, 0, [])), (79, .istore 7, 2, (7, 0, 0, 0, 0, []))]),
  (99, [(81, .aload_n 1, 1, (1, 0, 0, 0, 0, [])), (82, .iconst 5, 1, (0, 0, 0, 5, 0, [])), (83, .iload 5, 2, (5, 0, 0, 0, 0, [])), (85, .iload 6, 2, (6, 0, 0, 0, 0, [])), (87, .invokestatic 88, 3, (137, 3, 1, 0, 0, [])), (90, .iaload, 1, (0, 0, 0, 0, 0, [])), (91, .istore 8, 2, (8, 0, 0, 0, 0, [])), (93, .aload_n 0, 1, (0, 0, 0, 0, 0, [])), (94, .getfield 44, 3, (9, 18, 2, 0, 0, [])), (97, .iconst 5, 1, (0, 0, 0, 5, 0, [])), (98, .iload 6, 2, (6, 0, 0, 0, 0, []))]),
  (116, [(100, .imul, 1, (0, 0, 0, 0, 0, [])), (101, .iload 7, 2, (7, 0, 0, 0, 0, [])), (103, .iadd, 1, (0, 0, 0, 0, 0, [])), (104, .iaload, 1, (0, 0, 0, 0, 0, [])), (105, .istore 9, 2, (9, 0, 0, 0, 0, [])), (107, .aload_n 0, 1, (0, 0, 0, 0, 0, [])), (108, .getfield 44, 3, (9, 18, 2, 0, 0, [])), (111, .iconst 5, 1, (0, 0, 0, 5, 0, [])), (112, .iload 5, 2, (5, 0, 0, 0, 0, [])), (114, .imul, 1, (0, 0, 0, 0, 0, [])), (115, .iload 7, 2, (7, 0, 0, 0, 0, []))]),
  (138, [(117, .iadd, 1, (0, 0, 0, 0, 0, [])), (118, .iaload, 1, (0, 0, 0, 0, 0, [])), (119, .istore 10, 2, (10, 0, 0, 0, 0, [])), (121, .iload 8, 2, (8, 0, 0, 0, 0, [])), (123, .ifCond .le 44, 3, (167, 0, 0, 0, 0, [])), (126, .iload 9, 2, (9, 0, 0, 0, 0, [])), (128, .bipush (-9), 2, (0, 0, 0, (-9), 0, [])), (130, .if_icmp .eq 37, 3, (167, 0, 0, 0, 0, [])), (133, .iload 10, 2, (10, 0, 0, 0, 0, [])), (135, .bipush (-9), 2, (0, 0, 0, (-9), 0, [])), (137, .if_icmp .eq 13, 3, (150, 0, 0, 0, 0, []))]),
  (159, [(140, .iload 8, 2, (8, 0, 0, 0, 0, [])), (142, .iload 9, 2, (9, 0, 0, 0, 0, [])), (144, .iadd, 1, (0, 0, 0, 0, 0, [])), (145, .iload 10, 2, (10, 0, 0, 0, 0, [])), (147, .if_icmp .ge 20, 3, (167, 0, 0, 0, 0, [])), (150, .aload_n 0, 1, (0, 0, 0, 0, 0, [])), (151, .getfield 44, 3, (9, 18, 2, 0, 0, [])), (154, .iconst 5, 1, (0, 0, 0, 5, 0, [])), (155, .iload 5, 2, (5, 0, 0, 0, 0, [])), (157, .imul, 1, (0, 0, 0, 0, 0, [])), (158, .iload 7, 2, (7, 0, 0, 0, 0, []))]),
  (180, [(160, .iadd, 1, (0, 0, 0, 0, 0, [])), (161, .iload 8, 2, (8, 0, 0, 0, 0, [])), (163, .iload 9, 2, (9, 0, 0, 0, 0, [])), (165, .iadd, 1, (0, 0, 0, 0, 0, [])), (166, .iastore, 1, (0, 0, 0, 0, 0, [])), (167, .iinc 4 1, 3, (4, 0, 0, 1, 0, [])), (170, .goto (-121), 3, (49, 0, 0, 0, 0, [])), (173, .iinc 3 1, 3, (3, 0, 0, 1, 0, [])), (176, .goto (-135), 3, (41, 0, 0, 0, 0, [])), (179, .return_, 1, (0, 0, 0, 0, 0, []))])]
def zt_X9_link : List (Nat × List zv_E) := [
  (11, [(0, .aload_n 0, 1, (0, 0, 0, 0, 0, [])), (1, .iconst 0, 1, (0, 0, 0, 0, 0, [])), (2, .putfield 72, 3, (9, 0, 0, 0, 0, [])), (5, .aload_n 0, 1, (0, 0, 0, 0, 0, [])), (6, .iload_n 1, 1, (1, 0, 0, 0, 0, [])), (7, .invokevirtual 140, 3, (135, 2, 1, 0, 0, [])), (10, .ifCond .ne 11, 3, (21, 0, 0, 0, 0, []))]),
  (24, [(13, .aload_n 0, 1, (0, 0, 0, 0, 0, [])), (14, .iload_n 2, 1, (2, 0, 0, 0, 0, [])), (15, .invokevirtual 140, 3, (135, 2, 1, 0, 0, [])), (18, .ifCond .eq 5, 3, (23, 0, 0, 0, 0, [])), (21, .iconst (-1), 1, (0, 0, 0, (-1), 0, [])), (22, .ireturn, 1, (0, 0, 0, 0, 0, [])), (23, .iload_n 3, 1, (3, 0, 0, 0, 0, []))]),
  (36, [(24, .i2l, 1, (0, 0, 0, 0, 0, [])), (25, .lconst 0, 1, (0, 0, 0, 0, 0, [])), (26, .lconst 1, 1, (0, 0, 0, 0, 1, [])), (27, .invokestatic 76, 3, (129, 3, 1, 0, 0, [])), (30, .ifCond .ne 6, 3, (36, 0, 0, 0, 0, [])), (33, .bipush (-2), 2, (0, 0, 0, (-2), 0, [])), (35, .ireturn, 1, (0, 0, 0, 0, 0, []))]),
  (49, [(36, .aload_n 0, 1, (0, 0, 0, 0, 0, [])), (37, .aload_n 0, 1, (0, 0, 0, 0, 0, [])), (38, .getfield 16, 3, (9, 6, 2, 0, 0, [])), (41, .invokevirtual 143, 3, (151, 2, 0, 0, 0, [])), (44, .iload_n 3, 1, (3, 0, 0, 0, 0, [])), (45, .ifCond .ne 17, 3, (62, 0, 0, 0, 0, [])), (48, .aload_n 0, 1, (0, 0, 0, 0, 0, []))]),
  (60, [(49, .getfield 16, 3, (9, 6, 2, 0, 0, [])), (52, .iconst 5, 1, (0, 0, 0, 5, 0, [])), (53, .iload_n 1, 1, (1, 0, 0, 0, 0, [])), (54, .iload_n 2, 1, (2, 0, 0, 0, 0, [])), (55, .invokestatic 88, 3, (137, 3, 1, 0, 0, [])), (58, .iaload, 1, (0, 0, 0, 0, 0, [])), (59, .goto 13, 3, (72, 0, 0, 0, 0, []))]),
  (71, [(62, .aload_n 0, 1, (0, 0, 0, 0, 0, [])), (63, .getfield 44, 3, (9, 18, 2, 0, 0, [])), (66, .iconst 5, 1, (0, 0, 0, 5, 0, [])), (67, .iload_n 1, 1, (1, 0, 0, 0, 0, [])), (68, .imul, 1, (0, 0, 0, 0, 0, [])), (69, .iload_n 2, 1, (2, 0, 0, 0, 0, [])), (70, .iadd, 1, (0, 0, 0, 0, 0, []))]),
  (73, [(71, .iaload, 1, (0, 0, 0, 0, 0, [])), (72, .ireturn, 1, (0, 0, 0, 0, 0, []))])]
def zt_X9_session : List (Nat × List zv_E) := [
  (8, [(0, .aload_n 0, 1, (0, 0, 0, 0, 0, [])), (1, .iconst 0, 1, (0, 0, 0, 0, 0, [])), (2, .putfield 72, 3, (9, 0, 0, 0, 0, [])), (5, .aload_n 0, 1, (0, 0, 0, 0, 0, [])), (6, .iload_n 1, 1, (1, 0, 0, 0, 0, [])), (7, .invokevirtual 140, 3, (135, 2, 1, 0, 0, []))]),
  (22, [(10, .ifCond .ne 11, 3, (21, 0, 0, 0, 0, [])), (13, .aload_n 0, 1, (0, 0, 0, 0, 0, [])), (14, .iload_n 2, 1, (2, 0, 0, 0, 0, [])), (15, .invokevirtual 140, 3, (135, 2, 1, 0, 0, [])), (18, .ifCond .eq 7, 3, (25, 0, 0, 0, 0, [])), (21, .iconst (-1), 1, (0, 0, 0, (-1), 0, []))]),
  (33, [(22, .goto 15, 3, (37, 0, 0, 0, 0, [])), (25, .aload_n 0, 1, (0, 0, 0, 0, 0, [])), (26, .getfield 16, 3, (9, 6, 2, 0, 0, [])), (29, .bipush 30, 2, (0, 0, 0, 30, 0, [])), (31, .iload_n 1, 1, (1, 0, 0, 0, 0, [])), (32, .iload_n 2, 1, (2, 0, 0, 0, 0, []))]),
  (38, [(33, .invokestatic 88, 3, (137, 3, 1, 0, 0, [])), (36, .iaload, 1, (0, 0, 0, 0, 0, [])), (37, .ireturn, 1, (0, 0, 0, 0, 0, []))])]
def zt_X9_exitOf : List (Nat × List zv_E) := [
  (7, [(0, .aload_n 0, 1, (0, 0, 0, 0, 0, [])), (1, .bipush 55, 2, (0, 0, 0, 55, 0, [])), (3, .iconst 4, 1, (0, 0, 0, 4, 0, [])), (4, .iload_n 1, 1, (1, 0, 0, 0, 0, [])), (5, .imul, 1, (0, 0, 0, 0, 0, [])), (6, .iadd, 1, (0, 0, 0, 0, 0, []))]),
  (11, [(7, .iload_n 2, 1, (2, 0, 0, 0, 0, [])), (8, .iadd, 1, (0, 0, 0, 0, 0, [])), (9, .iaload, 1, (0, 0, 0, 0, 0, [])), (10, .ireturn, 1, (0, 0, 0, 0, 0, []))])]
def zt_X9_exit : List (Nat × List zv_E) := [
  (8, [(0, .aload_n 0, 1, (0, 0, 0, 0, 0, [])), (1, .iconst 0, 1, (0, 0, 0, 0, 0, [])), (2, .putfield 72, 3, (9, 0, 0, 0, 0, [])), (5, .aload_n 0, 1, (0, 0, 0, 0, 0, [])), (6, .iload_n 1, 1, (1, 0, 0, 0, 0, [])), (7, .invokevirtual 146, 3, (136, 2, 1, 0, 0, []))]),
  (18, [(10, .ifCond .eq 5, 3, (15, 0, 0, 0, 0, [])), (13, .iconst (-1), 1, (0, 0, 0, (-1), 0, [])), (14, .ireturn, 1, (0, 0, 0, 0, 0, [])), (15, .iload_n 2, 1, (2, 0, 0, 0, 0, [])), (16, .i2l, 1, (0, 0, 0, 0, 0, [])), (17, .lconst 0, 1, (0, 0, 0, 0, 0, []))]),
  (31, [(18, .ldc2_w 149, 3, (0, 0, 0, 0, 4, [])), (21, .invokestatic 76, 3, (129, 3, 1, 0, 0, [])), (24, .ifCond .ne 6, 3, (30, 0, 0, 0, 0, [])), (27, .bipush (-2), 2, (0, 0, 0, (-2), 0, [])), (29, .ireturn, 1, (0, 0, 0, 0, 0, [])), (30, .iload_n 2, 1, (2, 0, 0, 0, 0, []))]),
  (41, [(31, .iconst 4, 1, (0, 0, 0, 4, 0, [])), (32, .if_icmp .ge 15, 3, (47, 0, 0, 0, 0, [])), (35, .aload_n 0, 1, (0, 0, 0, 0, 0, [])), (36, .getfield 16, 3, (9, 6, 2, 0, 0, [])), (39, .iload_n 1, 1, (1, 0, 0, 0, 0, [])), (40, .iload_n 2, 1, (2, 0, 0, 0, 0, []))]),
  (53, [(41, .invokestatic 151, 3, (154, 3, 1, 0, 0, [])), (44, .goto 13, 3, (57, 0, 0, 0, 0, [])), (47, .aload_n 0, 1, (0, 0, 0, 0, 0, [])), (48, .getfield 16, 3, (9, 6, 2, 0, 0, [])), (51, .iconst 2, 1, (0, 0, 0, 2, 0, [])), (52, .iaload, 1, (0, 0, 0, 0, 0, []))]),
  (58, [(53, .iload_n 1, 1, (1, 0, 0, 0, 0, [])), (54, .ishr, 1, (0, 0, 0, 0, 0, [])), (55, .iconst 1, 1, (0, 0, 0, 1, 0, [])), (56, .iand, 1, (0, 0, 0, 0, 0, [])), (57, .ireturn, 1, (0, 0, 0, 0, 0, []))])]
def zt_X9_at : List (Nat × List zv_E) := [
  (8, [(0, .bipush 71, 2, (0, 0, 0, 71, 0, [])), (2, .bipush 6, 2, (0, 0, 0, 6, 0, [])), (4, .iload_n 0, 1, (0, 0, 0, 0, 0, [])), (5, .imul, 1, (0, 0, 0, 0, 0, [])), (6, .iadd, 1, (0, 0, 0, 0, 0, [])), (7, .iconst 3, 1, (0, 0, 0, 3, 0, []))]),
  (12, [(8, .iload_n 1, 1, (1, 0, 0, 0, 0, [])), (9, .imul, 1, (0, 0, 0, 0, 0, [])), (10, .iadd, 1, (0, 0, 0, 0, 0, [])), (11, .ireturn, 1, (0, 0, 0, 0, 0, []))])]
def zt_X9_isTold : List (Nat × List zv_E) := [
  (10, [(0, .aload_n 0, 1, (0, 0, 0, 0, 0, [])), (1, .iload_n 1, 1, (1, 0, 0, 0, 0, [])), (2, .iload_n 3, 1, (3, 0, 0, 0, 0, [])), (3, .invokestatic 155, 3, (156, 2, 1, 0, 0, [])), (6, .iconst 1, 1, (0, 0, 0, 1, 0, [])), (7, .iadd, 1, (0, 0, 0, 0, 0, [])), (8, .iaload, 1, (0, 0, 0, 0, 0, [])), (9, .istore 4, 2, (4, 0, 0, 0, 0, []))]),
  (24, [(11, .aload_n 0, 1, (0, 0, 0, 0, 0, [])), (12, .bipush 30, 2, (0, 0, 0, 30, 0, [])), (14, .iload_n 1, 1, (1, 0, 0, 0, 0, [])), (15, .iload_n 2, 1, (2, 0, 0, 0, 0, [])), (16, .invokestatic 88, 3, (137, 3, 1, 0, 0, [])), (19, .iaload, 1, (0, 0, 0, 0, 0, [])), (20, .ifCond .le 25, 3, (45, 0, 0, 0, 0, [])), (23, .aload_n 0, 1, (0, 0, 0, 0, 0, []))]),
  (38, [(24, .iload_n 1, 1, (1, 0, 0, 0, 0, [])), (25, .iload_n 3, 1, (3, 0, 0, 0, 0, [])), (26, .invokestatic 155, 3, (156, 2, 1, 0, 0, [])), (29, .iaload, 1, (0, 0, 0, 0, 0, [])), (30, .bipush (-9), 2, (0, 0, 0, (-9), 0, [])), (32, .if_icmp .eq 13, 3, (45, 0, 0, 0, 0, [])), (35, .iload 4, 2, (4, 0, 0, 0, 0, [])), (37, .iload_n 2, 1, (2, 0, 0, 0, 0, []))]),
  (54, [(38, .if_icmp .eq 7, 3, (45, 0, 0, 0, 0, [])), (41, .iconst 1, 1, (0, 0, 0, 1, 0, [])), (42, .goto 4, 3, (46, 0, 0, 0, 0, [])), (45, .iconst 0, 1, (0, 0, 0, 0, 0, [])), (46, .istore 5, 2, (5, 0, 0, 0, 0, [])), (48, .iload 5, 2, (5, 0, 0, 0, 0, [])), (50, .ifCond .eq 40, 3, (90, 0, 0, 0, 0, [])), (53, .iload 4, 2, (4, 0, 0, 0, 0, []))]),
  (69, [(55, .iload_n 1, 1, (1, 0, 0, 0, 0, [])), (56, .if_icmp .eq 30, 3, (86, 0, 0, 0, 0, [])), (59, .aload_n 0, 1, (0, 0, 0, 0, 0, [])), (60, .bipush 30, 2, (0, 0, 0, 30, 0, [])), (62, .iload_n 1, 1, (1, 0, 0, 0, 0, [])), (63, .iload 4, 2, (4, 0, 0, 0, 0, [])), (65, .invokestatic 88, 3, (137, 3, 1, 0, 0, [])), (68, .iaload, 1, (0, 0, 0, 0, 0, []))]),
  (82, [(69, .iconst 2, 1, (0, 0, 0, 2, 0, [])), (70, .if_icmp .eq 16, 3, (86, 0, 0, 0, 0, [])), (73, .aload_n 0, 1, (0, 0, 0, 0, 0, [])), (74, .bipush 30, 2, (0, 0, 0, 30, 0, [])), (76, .iload_n 1, 1, (1, 0, 0, 0, 0, [])), (77, .iload_n 2, 1, (2, 0, 0, 0, 0, [])), (78, .invokestatic 88, 3, (137, 3, 1, 0, 0, [])), (81, .iaload, 1, (0, 0, 0, 0, 0, []))]),
  (92, [(82, .iconst 2, 1, (0, 0, 0, 2, 0, [])), (83, .if_icmp .ne 7, 3, (90, 0, 0, 0, 0, [])), (86, .iconst 1, 1, (0, 0, 0, 1, 0, [])), (87, .goto 4, 3, (91, 0, 0, 0, 0, [])), (90, .iconst 0, 1, (0, 0, 0, 0, 0, [])), (91, .ireturn, 1, (0, 0, 0, 0, 0, []))])]
def zt_X9_hear : List (Nat × List zv_E) := [
  (13, [(0, .aload_n 0, 1, (0, 0, 0, 0, 0, [])), (1, .getfield 47, 3, (9, 19, 2, 0, 0, [])), (4, .iload_n 1, 1, (1, 0, 0, 0, 0, [])), (5, .iaload, 1, (0, 0, 0, 0, 0, [])), (6, .bipush (-9), 2, (0, 0, 0, (-9), 0, [])), (8, .if_icmp .eq 45, 3, (53, 0, 0, 0, 0, [])), (11, .iload_n 3, 1, (3, 0, 0, 0, 0, [])), (12, .invokestatic 158, 3, (131, 1, 1, 0, 0, []))]),
  (29, [(15, .aload_n 0, 1, (0, 0, 0, 0, 0, [])), (16, .getfield 50, 3, (9, 20, 2, 0, 0, [])), (19, .iload_n 1, 1, (1, 0, 0, 0, 0, [])), (20, .iaload, 1, (0, 0, 0, 0, 0, [])), (21, .invokestatic 158, 3, (131, 1, 1, 0, 0, [])), (24, .if_icmp .lt 29, 3, (53, 0, 0, 0, 0, [])), (27, .iload_n 3, 1, (3, 0, 0, 0, 0, [])), (28, .invokestatic 158, 3, (131, 1, 1, 0, 0, []))]),
  (45, [(31, .aload_n 0, 1, (0, 0, 0, 0, 0, [])), (32, .getfield 50, 3, (9, 20, 2, 0, 0, [])), (35, .iload_n 1, 1, (1, 0, 0, 0, 0, [])), (36, .iaload, 1, (0, 0, 0, 0, 0, [])), (37, .invokestatic 158, 3, (131, 1, 1, 0, 0, [])), (40, .if_icmp .ne 17, 3, (57, 0, 0, 0, 0, [])), (43, .iload_n 2, 1, (2, 0, 0, 0, 0, [])), (44, .aload_n 0, 1, (0, 0, 0, 0, 0, []))]),
  (59, [(45, .getfield 47, 3, (9, 19, 2, 0, 0, [])), (48, .iload_n 1, 1, (1, 0, 0, 0, 0, [])), (49, .iaload, 1, (0, 0, 0, 0, 0, [])), (50, .if_icmp .ge 7, 3, (57, 0, 0, 0, 0, [])), (53, .iconst 1, 1, (0, 0, 0, 1, 0, [])), (54, .goto 4, 3, (58, 0, 0, 0, 0, [])), (57, .iconst 0, 1, (0, 0, 0, 0, 0, [])), (58, .istore 4, 2, (4, 0, 0, 0, 0, []))]),
  (75, [(60, .aload_n 0, 1, (0, 0, 0, 0, 0, [])), (61, .getfield 47, 3, (9, 19, 2, 0, 0, [])), (64, .iload_n 1, 1, (1, 0, 0, 0, 0, [])), (65, .iload 4, 2, (4, 0, 0, 0, 0, [])), (67, .ifCond .eq 7, 3, (74, 0, 0, 0, 0, [])), (70, .iload_n 2, 1, (2, 0, 0, 0, 0, [])), (71, .goto 9, 3, (80, 0, 0, 0, 0, [])), (74, .aload_n 0, 1, (0, 0, 0, 0, 0, []))]),
  (87, [(75, .getfield 47, 3, (9, 19, 2, 0, 0, [])), (78, .iload_n 1, 1, (1, 0, 0, 0, 0, [])), (79, .iaload, 1, (0, 0, 0, 0, 0, [])), (80, .iastore, 1, (0, 0, 0, 0, 0, [])), (81, .aload_n 0, 1, (0, 0, 0, 0, 0, [])), (82, .getfield 50, 3, (9, 20, 2, 0, 0, [])), (85, .iload_n 1, 1, (1, 0, 0, 0, 0, [])), (86, .iload 4, 2, (4, 0, 0, 0, 0, []))]),
  (102, [(88, .ifCond .eq 7, 3, (95, 0, 0, 0, 0, [])), (91, .iload_n 3, 1, (3, 0, 0, 0, 0, [])), (92, .goto 9, 3, (101, 0, 0, 0, 0, [])), (95, .aload_n 0, 1, (0, 0, 0, 0, 0, [])), (96, .getfield 50, 3, (9, 20, 2, 0, 0, [])), (99, .iload_n 1, 1, (1, 0, 0, 0, 0, [])), (100, .iaload, 1, (0, 0, 0, 0, 0, [])), (101, .iastore, 1, (0, 0, 0, 0, 0, []))]),
  (103, [(102, .return_, 1, (0, 0, 0, 0, 0, []))])]
def zt_X9_gather : List (Nat × List zv_E) := [
  (16, [(0, .iconst 0, 1, (0, 0, 0, 0, 0, [])), (1, .istore_n 3, 1, (3, 0, 0, 0, 0, [])), (2, .iload_n 3, 1, (3, 0, 0, 0, 0, [])), (3, .iconst 4, 1, (0, 0, 0, 4, 0, [])), (4, .if_icmp .ge 58, 3, (62, 0, 0, 0, 0, [])), (7, .aload_n 0, 1, (0, 0, 0, 0, 0, [])), (8, .getfield 47, 3, (9, 19, 2, 0, 0, [])), (11, .iload_n 3, 1, (3, 0, 0, 0, 0, [])), (12, .bipush (-9), 2, (0, 0, 0, (-9), 0, [])), (14, .iastore, 1, (0, 0, 0, 0, 0, [])), (15, .aload_n 0, 1, (0, 0, 0, 0, 0, []))]),
  (31, [(16, .getfield 50, 3, (9, 20, 2, 0, 0, [])), (19, .iload_n 3, 1, (3, 0, 0, 0, 0, [])), (20, .iconst 0, 1, (0, 0, 0, 0, 0, [])), (21, .iastore, 1, (0, 0, 0, 0, 0, [])), (22, .iload_n 3, 1, (3, 0, 0, 0, 0, [])), (23, .aload_n 1, 1, (1, 0, 0, 0, 0, [])), (24, .iconst 1, 1, (0, 0, 0, 1, 0, [])), (25, .iaload, 1, (0, 0, 0, 0, 0, [])), (26, .if_icmp .ge 30, 3, (56, 0, 0, 0, 0, [])), (29, .aload_n 1, 1, (1, 0, 0, 0, 0, [])), (30, .iconst 2, 1, (0, 0, 0, 2, 0, []))]),
  (50, [(31, .iaload, 1, (0, 0, 0, 0, 0, [])), (32, .iload_n 3, 1, (3, 0, 0, 0, 0, [])), (33, .invokestatic 162, 3, (130, 2, 1, 0, 0, [])), (36, .ifCond .eq 20, 3, (56, 0, 0, 0, 0, [])), (39, .aload_n 1, 1, (1, 0, 0, 0, 0, [])), (40, .iload_n 3, 1, (3, 0, 0, 0, 0, [])), (41, .iconst 0, 1, (0, 0, 0, 0, 0, [])), (42, .invokestatic 151, 3, (154, 3, 1, 0, 0, [])), (45, .iload_n 2, 1, (2, 0, 0, 0, 0, [])), (46, .if_icmp .ne 10, 3, (56, 0, 0, 0, 0, [])), (49, .aload_n 0, 1, (0, 0, 0, 0, 0, []))]),
  (67, [(50, .iload_n 3, 1, (3, 0, 0, 0, 0, [])), (51, .iload_n 2, 1, (2, 0, 0, 0, 0, [])), (52, .iconst 0, 1, (0, 0, 0, 0, 0, [])), (53, .invokevirtual 166, 3, (158, 4, 0, 0, 0, [])), (56, .iinc 3 1, 3, (3, 0, 0, 1, 0, [])), (59, .goto (-57), 3, (2, 0, 0, 0, 0, [])), (62, .iconst 0, 1, (0, 0, 0, 0, 0, [])), (63, .istore_n 3, 1, (3, 0, 0, 0, 0, [])), (64, .iload_n 3, 1, (3, 0, 0, 0, 0, [])), (65, .iconst 2, 1, (0, 0, 0, 2, 0, [])), (66, .aload_n 1, 1, (1, 0, 0, 0, 0, []))]),
  (82, [(67, .iconst 0, 1, (0, 0, 0, 0, 0, [])), (68, .iaload, 1, (0, 0, 0, 0, 0, [])), (69, .imul, 1, (0, 0, 0, 0, 0, [])), (70, .if_icmp .ge 112, 3, (182, 0, 0, 0, 0, [])), (73, .iload_n 3, 1, (3, 0, 0, 0, 0, [])), (74, .iconst 2, 1, (0, 0, 0, 2, 0, [])), (75, .idiv, 1, (0, 0, 0, 0, 0, [])), (76, .istore 4, 2, (4, 0, 0, 0, 0, [])), (78, .iload 4, 2, (4, 0, 0, 0, 0, [])), (80, .iload_n 3, 1, (3, 0, 0, 0, 0, [])), (81, .iconst 2, 1, (0, 0, 0, 2, 0, []))]),
  (100, [(82, .irem, 1, (0, 0, 0, 0, 0, [])), (83, .invokestatic 155, 3, (156, 2, 1, 0, 0, [])), (86, .istore 5, 2, (5, 0, 0, 0, 0, [])), (88, .iload 4, 2, (4, 0, 0, 0, 0, [])), (90, .iload_n 2, 1, (2, 0, 0, 0, 0, [])), (91, .if_icmp .eq 85, 3, (176, 0, 0, 0, 0, [])), (94, .aload_n 1, 1, (1, 0, 0, 0, 0, [])), (95, .iload 4, 2, (4, 0, 0, 0, 0, [])), (97, .iload_n 2, 1, (2, 0, 0, 0, 0, [])), (98, .iload_n 3, 1, (3, 0, 0, 0, 0, [])), (99, .iconst 2, 1, (0, 0, 0, 2, 0, []))]),
  (117, [(100, .irem, 1, (0, 0, 0, 0, 0, [])), (101, .invokestatic 170, 3, (157, 4, 1, 0, 0, [])), (104, .ifCond .eq 72, 3, (176, 0, 0, 0, 0, [])), (107, .aload_n 1, 1, (1, 0, 0, 0, 0, [])), (108, .iload 5, 2, (5, 0, 0, 0, 0, [])), (110, .iconst 2, 1, (0, 0, 0, 2, 0, [])), (111, .iadd, 1, (0, 0, 0, 0, 0, [])), (112, .iaload, 1, (0, 0, 0, 0, 0, [])), (113, .iconst 1, 1, (0, 0, 0, 1, 0, [])), (114, .iload 4, 2, (4, 0, 0, 0, 0, [])), (116, .ishl, 1, (0, 0, 0, 0, 0, []))]),
  (132, [(117, .ior, 1, (0, 0, 0, 0, 0, [])), (118, .istore 6, 2, (6, 0, 0, 0, 0, [])), (120, .aload_n 0, 1, (0, 0, 0, 0, 0, [])), (121, .getfield 44, 3, (9, 18, 2, 0, 0, [])), (124, .iconst 5, 1, (0, 0, 0, 5, 0, [])), (125, .iload_n 2, 1, (2, 0, 0, 0, 0, [])), (126, .imul, 1, (0, 0, 0, 0, 0, [])), (127, .aload_n 1, 1, (1, 0, 0, 0, 0, [])), (128, .aload_n 1, 1, (1, 0, 0, 0, 0, [])), (129, .iload 5, 2, (5, 0, 0, 0, 0, [])), (131, .iaload, 1, (0, 0, 0, 0, 0, []))]),
  (151, [(132, .iconst 0, 1, (0, 0, 0, 0, 0, [])), (133, .invokestatic 151, 3, (154, 3, 1, 0, 0, [])), (136, .iadd, 1, (0, 0, 0, 0, 0, [])), (137, .iaload, 1, (0, 0, 0, 0, 0, [])), (138, .bipush (-9), 2, (0, 0, 0, (-9), 0, [])), (140, .if_icmp .eq 7, 3, (147, 0, 0, 0, 0, [])), (143, .iconst 1, 1, (0, 0, 0, 1, 0, [])), (144, .goto 4, 3, (148, 0, 0, 0, 0, [])), (147, .iconst 0, 1, (0, 0, 0, 0, 0, [])), (148, .istore 7, 2, (7, 0, 0, 0, 0, [])), (150, .iload 6, 2, (6, 0, 0, 0, 0, []))]),
  (172, [(152, .iload_n 2, 1, (2, 0, 0, 0, 0, [])), (153, .invokestatic 162, 3, (130, 2, 1, 0, 0, [])), (156, .ifCond .ne 20, 3, (176, 0, 0, 0, 0, [])), (159, .iload 7, 2, (7, 0, 0, 0, 0, [])), (161, .ifCond .eq 15, 3, (176, 0, 0, 0, 0, [])), (164, .aload_n 0, 1, (0, 0, 0, 0, 0, [])), (165, .aload_n 1, 1, (1, 0, 0, 0, 0, [])), (166, .iload 5, 2, (5, 0, 0, 0, 0, [])), (168, .iaload, 1, (0, 0, 0, 0, 0, [])), (169, .iload 4, 2, (4, 0, 0, 0, 0, [])), (171, .iload 6, 2, (6, 0, 0, 0, 0, []))]),
  (183, [(173, .invokevirtual 166, 3, (158, 4, 0, 0, 0, [])), (176, .iinc 3 1, 3, (3, 0, 0, 1, 0, [])), (179, .goto (-115), 3, (64, 0, 0, 0, 0, [])), (182, .return_, 1, (0, 0, 0, 0, 0, []))])]
def zt_X9_weighed : List (Nat × List zv_E) := [
  (39, [(0, .iload 4, 2, (4, 0, 0, 0, 0, [])), (2, .tableswitch 87 1 4 #[30, 37, 55, 71], 30, (89, 0, 0, 0, 0, [(1, 32), (2, 39), (3, 57), (4, 73)])), (32, .aload_n 1, 1, (1, 0, 0, 0, 0, [])), (33, .iload_n 3, 1, (3, 0, 0, 0, 0, [])), (34, .iconst 2, 1, (0, 0, 0, 2, 0, [])), (35, .invokestatic 151, 3, (154, 3, 1, 0, 0, [])), (38, .ireturn, 1, (0, 0, 0, 0, 0, []))]),
  (48, [(39, .aload_n 1, 1, (1, 0, 0, 0, 0, [])), (40, .iconst 4, 1, (0, 0, 0, 4, 0, [])), (41, .iaload, 1, (0, 0, 0, 0, 0, [])), (42, .iconst 1, 1, (0, 0, 0, 1, 0, [])), (43, .if_icmp .ne 12, 3, (55, 0, 0, 0, 0, [])), (46, .aload_n 1, 1, (1, 0, 0, 0, 0, [])), (47, .iload_n 3, 1, (3, 0, 0, 0, 0, []))]),
  (59, [(48, .iconst 3, 1, (0, 0, 0, 3, 0, [])), (49, .invokestatic 151, 3, (154, 3, 1, 0, 0, [])), (52, .goto 4, 3, (56, 0, 0, 0, 0, [])), (55, .iconst 0, 1, (0, 0, 0, 0, 0, [])), (56, .ireturn, 1, (0, 0, 0, 0, 0, [])), (57, .aload_n 0, 1, (0, 0, 0, 0, 0, [])), (58, .getfield 47, 3, (9, 19, 2, 0, 0, []))]),
  (72, [(61, .iload_n 3, 1, (3, 0, 0, 0, 0, [])), (62, .iaload, 1, (0, 0, 0, 0, 0, [])), (63, .iload_n 2, 1, (2, 0, 0, 0, 0, [])), (64, .if_icmp .ne 7, 3, (71, 0, 0, 0, 0, [])), (67, .iconst 0, 1, (0, 0, 0, 0, 0, [])), (68, .goto 4, 3, (72, 0, 0, 0, 0, [])), (71, .iconst 1, 1, (0, 0, 0, 1, 0, []))]),
  (81, [(72, .ireturn, 1, (0, 0, 0, 0, 0, [])), (73, .aload_n 0, 1, (0, 0, 0, 0, 0, [])), (74, .getfield 44, 3, (9, 18, 2, 0, 0, [])), (77, .iconst 5, 1, (0, 0, 0, 5, 0, [])), (78, .iload_n 2, 1, (2, 0, 0, 0, 0, [])), (79, .imul, 1, (0, 0, 0, 0, 0, [])), (80, .aload_n 1, 1, (1, 0, 0, 0, 0, []))]),
  (90, [(81, .iload_n 3, 1, (3, 0, 0, 0, 0, [])), (82, .iconst 0, 1, (0, 0, 0, 0, 0, [])), (83, .invokestatic 151, 3, (154, 3, 1, 0, 0, [])), (86, .iadd, 1, (0, 0, 0, 0, 0, [])), (87, .iaload, 1, (0, 0, 0, 0, 0, [])), (88, .ireturn, 1, (0, 0, 0, 0, 0, [])), (89, .iload_n 3, 1, (3, 0, 0, 0, 0, []))]),
  (91, [(90, .ireturn, 1, (0, 0, 0, 0, 0, []))])]
def zt_X9_leave : List (Nat × List zv_E) := [
  (14, [(0, .bipush (-9), 2, (0, 0, 0, (-9), 0, [])), (2, .istore 5, 2, (5, 0, 0, 0, 0, [])), (4, .iconst 0, 1, (0, 0, 0, 0, 0, [])), (5, .istore 6, 2, (6, 0, 0, 0, 0, [])), (7, .iload 6, 2, (6, 0, 0, 0, 0, [])), (9, .iconst 4, 1, (0, 0, 0, 4, 0, [])), (10, .if_icmp .ge 52, 3, (62, 0, 0, 0, 0, [])), (13, .iload_n 3, 1, (3, 0, 0, 0, 0, []))]),
  (31, [(14, .iload 6, 2, (6, 0, 0, 0, 0, [])), (16, .invokestatic 162, 3, (130, 2, 1, 0, 0, [])), (19, .ifCond .eq 37, 3, (56, 0, 0, 0, 0, [])), (22, .iload 5, 2, (5, 0, 0, 0, 0, [])), (24, .bipush (-9), 2, (0, 0, 0, (-9), 0, [])), (26, .if_icmp .eq 18, 3, (44, 0, 0, 0, 0, [])), (29, .aload_n 0, 1, (0, 0, 0, 0, 0, [])), (30, .aload_n 1, 1, (1, 0, 0, 0, 0, []))]),
  (46, [(31, .iload_n 2, 1, (2, 0, 0, 0, 0, [])), (32, .iload 6, 2, (6, 0, 0, 0, 0, [])), (34, .iload 4, 2, (4, 0, 0, 0, 0, [])), (36, .invokevirtual 174, 3, (160, 5, 1, 0, 0, [])), (39, .iload 5, 2, (5, 0, 0, 0, 0, [])), (41, .if_icmp .ge 15, 3, (56, 0, 0, 0, 0, [])), (44, .aload_n 0, 1, (0, 0, 0, 0, 0, [])), (45, .aload_n 1, 1, (1, 0, 0, 0, 0, []))]),
  (63, [(46, .iload_n 2, 1, (2, 0, 0, 0, 0, [])), (47, .iload 6, 2, (6, 0, 0, 0, 0, [])), (49, .iload 4, 2, (4, 0, 0, 0, 0, [])), (51, .invokevirtual 174, 3, (160, 5, 1, 0, 0, [])), (54, .istore 5, 2, (5, 0, 0, 0, 0, [])), (56, .iinc 6 1, 3, (6, 0, 0, 1, 0, [])), (59, .goto (-52), 3, (7, 0, 0, 0, 0, [])), (62, .iconst 0, 1, (0, 0, 0, 0, 0, []))]),
  (77, [(63, .istore 6, 2, (6, 0, 0, 0, 0, [])), (65, .iconst 0, 1, (0, 0, 0, 0, 0, [])), (66, .istore 7, 2, (7, 0, 0, 0, 0, [])), (68, .iload 7, 2, (7, 0, 0, 0, 0, [])), (70, .iconst 4, 1, (0, 0, 0, 4, 0, [])), (71, .if_icmp .ge 46, 3, (117, 0, 0, 0, 0, [])), (74, .iload 6, 2, (6, 0, 0, 0, 0, [])), (76, .iload_n 3, 1, (3, 0, 0, 0, 0, []))]),
  (91, [(77, .iload 7, 2, (7, 0, 0, 0, 0, [])), (79, .invokestatic 162, 3, (130, 2, 1, 0, 0, [])), (82, .ifCond .eq 25, 3, (107, 0, 0, 0, 0, [])), (85, .aload_n 0, 1, (0, 0, 0, 0, 0, [])), (86, .aload_n 1, 1, (1, 0, 0, 0, 0, [])), (87, .iload_n 2, 1, (2, 0, 0, 0, 0, [])), (88, .iload 7, 2, (7, 0, 0, 0, 0, [])), (90, .iload 4, 2, (4, 0, 0, 0, 0, []))]),
  (108, [(92, .invokevirtual 174, 3, (160, 5, 1, 0, 0, [])), (95, .iload 5, 2, (5, 0, 0, 0, 0, [])), (97, .if_icmp .ne 10, 3, (107, 0, 0, 0, 0, [])), (100, .iconst 1, 1, (0, 0, 0, 1, 0, [])), (101, .iload 7, 2, (7, 0, 0, 0, 0, [])), (103, .ishl, 1, (0, 0, 0, 0, 0, [])), (104, .goto 4, 3, (108, 0, 0, 0, 0, [])), (107, .iconst 0, 1, (0, 0, 0, 0, 0, []))]),
  (120, [(108, .ior, 1, (0, 0, 0, 0, 0, [])), (109, .istore 6, 2, (6, 0, 0, 0, 0, [])), (111, .iinc 7 1, 3, (7, 0, 0, 1, 0, [])), (114, .goto (-46), 3, (68, 0, 0, 0, 0, [])), (117, .iload 6, 2, (6, 0, 0, 0, 0, [])), (119, .ireturn, 1, (0, 0, 0, 0, 0, []))])]
def zt_X9_leaveByNeighbours : List (Nat × List zv_E) := [
  (13, [(0, .iload_n 2, 1, (2, 0, 0, 0, 0, [])), (1, .istore_n 3, 1, (3, 0, 0, 0, 0, [])), (2, .iconst 0, 1, (0, 0, 0, 0, 0, [])), (3, .istore 4, 2, (4, 0, 0, 0, 0, [])), (5, .iload 4, 2, (4, 0, 0, 0, 0, [])), (7, .bipush 16, 2, (0, 0, 0, 16, 0, [])), (9, .if_icmp .ge 98, 3, (107, 0, 0, 0, 0, [])), (12, .iload 4, 2, (4, 0, 0, 0, 0, []))]),
  (25, [(14, .iconst 4, 1, (0, 0, 0, 4, 0, [])), (15, .idiv, 1, (0, 0, 0, 0, 0, [])), (16, .istore 5, 2, (5, 0, 0, 0, 0, [])), (18, .iload 4, 2, (4, 0, 0, 0, 0, [])), (20, .iconst 4, 1, (0, 0, 0, 4, 0, [])), (21, .irem, 1, (0, 0, 0, 0, 0, [])), (22, .istore 6, 2, (6, 0, 0, 0, 0, [])), (24, .iload_n 2, 1, (2, 0, 0, 0, 0, []))]),
  (43, [(25, .iload 5, 2, (5, 0, 0, 0, 0, [])), (27, .invokestatic 162, 3, (130, 2, 1, 0, 0, [])), (30, .ifCond .eq 50, 3, (80, 0, 0, 0, 0, [])), (33, .iload_n 2, 1, (2, 0, 0, 0, 0, [])), (34, .iload 6, 2, (6, 0, 0, 0, 0, [])), (36, .invokestatic 162, 3, (130, 2, 1, 0, 0, [])), (39, .ifCond .eq 41, 3, (80, 0, 0, 0, 0, [])), (42, .aload_n 1, 1, (1, 0, 0, 0, 0, []))]),
  (57, [(43, .iload 5, 2, (5, 0, 0, 0, 0, [])), (45, .iconst 1, 1, (0, 0, 0, 1, 0, [])), (46, .invokestatic 151, 3, (154, 3, 1, 0, 0, [])), (49, .aload_n 1, 1, (1, 0, 0, 0, 0, [])), (50, .iload 6, 2, (6, 0, 0, 0, 0, [])), (52, .iconst 1, 1, (0, 0, 0, 1, 0, [])), (53, .invokestatic 151, 3, (154, 3, 1, 0, 0, [])), (56, .if_icmp .ne 24, 3, (80, 0, 0, 0, 0, []))]),
  (71, [(59, .aload_n 1, 1, (1, 0, 0, 0, 0, [])), (60, .iload 6, 2, (6, 0, 0, 0, 0, [])), (62, .iconst 3, 1, (0, 0, 0, 3, 0, [])), (63, .invokestatic 151, 3, (154, 3, 1, 0, 0, [])), (66, .aload_n 1, 1, (1, 0, 0, 0, 0, [])), (67, .iload 5, 2, (5, 0, 0, 0, 0, [])), (69, .iconst 3, 1, (0, 0, 0, 3, 0, [])), (70, .invokestatic 151, 3, (154, 3, 1, 0, 0, []))]),
  (87, [(73, .if_icmp .ge 7, 3, (80, 0, 0, 0, 0, [])), (76, .iconst 1, 1, (0, 0, 0, 1, 0, [])), (77, .goto 4, 3, (81, 0, 0, 0, 0, [])), (80, .iconst 0, 1, (0, 0, 0, 0, 0, [])), (81, .istore 7, 2, (7, 0, 0, 0, 0, [])), (83, .iload_n 3, 1, (3, 0, 0, 0, 0, [])), (84, .iload 7, 2, (7, 0, 0, 0, 0, [])), (86, .ifCond .eq 12, 3, (98, 0, 0, 0, 0, []))]),
  (100, [(89, .iconst 1, 1, (0, 0, 0, 1, 0, [])), (90, .iload 5, 2, (5, 0, 0, 0, 0, [])), (92, .ishl, 1, (0, 0, 0, 0, 0, [])), (93, .iconst (-1), 1, (0, 0, 0, (-1), 0, [])), (94, .ixor, 1, (0, 0, 0, 0, 0, [])), (95, .goto 4, 3, (99, 0, 0, 0, 0, [])), (98, .iconst (-1), 1, (0, 0, 0, (-1), 0, [])), (99, .iand, 1, (0, 0, 0, 0, 0, []))]),
  (109, [(100, .istore_n 3, 1, (3, 0, 0, 0, 0, [])), (101, .iinc 4 1, 3, (4, 0, 0, 1, 0, [])), (104, .goto (-99), 3, (5, 0, 0, 0, 0, [])), (107, .iload_n 3, 1, (3, 0, 0, 0, 0, [])), (108, .ireturn, 1, (0, 0, 0, 0, 0, []))])]
def zt_X9_best : List (Nat × List zv_E) := [
  (11, [(0, .aload_n 0, 1, (0, 0, 0, 0, 0, [])), (1, .aload_n 1, 1, (1, 0, 0, 0, 0, [])), (2, .iload_n 2, 1, (2, 0, 0, 0, 0, [])), (3, .iload_n 3, 1, (3, 0, 0, 0, 0, [])), (4, .iconst 1, 1, (0, 0, 0, 1, 0, [])), (5, .invokevirtual 178, 3, (161, 5, 1, 0, 0, [])), (8, .istore 4, 2, (4, 0, 0, 0, 0, [])), (10, .aload_n 1, 1, (1, 0, 0, 0, 0, []))]),
  (24, [(11, .iconst 4, 1, (0, 0, 0, 4, 0, [])), (12, .iaload, 1, (0, 0, 0, 0, 0, [])), (13, .ifCond .ne 13, 3, (26, 0, 0, 0, 0, [])), (16, .aload_n 0, 1, (0, 0, 0, 0, 0, [])), (17, .aload_n 1, 1, (1, 0, 0, 0, 0, [])), (18, .iload 4, 2, (4, 0, 0, 0, 0, [])), (20, .invokevirtual 181, 3, (162, 3, 1, 0, 0, [])), (23, .goto 12, 3, (35, 0, 0, 0, 0, []))]),
  (38, [(26, .aload_n 0, 1, (0, 0, 0, 0, 0, [])), (27, .aload_n 1, 1, (1, 0, 0, 0, 0, [])), (28, .iload_n 2, 1, (2, 0, 0, 0, 0, [])), (29, .iload 4, 2, (4, 0, 0, 0, 0, [])), (31, .iconst 2, 1, (0, 0, 0, 2, 0, [])), (32, .invokevirtual 178, 3, (161, 5, 1, 0, 0, [])), (35, .istore 4, 2, (4, 0, 0, 0, 0, [])), (37, .iconst 3, 1, (0, 0, 0, 3, 0, []))]),
  (51, [(38, .istore 5, 2, (5, 0, 0, 0, 0, [])), (40, .iload 5, 2, (5, 0, 0, 0, 0, [])), (42, .bipush 6, 2, (0, 0, 0, 6, 0, [])), (44, .if_icmp .ge 21, 3, (65, 0, 0, 0, 0, [])), (47, .aload_n 0, 1, (0, 0, 0, 0, 0, [])), (48, .aload_n 1, 1, (1, 0, 0, 0, 0, [])), (49, .iload_n 2, 1, (2, 0, 0, 0, 0, [])), (50, .iload 4, 2, (4, 0, 0, 0, 0, []))]),
  (70, [(52, .iload 5, 2, (5, 0, 0, 0, 0, [])), (54, .invokevirtual 178, 3, (161, 5, 1, 0, 0, [])), (57, .istore 4, 2, (4, 0, 0, 0, 0, [])), (59, .iinc 5 1, 3, (5, 0, 0, 1, 0, [])), (62, .goto (-22), 3, (40, 0, 0, 0, 0, [])), (65, .bipush (-9), 2, (0, 0, 0, (-9), 0, [])), (67, .istore 5, 2, (5, 0, 0, 0, 0, [])), (69, .iconst 0, 1, (0, 0, 0, 0, 0, []))]),
  (86, [(70, .istore 6, 2, (6, 0, 0, 0, 0, [])), (72, .iload 6, 2, (6, 0, 0, 0, 0, [])), (74, .iconst 4, 1, (0, 0, 0, 4, 0, [])), (75, .if_icmp .ge 28, 3, (103, 0, 0, 0, 0, [])), (78, .iload 4, 2, (4, 0, 0, 0, 0, [])), (80, .iload 6, 2, (6, 0, 0, 0, 0, [])), (82, .invokestatic 162, 3, (130, 2, 1, 0, 0, [])), (85, .ifCond .eq 8, 3, (93, 0, 0, 0, 0, []))]),
  (106, [(88, .iload 6, 2, (6, 0, 0, 0, 0, [])), (90, .goto 5, 3, (95, 0, 0, 0, 0, [])), (93, .iload 5, 2, (5, 0, 0, 0, 0, [])), (95, .istore 5, 2, (5, 0, 0, 0, 0, [])), (97, .iinc 6 1, 3, (6, 0, 0, 1, 0, [])), (100, .goto (-28), 3, (72, 0, 0, 0, 0, [])), (103, .iload 5, 2, (5, 0, 0, 0, 0, [])), (105, .ireturn, 1, (0, 0, 0, 0, 0, []))])]
def zt_X9_gathered : List (Nat × List zv_E) := [
  (6, [(0, .iconst 0, 1, (0, 0, 0, 0, 0, [])), (1, .istore_n 1, 1, (1, 0, 0, 0, 0, [])), (2, .iconst 0, 1, (0, 0, 0, 0, 0, [])), (3, .istore_n 2, 1, (2, 0, 0, 0, 0, [])), (4, .iload_n 2, 1, (2, 0, 0, 0, 0, [])), (5, .iconst 4, 1, (0, 0, 0, 4, 0, []))]),
  (16, [(6, .if_icmp .ge 30, 3, (36, 0, 0, 0, 0, [])), (9, .iload_n 1, 1, (1, 0, 0, 0, 0, [])), (10, .aload_n 0, 1, (0, 0, 0, 0, 0, [])), (11, .getfield 47, 3, (9, 19, 2, 0, 0, [])), (14, .iload_n 2, 1, (2, 0, 0, 0, 0, [])), (15, .iaload, 1, (0, 0, 0, 0, 0, []))]),
  (27, [(16, .bipush (-9), 2, (0, 0, 0, (-9), 0, [])), (18, .if_icmp .ne 7, 3, (25, 0, 0, 0, 0, [])), (21, .iconst 0, 1, (0, 0, 0, 0, 0, [])), (22, .goto 6, 3, (28, 0, 0, 0, 0, [])), (25, .iconst 1, 1, (0, 0, 0, 1, 0, [])), (26, .iload_n 2, 1, (2, 0, 0, 0, 0, []))]),
  (37, [(27, .ishl, 1, (0, 0, 0, 0, 0, [])), (28, .ior, 1, (0, 0, 0, 0, 0, [])), (29, .istore_n 1, 1, (1, 0, 0, 0, 0, [])), (30, .iinc 2 1, 3, (2, 0, 0, 1, 0, [])), (33, .goto (-29), 3, (4, 0, 0, 0, 0, [])), (36, .iload_n 1, 1, (1, 0, 0, 0, 0, []))]),
  (38, [(37, .ireturn, 1, (0, 0, 0, 0, 0, []))])]
def zt_X9_putTaken : List (Nat × List zv_E) := [
  (9, [(0, .aload_n 0, 1, (0, 0, 0, 0, 0, [])), (1, .getfield 53, 3, (9, 21, 2, 0, 0, [])), (4, .iconst 3, 1, (0, 0, 0, 3, 0, [])), (5, .iload_n 1, 1, (1, 0, 0, 0, 0, [])), (6, .imul, 1, (0, 0, 0, 0, 0, [])), (7, .iload_n 2, 1, (2, 0, 0, 0, 0, [])), (8, .iastore, 1, (0, 0, 0, 0, 0, []))]),
  (18, [(9, .aload_n 0, 1, (0, 0, 0, 0, 0, [])), (10, .getfield 53, 3, (9, 21, 2, 0, 0, [])), (13, .iconst 3, 1, (0, 0, 0, 3, 0, [])), (14, .iload_n 1, 1, (1, 0, 0, 0, 0, [])), (15, .imul, 1, (0, 0, 0, 0, 0, [])), (16, .iconst 1, 1, (0, 0, 0, 1, 0, [])), (17, .iadd, 1, (0, 0, 0, 0, 0, []))]),
  (31, [(18, .iload_n 2, 1, (2, 0, 0, 0, 0, [])), (19, .bipush (-9), 2, (0, 0, 0, (-9), 0, [])), (21, .if_icmp .ne 8, 3, (29, 0, 0, 0, 0, [])), (24, .bipush (-9), 2, (0, 0, 0, (-9), 0, [])), (26, .goto 9, 3, (35, 0, 0, 0, 0, [])), (29, .aload_n 0, 1, (0, 0, 0, 0, 0, [])), (30, .getfield 47, 3, (9, 19, 2, 0, 0, []))]),
  (42, [(33, .iload_n 2, 1, (2, 0, 0, 0, 0, [])), (34, .iaload, 1, (0, 0, 0, 0, 0, [])), (35, .iastore, 1, (0, 0, 0, 0, 0, [])), (36, .aload_n 0, 1, (0, 0, 0, 0, 0, [])), (37, .getfield 53, 3, (9, 21, 2, 0, 0, [])), (40, .iconst 3, 1, (0, 0, 0, 3, 0, [])), (41, .iload_n 1, 1, (1, 0, 0, 0, 0, []))]),
  (52, [(42, .imul, 1, (0, 0, 0, 0, 0, [])), (43, .iconst 2, 1, (0, 0, 0, 2, 0, [])), (44, .iadd, 1, (0, 0, 0, 0, 0, [])), (45, .iload_n 2, 1, (2, 0, 0, 0, 0, [])), (46, .bipush (-9), 2, (0, 0, 0, (-9), 0, [])), (48, .if_icmp .ne 8, 3, (56, 0, 0, 0, 0, [])), (51, .bipush (-9), 2, (0, 0, 0, (-9), 0, []))]),
  (64, [(53, .goto 9, 3, (62, 0, 0, 0, 0, [])), (56, .aload_n 0, 1, (0, 0, 0, 0, 0, [])), (57, .getfield 50, 3, (9, 20, 2, 0, 0, [])), (60, .iload_n 2, 1, (2, 0, 0, 0, 0, [])), (61, .iaload, 1, (0, 0, 0, 0, 0, [])), (62, .iastore, 1, (0, 0, 0, 0, 0, [])), (63, .return_, 1, (0, 0, 0, 0, 0, []))])]
def zt_X9_take : List (Nat × List zv_E) := [
  (12, [(0, .aload_n 0, 1, (0, 0, 0, 0, 0, [])), (1, .aload_n 1, 1, (1, 0, 0, 0, 0, [])), (2, .iload_n 2, 1, (2, 0, 0, 0, 0, [])), (3, .invokevirtual 185, 3, (159, 3, 0, 0, 0, [])), (6, .aload_n 0, 1, (0, 0, 0, 0, 0, [])), (7, .invokevirtual 189, 3, (164, 1, 1, 0, 0, [])), (10, .istore_n 3, 1, (3, 0, 0, 0, 0, [])), (11, .aload_n 0, 1, (0, 0, 0, 0, 0, []))]),
  (23, [(12, .aload_n 1, 1, (1, 0, 0, 0, 0, [])), (13, .iload_n 2, 1, (2, 0, 0, 0, 0, [])), (14, .iload_n 3, 1, (3, 0, 0, 0, 0, [])), (15, .invokevirtual 192, 3, (163, 4, 1, 0, 0, [])), (18, .istore 4, 2, (4, 0, 0, 0, 0, [])), (20, .aload_n 0, 1, (0, 0, 0, 0, 0, [])), (21, .iconst 0, 1, (0, 0, 0, 0, 0, [])), (22, .iload 4, 2, (4, 0, 0, 0, 0, []))]),
  (38, [(24, .invokevirtual 195, 3, (165, 3, 0, 0, 0, [])), (27, .aload_n 1, 1, (1, 0, 0, 0, 0, [])), (28, .iconst 3, 1, (0, 0, 0, 3, 0, [])), (29, .iaload, 1, (0, 0, 0, 0, 0, [])), (30, .iload_n 2, 1, (2, 0, 0, 0, 0, [])), (31, .invokestatic 162, 3, (130, 2, 1, 0, 0, [])), (34, .ifCond .eq 14, 3, (48, 0, 0, 0, 0, [])), (37, .iload 4, 2, (4, 0, 0, 0, 0, []))]),
  (53, [(39, .bipush (-9), 2, (0, 0, 0, (-9), 0, [])), (41, .if_icmp .eq 7, 3, (48, 0, 0, 0, 0, [])), (44, .iconst 1, 1, (0, 0, 0, 1, 0, [])), (45, .goto 4, 3, (49, 0, 0, 0, 0, [])), (48, .iconst 0, 1, (0, 0, 0, 0, 0, [])), (49, .istore 5, 2, (5, 0, 0, 0, 0, [])), (51, .aload_n 0, 1, (0, 0, 0, 0, 0, [])), (52, .iconst 1, 1, (0, 0, 0, 1, 0, []))]),
  (64, [(53, .iload 5, 2, (5, 0, 0, 0, 0, [])), (55, .ifCond .eq 20, 3, (75, 0, 0, 0, 0, [])), (58, .aload_n 0, 1, (0, 0, 0, 0, 0, [])), (59, .aload_n 1, 1, (1, 0, 0, 0, 0, [])), (60, .iload_n 2, 1, (2, 0, 0, 0, 0, [])), (61, .iload_n 3, 1, (3, 0, 0, 0, 0, [])), (62, .iconst 1, 1, (0, 0, 0, 1, 0, [])), (63, .iload 4, 2, (4, 0, 0, 0, 0, []))]),
  (78, [(65, .ishl, 1, (0, 0, 0, 0, 0, [])), (66, .iconst (-1), 1, (0, 0, 0, (-1), 0, [])), (67, .ixor, 1, (0, 0, 0, 0, 0, [])), (68, .iand, 1, (0, 0, 0, 0, 0, [])), (69, .invokevirtual 192, 3, (163, 4, 1, 0, 0, [])), (72, .goto 5, 3, (77, 0, 0, 0, 0, [])), (75, .bipush (-9), 2, (0, 0, 0, (-9), 0, [])), (77, .invokevirtual 195, 3, (165, 3, 0, 0, 0, []))]),
  (81, [(80, .return_, 1, (0, 0, 0, 0, 0, []))])]
def zt_X9_putChoices : List (Nat × List zv_E) := [
  (10, [(0, .iconst 0, 1, (0, 0, 0, 0, 0, [])), (1, .istore_n 3, 1, (3, 0, 0, 0, 0, [])), (2, .iconst 0, 1, (0, 0, 0, 0, 0, [])), (3, .istore 4, 2, (4, 0, 0, 0, 0, [])), (5, .iload 4, 2, (4, 0, 0, 0, 0, [])), (7, .bipush 6, 2, (0, 0, 0, 6, 0, [])), (9, .if_icmp .ge 56, 3, (65, 0, 0, 0, 0, []))]),
  (22, [(12, .bipush 71, 2, (0, 0, 0, 71, 0, [])), (14, .bipush 6, 2, (0, 0, 0, 6, 0, [])), (16, .iload_n 2, 1, (2, 0, 0, 0, 0, [])), (17, .imul, 1, (0, 0, 0, 0, 0, [])), (18, .iadd, 1, (0, 0, 0, 0, 0, [])), (19, .iload 4, 2, (4, 0, 0, 0, 0, [])), (21, .iadd, 1, (0, 0, 0, 0, 0, []))]),
  (33, [(22, .istore 5, 2, (5, 0, 0, 0, 0, [])), (24, .iload_n 3, 1, (3, 0, 0, 0, 0, [])), (25, .ifCond .ne 17, 3, (42, 0, 0, 0, 0, [])), (28, .aload_n 1, 1, (1, 0, 0, 0, 0, [])), (29, .iload 5, 2, (5, 0, 0, 0, 0, [])), (31, .iaload, 1, (0, 0, 0, 0, 0, [])), (32, .aload_n 0, 1, (0, 0, 0, 0, 0, []))]),
  (47, [(33, .getfield 53, 3, (9, 21, 2, 0, 0, [])), (36, .iload 4, 2, (4, 0, 0, 0, 0, [])), (38, .iaload, 1, (0, 0, 0, 0, 0, [])), (39, .if_icmp .eq 7, 3, (46, 0, 0, 0, 0, [])), (42, .iconst 1, 1, (0, 0, 0, 1, 0, [])), (43, .goto 4, 3, (47, 0, 0, 0, 0, [])), (46, .iconst 0, 1, (0, 0, 0, 0, 0, []))]),
  (58, [(47, .istore_n 3, 1, (3, 0, 0, 0, 0, [])), (48, .aload_n 1, 1, (1, 0, 0, 0, 0, [])), (49, .iload 5, 2, (5, 0, 0, 0, 0, [])), (51, .aload_n 0, 1, (0, 0, 0, 0, 0, [])), (52, .getfield 53, 3, (9, 21, 2, 0, 0, [])), (55, .iload 4, 2, (4, 0, 0, 0, 0, [])), (57, .iaload, 1, (0, 0, 0, 0, 0, []))]),
  (67, [(58, .iastore, 1, (0, 0, 0, 0, 0, [])), (59, .iinc 4 1, 3, (4, 0, 0, 1, 0, [])), (62, .goto (-57), 3, (5, 0, 0, 0, 0, [])), (65, .iload_n 3, 1, (3, 0, 0, 0, 0, [])), (66, .ireturn, 1, (0, 0, 0, 0, 0, []))])]
def zt_X9_stepOn : List (Nat × List zv_E) := [
  (8, [(0, .aload_n 0, 1, (0, 0, 0, 0, 0, [])), (1, .aload_n 1, 1, (1, 0, 0, 0, 0, [])), (2, .iload_n 2, 1, (2, 0, 0, 0, 0, [])), (3, .invokevirtual 199, 3, (166, 3, 0, 0, 0, [])), (6, .aload_n 0, 1, (0, 0, 0, 0, 0, [])), (7, .aload_n 1, 1, (1, 0, 0, 0, 0, []))]),
  (13, [(8, .iload_n 2, 1, (2, 0, 0, 0, 0, [])), (9, .invokevirtual 202, 3, (167, 3, 1, 0, 0, [])), (12, .ireturn, 1, (0, 0, 0, 0, 0, []))])]
def zt_X9_roundOn : List (Nat × List zv_E) := [
  (11, [(0, .iconst 0, 1, (0, 0, 0, 0, 0, [])), (1, .istore_n 2, 1, (2, 0, 0, 0, 0, [])), (2, .iload_n 2, 1, (2, 0, 0, 0, 0, [])), (3, .aload_n 1, 1, (1, 0, 0, 0, 0, [])), (4, .iconst 0, 1, (0, 0, 0, 0, 0, [])), (5, .iaload, 1, (0, 0, 0, 0, 0, [])), (6, .if_icmp .ge 46, 3, (52, 0, 0, 0, 0, [])), (9, .aload_n 0, 1, (0, 0, 0, 0, 0, [])), (10, .aload_n 1, 1, (1, 0, 0, 0, 0, []))]),
  (25, [(11, .iload_n 2, 1, (2, 0, 0, 0, 0, [])), (12, .invokevirtual 199, 3, (166, 3, 0, 0, 0, [])), (15, .iconst 0, 1, (0, 0, 0, 0, 0, [])), (16, .istore_n 3, 1, (3, 0, 0, 0, 0, [])), (17, .iload_n 3, 1, (3, 0, 0, 0, 0, [])), (18, .bipush 6, 2, (0, 0, 0, 6, 0, [])), (20, .if_icmp .ge 26, 3, (46, 0, 0, 0, 0, [])), (23, .aload_n 0, 1, (0, 0, 0, 0, 0, [])), (24, .getfield 56, 3, (9, 22, 2, 0, 0, []))]),
  (39, [(27, .bipush 6, 2, (0, 0, 0, 6, 0, [])), (29, .iload_n 2, 1, (2, 0, 0, 0, 0, [])), (30, .imul, 1, (0, 0, 0, 0, 0, [])), (31, .iload_n 3, 1, (3, 0, 0, 0, 0, [])), (32, .iadd, 1, (0, 0, 0, 0, 0, [])), (33, .aload_n 0, 1, (0, 0, 0, 0, 0, [])), (34, .getfield 53, 3, (9, 21, 2, 0, 0, [])), (37, .iload_n 3, 1, (3, 0, 0, 0, 0, [])), (38, .iaload, 1, (0, 0, 0, 0, 0, []))]),
  (56, [(39, .iastore, 1, (0, 0, 0, 0, 0, [])), (40, .iinc 3 1, 3, (3, 0, 0, 1, 0, [])), (43, .goto (-26), 3, (17, 0, 0, 0, 0, [])), (46, .iinc 2 1, 3, (2, 0, 0, 1, 0, [])), (49, .goto (-47), 3, (2, 0, 0, 0, 0, [])), (52, .iconst 0, 1, (0, 0, 0, 0, 0, [])), (53, .istore_n 2, 1, (2, 0, 0, 0, 0, [])), (54, .iconst 0, 1, (0, 0, 0, 0, 0, [])), (55, .istore_n 3, 1, (3, 0, 0, 0, 0, []))]),
  (69, [(56, .iload_n 3, 1, (3, 0, 0, 0, 0, [])), (57, .aload_n 1, 1, (1, 0, 0, 0, 0, [])), (58, .iconst 0, 1, (0, 0, 0, 0, 0, [])), (59, .iaload, 1, (0, 0, 0, 0, 0, [])), (60, .if_icmp .ge 61, 3, (121, 0, 0, 0, 0, [])), (63, .iconst 0, 1, (0, 0, 0, 0, 0, [])), (64, .istore 4, 2, (4, 0, 0, 0, 0, [])), (66, .iload 4, 2, (4, 0, 0, 0, 0, [])), (68, .bipush 6, 2, (0, 0, 0, 6, 0, []))]),
  (87, [(70, .if_icmp .ge 28, 3, (98, 0, 0, 0, 0, [])), (73, .aload_n 0, 1, (0, 0, 0, 0, 0, [])), (74, .getfield 53, 3, (9, 21, 2, 0, 0, [])), (77, .iload 4, 2, (4, 0, 0, 0, 0, [])), (79, .aload_n 0, 1, (0, 0, 0, 0, 0, [])), (80, .getfield 56, 3, (9, 22, 2, 0, 0, [])), (83, .bipush 6, 2, (0, 0, 0, 6, 0, [])), (85, .iload_n 3, 1, (3, 0, 0, 0, 0, [])), (86, .imul, 1, (0, 0, 0, 0, 0, []))]),
  (101, [(87, .iload 4, 2, (4, 0, 0, 0, 0, [])), (89, .iadd, 1, (0, 0, 0, 0, 0, [])), (90, .iaload, 1, (0, 0, 0, 0, 0, [])), (91, .iastore, 1, (0, 0, 0, 0, 0, [])), (92, .iinc 4 1, 3, (4, 0, 0, 1, 0, [])), (95, .goto (-29), 3, (66, 0, 0, 0, 0, [])), (98, .iload_n 2, 1, (2, 0, 0, 0, 0, [])), (99, .aload_n 0, 1, (0, 0, 0, 0, 0, [])), (100, .aload_n 1, 1, (1, 0, 0, 0, 0, []))]),
  (116, [(101, .iload_n 3, 1, (3, 0, 0, 0, 0, [])), (102, .invokevirtual 202, 3, (167, 3, 1, 0, 0, [])), (105, .ifCond .eq 7, 3, (112, 0, 0, 0, 0, [])), (108, .iconst 1, 1, (0, 0, 0, 1, 0, [])), (109, .goto 4, 3, (113, 0, 0, 0, 0, [])), (112, .iconst 0, 1, (0, 0, 0, 0, 0, [])), (113, .iadd, 1, (0, 0, 0, 0, 0, [])), (114, .istore_n 2, 1, (2, 0, 0, 0, 0, [])), (115, .iinc 3 1, 3, (3, 0, 0, 1, 0, []))]),
  (123, [(118, .goto (-62), 3, (56, 0, 0, 0, 0, [])), (121, .iload_n 2, 1, (2, 0, 0, 0, 0, [])), (122, .ireturn, 1, (0, 0, 0, 0, 0, []))])]
def zt_X9_note : List (Nat × List zv_E) := [
  (13, [(0, .aload_n 0, 1, (0, 0, 0, 0, 0, [])), (1, .getfield 137, 3, (9, 10, 0, 0, 0, [])), (4, .bipush 14, 2, (0, 0, 0, 14, 0, [])), (6, .if_icmp .ne 43, 3, (49, 0, 0, 0, 0, [])), (9, .iconst 0, 1, (0, 0, 0, 0, 0, [])), (10, .istore_n 1, 1, (1, 0, 0, 0, 0, [])), (11, .iload_n 1, 1, (1, 0, 0, 0, 0, [])), (12, .sipush 1313, 3, (0, 0, 0, 1313, 0, []))]),
  (29, [(15, .if_icmp .ge 24, 3, (39, 0, 0, 0, 0, [])), (18, .aload_n 0, 1, (0, 0, 0, 0, 0, [])), (19, .getfield 25, 3, (9, 9, 2, 0, 0, [])), (22, .iload_n 1, 1, (1, 0, 0, 0, 0, [])), (23, .aload_n 0, 1, (0, 0, 0, 0, 0, [])), (24, .getfield 25, 3, (9, 9, 2, 0, 0, [])), (27, .iload_n 1, 1, (1, 0, 0, 0, 0, [])), (28, .bipush 101, 2, (0, 0, 0, 101, 0, []))]),
  (42, [(30, .iadd, 1, (0, 0, 0, 0, 0, [])), (31, .iaload, 1, (0, 0, 0, 0, 0, [])), (32, .iastore, 1, (0, 0, 0, 0, 0, [])), (33, .iinc 1 1, 3, (1, 0, 0, 1, 0, [])), (36, .goto (-25), 3, (11, 0, 0, 0, 0, [])), (39, .aload_n 0, 1, (0, 0, 0, 0, 0, [])), (40, .dup, 1, (0, 0, 0, 0, 0, [])), (41, .getfield 137, 3, (9, 10, 0, 0, 0, []))]),
  (55, [(44, .iconst 1, 1, (0, 0, 0, 1, 0, [])), (45, .isub, 1, (0, 0, 0, 0, 0, [])), (46, .putfield 137, 3, (9, 10, 0, 0, 0, [])), (49, .iconst 0, 1, (0, 0, 0, 0, 0, [])), (50, .istore_n 1, 1, (1, 0, 0, 0, 0, [])), (51, .iload_n 1, 1, (1, 0, 0, 0, 0, [])), (52, .bipush 101, 2, (0, 0, 0, 101, 0, [])), (54, .if_icmp .ge 29, 3, (83, 0, 0, 0, 0, []))]),
  (70, [(57, .aload_n 0, 1, (0, 0, 0, 0, 0, [])), (58, .getfield 25, 3, (9, 9, 2, 0, 0, [])), (61, .bipush 101, 2, (0, 0, 0, 101, 0, [])), (63, .aload_n 0, 1, (0, 0, 0, 0, 0, [])), (64, .getfield 137, 3, (9, 10, 0, 0, 0, [])), (67, .imul, 1, (0, 0, 0, 0, 0, [])), (68, .iload_n 1, 1, (1, 0, 0, 0, 0, [])), (69, .iadd, 1, (0, 0, 0, 0, 0, []))]),
  (84, [(70, .aload_n 0, 1, (0, 0, 0, 0, 0, [])), (71, .getfield 16, 3, (9, 6, 2, 0, 0, [])), (74, .iload_n 1, 1, (1, 0, 0, 0, 0, [])), (75, .iaload, 1, (0, 0, 0, 0, 0, [])), (76, .iastore, 1, (0, 0, 0, 0, 0, [])), (77, .iinc 1 1, 3, (1, 0, 0, 1, 0, [])), (80, .goto (-29), 3, (51, 0, 0, 0, 0, [])), (83, .aload_n 0, 1, (0, 0, 0, 0, 0, []))]),
  (94, [(84, .dup, 1, (0, 0, 0, 0, 0, [])), (85, .getfield 137, 3, (9, 10, 0, 0, 0, [])), (88, .iconst 1, 1, (0, 0, 0, 1, 0, [])), (89, .iadd, 1, (0, 0, 0, 0, 0, [])), (90, .putfield 137, 3, (9, 10, 0, 0, 0, [])), (93, .return_, 1, (0, 0, 0, 0, 0, []))])]
def zt_X9_step : List (Nat × List zv_E) := [
  (8, [(0, .aload_n 0, 1, (0, 0, 0, 0, 0, [])), (1, .iconst 0, 1, (0, 0, 0, 0, 0, [])), (2, .putfield 72, 3, (9, 0, 0, 0, 0, [])), (5, .aload_n 0, 1, (0, 0, 0, 0, 0, [])), (6, .iload_n 1, 1, (1, 0, 0, 0, 0, [])), (7, .invokevirtual 140, 3, (135, 2, 1, 0, 0, []))]),
  (20, [(10, .ifCond .eq 5, 3, (15, 0, 0, 0, 0, [])), (13, .iconst (-1), 1, (0, 0, 0, (-1), 0, [])), (14, .ireturn, 1, (0, 0, 0, 0, 0, [])), (15, .aload_n 0, 1, (0, 0, 0, 0, 0, [])), (16, .invokevirtual 206, 3, (170, 1, 0, 0, 0, [])), (19, .aload_n 0, 1, (0, 0, 0, 0, 0, []))]),
  (30, [(20, .aload_n 0, 1, (0, 0, 0, 0, 0, [])), (21, .getfield 16, 3, (9, 6, 2, 0, 0, [])), (24, .invokevirtual 143, 3, (151, 2, 0, 0, 0, [])), (27, .aload_n 0, 1, (0, 0, 0, 0, 0, [])), (28, .aload_n 0, 1, (0, 0, 0, 0, 0, [])), (29, .getfield 16, 3, (9, 6, 2, 0, 0, []))]),
  (44, [(32, .iload_n 1, 1, (1, 0, 0, 0, 0, [])), (33, .invokevirtual 209, 3, (168, 3, 1, 0, 0, [])), (36, .ifCond .eq 7, 3, (43, 0, 0, 0, 0, [])), (39, .iconst 1, 1, (0, 0, 0, 1, 0, [])), (40, .goto 4, 3, (44, 0, 0, 0, 0, [])), (43, .iconst 0, 1, (0, 0, 0, 0, 0, []))]),
  (45, [(44, .ireturn, 1, (0, 0, 0, 0, 0, []))])]
def zt_X9_round : List (Nat × List zv_E) := [
  (10, [(0, .aload_n 0, 1, (0, 0, 0, 0, 0, [])), (1, .iconst 0, 1, (0, 0, 0, 0, 0, [])), (2, .putfield 72, 3, (9, 0, 0, 0, 0, [])), (5, .aload_n 0, 1, (0, 0, 0, 0, 0, [])), (6, .invokevirtual 206, 3, (170, 1, 0, 0, 0, [])), (9, .aload_n 0, 1, (0, 0, 0, 0, 0, []))]),
  (20, [(10, .aload_n 0, 1, (0, 0, 0, 0, 0, [])), (11, .getfield 16, 3, (9, 6, 2, 0, 0, [])), (14, .invokevirtual 143, 3, (151, 2, 0, 0, 0, [])), (17, .aload_n 0, 1, (0, 0, 0, 0, 0, [])), (18, .aload_n 0, 1, (0, 0, 0, 0, 0, [])), (19, .getfield 16, 3, (9, 6, 2, 0, 0, []))]),
  (26, [(22, .invokevirtual 212, 3, (169, 2, 1, 0, 0, [])), (25, .ireturn, 1, (0, 0, 0, 0, 0, []))])]
def zt_X9_setLink : List (Nat × List zv_E) := [
  (14, [(0, .aload_n 0, 1, (0, 0, 0, 0, 0, [])), (1, .iconst 0, 1, (0, 0, 0, 0, 0, [])), (2, .putfield 72, 3, (9, 0, 0, 0, 0, [])), (5, .aload_n 0, 1, (0, 0, 0, 0, 0, [])), (6, .iload_n 1, 1, (1, 0, 0, 0, 0, [])), (7, .invokevirtual 140, 3, (135, 2, 1, 0, 0, [])), (10, .ifCond .ne 11, 3, (21, 0, 0, 0, 0, [])), (13, .aload_n 0, 1, (0, 0, 0, 0, 0, []))]),
  (26, [(14, .iload_n 2, 1, (2, 0, 0, 0, 0, [])), (15, .invokevirtual 140, 3, (135, 2, 1, 0, 0, [])), (18, .ifCond .eq 5, 3, (23, 0, 0, 0, 0, [])), (21, .iconst (-1), 1, (0, 0, 0, (-1), 0, [])), (22, .ireturn, 1, (0, 0, 0, 0, 0, [])), (23, .iload_n 1, 1, (1, 0, 0, 0, 0, [])), (24, .iload_n 2, 1, (2, 0, 0, 0, 0, [])), (25, .if_icmp .eq 15, 3, (40, 0, 0, 0, 0, []))]),
  (43, [(28, .iload_n 3, 1, (3, 0, 0, 0, 0, [])), (29, .i2l, 1, (0, 0, 0, 0, 0, [])), (30, .lconst 0, 1, (0, 0, 0, 0, 0, [])), (31, .ldc2_w 216, 3, (0, 0, 0, 0, 9, [])), (34, .invokestatic 76, 3, (129, 3, 1, 0, 0, [])), (37, .ifCond .ne 6, 3, (43, 0, 0, 0, 0, [])), (40, .bipush (-2), 2, (0, 0, 0, (-2), 0, [])), (42, .ireturn, 1, (0, 0, 0, 0, 0, []))]),
  (55, [(43, .aload_n 0, 1, (0, 0, 0, 0, 0, [])), (44, .invokevirtual 206, 3, (170, 1, 0, 0, 0, [])), (47, .aload_n 0, 1, (0, 0, 0, 0, 0, [])), (48, .getfield 16, 3, (9, 6, 2, 0, 0, [])), (51, .iconst 5, 1, (0, 0, 0, 5, 0, [])), (52, .iload_n 1, 1, (1, 0, 0, 0, 0, [])), (53, .iload_n 2, 1, (2, 0, 0, 0, 0, [])), (54, .invokestatic 88, 3, (137, 3, 1, 0, 0, []))]),
  (68, [(57, .iaload, 1, (0, 0, 0, 0, 0, [])), (58, .istore 4, 2, (4, 0, 0, 0, 0, [])), (60, .aload_n 0, 1, (0, 0, 0, 0, 0, [])), (61, .getfield 16, 3, (9, 6, 2, 0, 0, [])), (64, .iconst 5, 1, (0, 0, 0, 5, 0, [])), (65, .iload_n 1, 1, (1, 0, 0, 0, 0, [])), (66, .iload_n 2, 1, (2, 0, 0, 0, 0, [])), (67, .invokestatic 88, 3, (137, 3, 1, 0, 0, []))]),
  (80, [(70, .iload_n 3, 1, (3, 0, 0, 0, 0, [])), (71, .iastore, 1, (0, 0, 0, 0, 0, [])), (72, .aload_n 0, 1, (0, 0, 0, 0, 0, [])), (73, .getfield 16, 3, (9, 6, 2, 0, 0, [])), (76, .iconst 5, 1, (0, 0, 0, 5, 0, [])), (77, .iload_n 2, 1, (2, 0, 0, 0, 0, [])), (78, .iload_n 1, 1, (1, 0, 0, 0, 0, [])), (79, .invokestatic 88, 3, (137, 3, 1, 0, 0, []))]),
  (87, [(82, .iload_n 3, 1, (3, 0, 0, 0, 0, [])), (83, .iastore, 1, (0, 0, 0, 0, 0, [])), (84, .iload 4, 2, (4, 0, 0, 0, 0, [])), (86, .ireturn, 1, (0, 0, 0, 0, 0, []))])]
def zt_X9_turn : List (Nat × List zv_E) := [
  (8, [(0, .aload_n 0, 1, (0, 0, 0, 0, 0, [])), (1, .iconst 0, 1, (0, 0, 0, 0, 0, [])), (2, .putfield 72, 3, (9, 0, 0, 0, 0, [])), (5, .aload_n 0, 1, (0, 0, 0, 0, 0, [])), (6, .iload_n 1, 1, (1, 0, 0, 0, 0, [])), (7, .invokevirtual 146, 3, (136, 2, 1, 0, 0, []))]),
  (20, [(10, .ifCond .eq 5, 3, (15, 0, 0, 0, 0, [])), (13, .iconst (-1), 1, (0, 0, 0, (-1), 0, [])), (14, .ireturn, 1, (0, 0, 0, 0, 0, [])), (15, .aload_n 0, 1, (0, 0, 0, 0, 0, [])), (16, .invokevirtual 206, 3, (170, 1, 0, 0, 0, [])), (19, .aload_n 0, 1, (0, 0, 0, 0, 0, []))]),
  (28, [(20, .getfield 16, 3, (9, 6, 2, 0, 0, [])), (23, .iconst 2, 1, (0, 0, 0, 2, 0, [])), (24, .dup2, 1, (0, 0, 0, 0, 0, [])), (25, .iaload, 1, (0, 0, 0, 0, 0, [])), (26, .iconst 1, 1, (0, 0, 0, 1, 0, [])), (27, .iload_n 1, 1, (1, 0, 0, 0, 0, []))]),
  (36, [(28, .ishl, 1, (0, 0, 0, 0, 0, [])), (29, .ixor, 1, (0, 0, 0, 0, 0, [])), (30, .iastore, 1, (0, 0, 0, 0, 0, [])), (31, .aload_n 0, 1, (0, 0, 0, 0, 0, [])), (32, .getfield 16, 3, (9, 6, 2, 0, 0, [])), (35, .iconst 2, 1, (0, 0, 0, 2, 0, []))]),
  (42, [(36, .iaload, 1, (0, 0, 0, 0, 0, [])), (37, .iload_n 1, 1, (1, 0, 0, 0, 0, [])), (38, .ishr, 1, (0, 0, 0, 0, 0, [])), (39, .iconst 1, 1, (0, 0, 0, 1, 0, [])), (40, .iand, 1, (0, 0, 0, 0, 0, [])), (41, .ireturn, 1, (0, 0, 0, 0, 0, []))])]
end
section
/-! ===== rows of the methods ===== -/
def zt_X9_weigh : List (Nat × List zv_E) := [
  (11, [(0, .aload_n 0, 1, (0, 0, 0, 0, 0, [])), (1, .iconst 0, 1, (0, 0, 0, 0, 0, [])), (2, .putfield 72, 3, (9, 0, 0, 0, 0, [])), (5, .aload_n 0, 1, (0, 0, 0, 0, 0, [])), (6, .iload_n 1, 1, (1, 0, 0, 0, 0, [])), (7, .invokevirtual 146, 3, (136, 2, 1, 0, 0, [])), (10, .ifCond .eq 5, 3, (15, 0, 0, 0, 0, []))]),
  (22, [(13, .iconst (-1), 1, (0, 0, 0, (-1), 0, [])), (14, .ireturn, 1, (0, 0, 0, 0, 0, [])), (15, .iload_n 2, 1, (2, 0, 0, 0, 0, [])), (16, .i2l, 1, (0, 0, 0, 0, 0, [])), (17, .lconst 0, 1, (0, 0, 0, 0, 0, [])), (18, .ldc2_w 218, 3, (0, 0, 0, 0, 5, [])), (21, .invokestatic 76, 3, (129, 3, 1, 0, 0, []))]),
  (36, [(24, .ifCond .ne 6, 3, (30, 0, 0, 0, 0, [])), (27, .bipush (-2), 2, (0, 0, 0, (-2), 0, [])), (29, .ireturn, 1, (0, 0, 0, 0, 0, [])), (30, .aload_n 0, 1, (0, 0, 0, 0, 0, [])), (31, .invokevirtual 206, 3, (170, 1, 0, 0, 0, [])), (34, .aload_n 0, 1, (0, 0, 0, 0, 0, [])), (35, .getfield 16, 3, (9, 6, 2, 0, 0, []))]),
  (49, [(38, .iload_n 1, 1, (1, 0, 0, 0, 0, [])), (39, .iconst 3, 1, (0, 0, 0, 3, 0, [])), (40, .invokestatic 151, 3, (154, 3, 1, 0, 0, [])), (43, .istore_n 3, 1, (3, 0, 0, 0, 0, [])), (44, .aload_n 0, 1, (0, 0, 0, 0, 0, [])), (45, .getfield 16, 3, (9, 6, 2, 0, 0, [])), (48, .bipush 55, 2, (0, 0, 0, 55, 0, []))]),
  (57, [(50, .iconst 4, 1, (0, 0, 0, 4, 0, [])), (51, .iload_n 1, 1, (1, 0, 0, 0, 0, [])), (52, .imul, 1, (0, 0, 0, 0, 0, [])), (53, .iadd, 1, (0, 0, 0, 0, 0, [])), (54, .iconst 3, 1, (0, 0, 0, 3, 0, [])), (55, .iadd, 1, (0, 0, 0, 0, 0, [])), (56, .iload_n 2, 1, (2, 0, 0, 0, 0, []))]),
  (60, [(57, .iastore, 1, (0, 0, 0, 0, 0, [])), (58, .iload_n 3, 1, (3, 0, 0, 0, 0, [])), (59, .ireturn, 1, (0, 0, 0, 0, 0, []))])]
def zt_X9_addOn : List (Nat × List zv_E) := [
  (6, [(0, .aload_n 0, 1, (0, 0, 0, 0, 0, [])), (1, .iconst 3, 1, (0, 0, 0, 3, 0, [])), (2, .dup2, 1, (0, 0, 0, 0, 0, [])), (3, .iaload, 1, (0, 0, 0, 0, 0, [])), (4, .iconst 1, 1, (0, 0, 0, 1, 0, [])), (5, .iload_n 1, 1, (1, 0, 0, 0, 0, []))]),
  (12, [(6, .ishl, 1, (0, 0, 0, 0, 0, [])), (7, .ixor, 1, (0, 0, 0, 0, 0, [])), (8, .iastore, 1, (0, 0, 0, 0, 0, [])), (9, .iconst 0, 1, (0, 0, 0, 0, 0, [])), (10, .istore_n 2, 1, (2, 0, 0, 0, 0, [])), (11, .iload_n 2, 1, (2, 0, 0, 0, 0, []))]),
  (20, [(12, .iconst 3, 1, (0, 0, 0, 3, 0, [])), (13, .if_icmp .ge 30, 3, (43, 0, 0, 0, 0, [])), (16, .aload_n 0, 1, (0, 0, 0, 0, 0, [])), (17, .iconst 3, 1, (0, 0, 0, 3, 0, [])), (18, .iaload, 1, (0, 0, 0, 0, 0, [])), (19, .iload_n 1, 1, (1, 0, 0, 0, 0, []))]),
  (30, [(20, .invokestatic 162, 3, (130, 2, 1, 0, 0, [])), (23, .ifCond .ne 20, 3, (43, 0, 0, 0, 0, [])), (26, .aload_n 0, 1, (0, 0, 0, 0, 0, [])), (27, .iload_n 1, 1, (1, 0, 0, 0, 0, [])), (28, .iconst 1, 1, (0, 0, 0, 1, 0, [])), (29, .invokestatic 155, 3, (156, 2, 1, 0, 0, []))]),
  (41, [(32, .iload_n 2, 1, (2, 0, 0, 0, 0, [])), (33, .iadd, 1, (0, 0, 0, 0, 0, [])), (34, .bipush (-9), 2, (0, 0, 0, (-9), 0, [])), (36, .iastore, 1, (0, 0, 0, 0, 0, [])), (37, .iinc 2 1, 3, (2, 0, 0, 1, 0, [])), (40, .goto (-29), 3, (11, 0, 0, 0, 0, []))]),
  (44, [(43, .return_, 1, (0, 0, 0, 0, 0, []))])]
def zt_X9_add : List (Nat × List zv_E) := [
  (8, [(0, .aload_n 0, 1, (0, 0, 0, 0, 0, [])), (1, .iconst 0, 1, (0, 0, 0, 0, 0, [])), (2, .putfield 72, 3, (9, 0, 0, 0, 0, [])), (5, .aload_n 0, 1, (0, 0, 0, 0, 0, [])), (6, .iload_n 1, 1, (1, 0, 0, 0, 0, [])), (7, .invokevirtual 140, 3, (135, 2, 1, 0, 0, []))]),
  (20, [(10, .ifCond .eq 5, 3, (15, 0, 0, 0, 0, [])), (13, .iconst (-1), 1, (0, 0, 0, (-1), 0, [])), (14, .ireturn, 1, (0, 0, 0, 0, 0, [])), (15, .aload_n 0, 1, (0, 0, 0, 0, 0, [])), (16, .invokevirtual 206, 3, (170, 1, 0, 0, 0, [])), (19, .aload_n 0, 1, (0, 0, 0, 0, 0, []))]),
  (32, [(20, .getfield 16, 3, (9, 6, 2, 0, 0, [])), (23, .iload_n 1, 1, (1, 0, 0, 0, 0, [])), (24, .invokestatic 220, 3, (176, 2, 0, 0, 0, [])), (27, .aload_n 0, 1, (0, 0, 0, 0, 0, [])), (28, .getfield 16, 3, (9, 6, 2, 0, 0, [])), (31, .iconst 3, 1, (0, 0, 0, 3, 0, []))]),
  (38, [(32, .iaload, 1, (0, 0, 0, 0, 0, [])), (33, .iload_n 1, 1, (1, 0, 0, 0, 0, [])), (34, .ishr, 1, (0, 0, 0, 0, 0, [])), (35, .iconst 1, 1, (0, 0, 0, 1, 0, [])), (36, .iand, 1, (0, 0, 0, 0, 0, [])), (37, .ireturn, 1, (0, 0, 0, 0, 0, []))])]
def zt_X9_setMode : List (Nat × List zv_E) := [
  (8, [(0, .aload_n 0, 1, (0, 0, 0, 0, 0, [])), (1, .iconst 0, 1, (0, 0, 0, 0, 0, [])), (2, .putfield 72, 3, (9, 0, 0, 0, 0, [])), (5, .iload_n 1, 1, (1, 0, 0, 0, 0, [])), (6, .i2l, 1, (0, 0, 0, 0, 0, [])), (7, .lconst 0, 1, (0, 0, 0, 0, 0, []))]),
  (21, [(8, .ldc2_w 223, 3, (0, 0, 0, 0, 2, [])), (11, .invokestatic 76, 3, (129, 3, 1, 0, 0, [])), (14, .ifCond .ne 6, 3, (20, 0, 0, 0, 0, [])), (17, .bipush (-2), 2, (0, 0, 0, (-2), 0, [])), (19, .ireturn, 1, (0, 0, 0, 0, 0, [])), (20, .aload_n 0, 1, (0, 0, 0, 0, 0, []))]),
  (31, [(21, .invokevirtual 206, 3, (170, 1, 0, 0, 0, [])), (24, .aload_n 0, 1, (0, 0, 0, 0, 0, [])), (25, .getfield 16, 3, (9, 6, 2, 0, 0, [])), (28, .iconst 4, 1, (0, 0, 0, 4, 0, [])), (29, .iaload, 1, (0, 0, 0, 0, 0, [])), (30, .istore_n 2, 1, (2, 0, 0, 0, 0, []))]),
  (39, [(31, .aload_n 0, 1, (0, 0, 0, 0, 0, [])), (32, .getfield 16, 3, (9, 6, 2, 0, 0, [])), (35, .iconst 4, 1, (0, 0, 0, 4, 0, [])), (36, .iload_n 1, 1, (1, 0, 0, 0, 0, [])), (37, .iastore, 1, (0, 0, 0, 0, 0, [])), (38, .iload_n 2, 1, (2, 0, 0, 0, 0, []))]),
  (40, [(39, .ireturn, 1, (0, 0, 0, 0, 0, []))])]
def zt_X9_undo : List (Nat × List zv_E) := [
  (13, [(0, .aload_n 0, 1, (0, 0, 0, 0, 0, [])), (1, .iconst 0, 1, (0, 0, 0, 0, 0, [])), (2, .putfield 72, 3, (9, 0, 0, 0, 0, [])), (5, .aload_n 0, 1, (0, 0, 0, 0, 0, [])), (6, .getfield 137, 3, (9, 10, 0, 0, 0, [])), (9, .ifCond .ne 6, 3, (15, 0, 0, 0, 0, [])), (12, .bipush (-3), 2, (0, 0, 0, (-3), 0, []))]),
  (23, [(14, .ireturn, 1, (0, 0, 0, 0, 0, [])), (15, .aload_n 0, 1, (0, 0, 0, 0, 0, [])), (16, .dup, 1, (0, 0, 0, 0, 0, [])), (17, .getfield 137, 3, (9, 10, 0, 0, 0, [])), (20, .iconst 1, 1, (0, 0, 0, 1, 0, [])), (21, .isub, 1, (0, 0, 0, 0, 0, [])), (22, .putfield 137, 3, (9, 10, 0, 0, 0, []))]),
  (35, [(25, .iconst 0, 1, (0, 0, 0, 0, 0, [])), (26, .istore_n 1, 1, (1, 0, 0, 0, 0, [])), (27, .iload_n 1, 1, (1, 0, 0, 0, 0, [])), (28, .bipush 101, 2, (0, 0, 0, 101, 0, [])), (30, .if_icmp .ge 29, 3, (59, 0, 0, 0, 0, [])), (33, .aload_n 0, 1, (0, 0, 0, 0, 0, [])), (34, .getfield 16, 3, (9, 6, 2, 0, 0, []))]),
  (49, [(37, .iload_n 1, 1, (1, 0, 0, 0, 0, [])), (38, .aload_n 0, 1, (0, 0, 0, 0, 0, [])), (39, .getfield 25, 3, (9, 9, 2, 0, 0, [])), (42, .bipush 101, 2, (0, 0, 0, 101, 0, [])), (44, .aload_n 0, 1, (0, 0, 0, 0, 0, [])), (45, .getfield 137, 3, (9, 10, 0, 0, 0, [])), (48, .imul, 1, (0, 0, 0, 0, 0, []))]),
  (60, [(49, .iload_n 1, 1, (1, 0, 0, 0, 0, [])), (50, .iadd, 1, (0, 0, 0, 0, 0, [])), (51, .iaload, 1, (0, 0, 0, 0, 0, [])), (52, .iastore, 1, (0, 0, 0, 0, 0, [])), (53, .iinc 1 1, 3, (1, 0, 0, 1, 0, [])), (56, .goto (-29), 3, (27, 0, 0, 0, 0, [])), (59, .aload_n 0, 1, (0, 0, 0, 0, 0, []))]),
  (64, [(60, .getfield 137, 3, (9, 10, 0, 0, 0, [])), (63, .ireturn, 1, (0, 0, 0, 0, 0, []))])]
def zt_X9_choice : List (Nat × List zv_E) := [
  (8, [(0, .aload_n 0, 1, (0, 0, 0, 0, 0, [])), (1, .iconst 0, 1, (0, 0, 0, 0, 0, [])), (2, .putfield 72, 3, (9, 0, 0, 0, 0, [])), (5, .aload_n 0, 1, (0, 0, 0, 0, 0, [])), (6, .iload_n 1, 1, (1, 0, 0, 0, 0, [])), (7, .invokevirtual 140, 3, (135, 2, 1, 0, 0, []))]),
  (18, [(10, .ifCond .eq 5, 3, (15, 0, 0, 0, 0, [])), (13, .iconst (-1), 1, (0, 0, 0, (-1), 0, [])), (14, .ireturn, 1, (0, 0, 0, 0, 0, [])), (15, .iload_n 2, 1, (2, 0, 0, 0, 0, [])), (16, .i2l, 1, (0, 0, 0, 0, 0, [])), (17, .lconst 0, 1, (0, 0, 0, 0, 0, []))]),
  (28, [(18, .lconst 1, 1, (0, 0, 0, 0, 1, [])), (19, .invokestatic 76, 3, (129, 3, 1, 0, 0, [])), (22, .ifCond .eq 30, 3, (52, 0, 0, 0, 0, [])), (25, .iload_n 3, 1, (3, 0, 0, 0, 0, [])), (26, .i2l, 1, (0, 0, 0, 0, 0, [])), (27, .lconst 0, 1, (0, 0, 0, 0, 0, []))]),
  (42, [(28, .ldc2_w 223, 3, (0, 0, 0, 0, 2, [])), (31, .invokestatic 76, 3, (129, 3, 1, 0, 0, [])), (34, .ifCond .eq 18, 3, (52, 0, 0, 0, 0, [])), (37, .aload_n 0, 1, (0, 0, 0, 0, 0, [])), (38, .getfield 16, 3, (9, 6, 2, 0, 0, [])), (41, .iload_n 1, 1, (1, 0, 0, 0, 0, []))]),
  (50, [(42, .iload_n 2, 1, (2, 0, 0, 0, 0, [])), (43, .invokestatic 155, 3, (156, 2, 1, 0, 0, [])), (46, .iload_n 3, 1, (3, 0, 0, 0, 0, [])), (47, .iadd, 1, (0, 0, 0, 0, 0, [])), (48, .iaload, 1, (0, 0, 0, 0, 0, [])), (49, .goto 5, 3, (54, 0, 0, 0, 0, []))]),
  (55, [(52, .bipush (-2), 2, (0, 0, 0, (-2), 0, [])), (54, .ireturn, 1, (0, 0, 0, 0, 0, []))])]
def zt_X9_heard : List (Nat × List zv_E) := [
  (8, [(0, .aload_n 0, 1, (0, 0, 0, 0, 0, [])), (1, .iconst 0, 1, (0, 0, 0, 0, 0, [])), (2, .putfield 72, 3, (9, 0, 0, 0, 0, [])), (5, .aload_n 0, 1, (0, 0, 0, 0, 0, [])), (6, .iload_n 1, 1, (1, 0, 0, 0, 0, [])), (7, .invokevirtual 140, 3, (135, 2, 1, 0, 0, []))]),
  (18, [(10, .ifCond .eq 5, 3, (15, 0, 0, 0, 0, [])), (13, .iconst (-1), 1, (0, 0, 0, (-1), 0, [])), (14, .ireturn, 1, (0, 0, 0, 0, 0, [])), (15, .aload_n 0, 1, (0, 0, 0, 0, 0, [])), (16, .aload_n 0, 1, (0, 0, 0, 0, 0, [])), (17, .getfield 16, 3, (9, 6, 2, 0, 0, []))]),
  (30, [(20, .invokevirtual 143, 3, (151, 2, 0, 0, 0, [])), (23, .aload_n 0, 1, (0, 0, 0, 0, 0, [])), (24, .aload_n 0, 1, (0, 0, 0, 0, 0, [])), (25, .getfield 16, 3, (9, 6, 2, 0, 0, [])), (28, .iload_n 1, 1, (1, 0, 0, 0, 0, [])), (29, .invokevirtual 185, 3, (159, 3, 0, 0, 0, []))]),
  (37, [(32, .aload_n 0, 1, (0, 0, 0, 0, 0, [])), (33, .invokevirtual 189, 3, (164, 1, 1, 0, 0, [])), (36, .ireturn, 1, (0, 0, 0, 0, 0, []))])]
def zt_X9_tells : List (Nat × List zv_E) := [
  (8, [(0, .aload_n 0, 1, (0, 0, 0, 0, 0, [])), (1, .iconst 0, 1, (0, 0, 0, 0, 0, [])), (2, .putfield 72, 3, (9, 0, 0, 0, 0, [])), (5, .aload_n 0, 1, (0, 0, 0, 0, 0, [])), (6, .iload_n 1, 1, (1, 0, 0, 0, 0, [])), (7, .invokevirtual 140, 3, (135, 2, 1, 0, 0, []))]),
  (22, [(10, .ifCond .ne 11, 3, (21, 0, 0, 0, 0, [])), (13, .aload_n 0, 1, (0, 0, 0, 0, 0, [])), (14, .iload_n 2, 1, (2, 0, 0, 0, 0, [])), (15, .invokevirtual 140, 3, (135, 2, 1, 0, 0, [])), (18, .ifCond .eq 5, 3, (23, 0, 0, 0, 0, [])), (21, .iconst (-1), 1, (0, 0, 0, (-1), 0, []))]),
  (30, [(22, .ireturn, 1, (0, 0, 0, 0, 0, [])), (23, .aload_n 0, 1, (0, 0, 0, 0, 0, [])), (24, .getfield 16, 3, (9, 6, 2, 0, 0, [])), (27, .iload_n 1, 1, (1, 0, 0, 0, 0, [])), (28, .iload_n 2, 1, (2, 0, 0, 0, 0, [])), (29, .iconst 0, 1, (0, 0, 0, 0, 0, []))]),
  (42, [(30, .invokestatic 170, 3, (157, 4, 1, 0, 0, [])), (33, .ifCond .eq 7, 3, (40, 0, 0, 0, 0, [])), (36, .iconst 1, 1, (0, 0, 0, 1, 0, [])), (37, .goto 4, 3, (41, 0, 0, 0, 0, [])), (40, .iconst 0, 1, (0, 0, 0, 0, 0, [])), (41, .ireturn, 1, (0, 0, 0, 0, 0, []))])]
def zt_X9_mesh : List (Nat × List zv_E) := [
  (15, [(0, .aload_n 0, 1, (0, 0, 0, 0, 0, [])), (1, .iconst 0, 1, (0, 0, 0, 0, 0, [])), (2, .putfield 72, 3, (9, 0, 0, 0, 0, [])), (5, .aload_n 0, 1, (0, 0, 0, 0, 0, [])), (6, .iload_n 1, 1, (1, 0, 0, 0, 0, [])), (7, .invokevirtual 140, 3, (135, 2, 1, 0, 0, [])), (10, .ifCond .eq 5, 3, (15, 0, 0, 0, 0, [])), (13, .iconst (-1), 1, (0, 0, 0, (-1), 0, [])), (14, .ireturn, 1, (0, 0, 0, 0, 0, []))]),
  (28, [(15, .aload_n 0, 1, (0, 0, 0, 0, 0, [])), (16, .aload_n 0, 1, (0, 0, 0, 0, 0, [])), (17, .getfield 16, 3, (9, 6, 2, 0, 0, [])), (20, .invokevirtual 143, 3, (151, 2, 0, 0, 0, [])), (23, .iconst 0, 1, (0, 0, 0, 0, 0, [])), (24, .istore_n 2, 1, (2, 0, 0, 0, 0, [])), (25, .iload_n 2, 1, (2, 0, 0, 0, 0, [])), (26, .iconst 4, 1, (0, 0, 0, 4, 0, [])), (27, .if_icmp .ge 85, 3, (112, 0, 0, 0, 0, []))]),
  (45, [(30, .iload_n 2, 1, (2, 0, 0, 0, 0, [])), (31, .aload_n 0, 1, (0, 0, 0, 0, 0, [])), (32, .getfield 16, 3, (9, 6, 2, 0, 0, [])), (35, .iconst 1, 1, (0, 0, 0, 1, 0, [])), (36, .iaload, 1, (0, 0, 0, 0, 0, [])), (37, .if_icmp .ge 43, 3, (80, 0, 0, 0, 0, [])), (40, .aload_n 0, 1, (0, 0, 0, 0, 0, [])), (41, .getfield 16, 3, (9, 6, 2, 0, 0, [])), (44, .iconst 2, 1, (0, 0, 0, 2, 0, []))]),
  (60, [(45, .iaload, 1, (0, 0, 0, 0, 0, [])), (46, .iload_n 2, 1, (2, 0, 0, 0, 0, [])), (47, .invokestatic 162, 3, (130, 2, 1, 0, 0, [])), (50, .ifCond .eq 30, 3, (80, 0, 0, 0, 0, [])), (53, .aload_n 0, 1, (0, 0, 0, 0, 0, [])), (54, .getfield 44, 3, (9, 18, 2, 0, 0, [])), (57, .iconst 5, 1, (0, 0, 0, 5, 0, [])), (58, .iload_n 1, 1, (1, 0, 0, 0, 0, [])), (59, .imul, 1, (0, 0, 0, 0, 0, []))]),
  (74, [(60, .aload_n 0, 1, (0, 0, 0, 0, 0, [])), (61, .getfield 16, 3, (9, 6, 2, 0, 0, [])), (64, .iload_n 2, 1, (2, 0, 0, 0, 0, [])), (65, .iconst 0, 1, (0, 0, 0, 0, 0, [])), (66, .invokestatic 151, 3, (154, 3, 1, 0, 0, [])), (69, .iadd, 1, (0, 0, 0, 0, 0, [])), (70, .iaload, 1, (0, 0, 0, 0, 0, [])), (71, .bipush (-9), 2, (0, 0, 0, (-9), 0, [])), (73, .if_icmp .eq 7, 3, (80, 0, 0, 0, 0, []))]),
  (89, [(76, .iconst 1, 1, (0, 0, 0, 1, 0, [])), (77, .goto 4, 3, (81, 0, 0, 0, 0, [])), (80, .iconst 0, 1, (0, 0, 0, 0, 0, [])), (81, .istore_n 3, 1, (3, 0, 0, 0, 0, [])), (82, .aload_n 0, 1, (0, 0, 0, 0, 0, [])), (83, .getfield 47, 3, (9, 19, 2, 0, 0, [])), (86, .iload_n 2, 1, (2, 0, 0, 0, 0, [])), (87, .iload_n 3, 1, (3, 0, 0, 0, 0, [])), (88, .ifCond .eq 15, 3, (103, 0, 0, 0, 0, []))]),
  (107, [(91, .aload_n 0, 1, (0, 0, 0, 0, 0, [])), (92, .getfield 16, 3, (9, 6, 2, 0, 0, [])), (95, .iload_n 2, 1, (2, 0, 0, 0, 0, [])), (96, .iconst 0, 1, (0, 0, 0, 0, 0, [])), (97, .invokestatic 151, 3, (154, 3, 1, 0, 0, [])), (100, .goto 5, 3, (105, 0, 0, 0, 0, [])), (103, .bipush (-9), 2, (0, 0, 0, (-9), 0, [])), (105, .iastore, 1, (0, 0, 0, 0, 0, [])), (106, .iinc 2 1, 3, (2, 0, 0, 1, 0, []))]),
  (126, [(109, .goto (-84), 3, (25, 0, 0, 0, 0, [])), (112, .aload_n 0, 1, (0, 0, 0, 0, 0, [])), (113, .aload_n 0, 1, (0, 0, 0, 0, 0, [])), (114, .getfield 16, 3, (9, 6, 2, 0, 0, [])), (117, .iload_n 1, 1, (1, 0, 0, 0, 0, [])), (118, .aload_n 0, 1, (0, 0, 0, 0, 0, [])), (119, .invokevirtual 189, 3, (164, 1, 1, 0, 0, [])), (122, .invokevirtual 192, 3, (163, 4, 1, 0, 0, [])), (125, .ireturn, 1, (0, 0, 0, 0, 0, []))])]
def zt_X9_leaveFrom : List (Nat × List zv_E) := [
  (15, [(0, .iload_n 2, 1, (2, 0, 0, 0, 0, [])), (1, .istore_n 3, 1, (3, 0, 0, 0, 0, [])), (2, .iconst 0, 1, (0, 0, 0, 0, 0, [])), (3, .istore 4, 2, (4, 0, 0, 0, 0, [])), (5, .iload 4, 2, (4, 0, 0, 0, 0, [])), (7, .bipush 6, 2, (0, 0, 0, 6, 0, [])), (9, .if_icmp .ge 155, 3, (164, 0, 0, 0, 0, [])), (12, .aload_n 1, 1, (1, 0, 0, 0, 0, [])), (13, .iload_n 3, 1, (3, 0, 0, 0, 0, [])), (14, .iconst 0, 1, (0, 0, 0, 0, 0, []))]),
  (33, [(15, .invokestatic 155, 3, (156, 2, 1, 0, 0, [])), (18, .iaload, 1, (0, 0, 0, 0, 0, [])), (19, .istore 5, 2, (5, 0, 0, 0, 0, [])), (21, .iload 5, 2, (5, 0, 0, 0, 0, [])), (23, .bipush (-9), 2, (0, 0, 0, (-9), 0, [])), (25, .if_icmp .ne 6, 3, (31, 0, 0, 0, 0, [])), (28, .bipush (-9), 2, (0, 0, 0, (-9), 0, [])), (30, .ireturn, 1, (0, 0, 0, 0, 0, [])), (31, .aload_n 1, 1, (1, 0, 0, 0, 0, [])), (32, .iload 5, 2, (5, 0, 0, 0, 0, []))]),
  (53, [(34, .iconst 0, 1, (0, 0, 0, 0, 0, [])), (35, .invokestatic 151, 3, (154, 3, 1, 0, 0, [])), (38, .istore 6, 2, (6, 0, 0, 0, 0, [])), (40, .iload 6, 2, (6, 0, 0, 0, 0, [])), (42, .iload_n 3, 1, (3, 0, 0, 0, 0, [])), (43, .if_icmp .ne 12, 3, (55, 0, 0, 0, 0, [])), (46, .aload_n 0, 1, (0, 0, 0, 0, 0, [])), (47, .iload 4, 2, (4, 0, 0, 0, 0, [])), (49, .putfield 225, 3, (9, 31, 0, 0, 0, [])), (52, .iload 5, 2, (5, 0, 0, 0, 0, []))]),
  (70, [(54, .ireturn, 1, (0, 0, 0, 0, 0, [])), (55, .bipush (-9), 2, (0, 0, 0, (-9), 0, [])), (57, .istore 7, 2, (7, 0, 0, 0, 0, [])), (59, .bipush (-9), 2, (0, 0, 0, (-9), 0, [])), (61, .istore 8, 2, (8, 0, 0, 0, 0, [])), (63, .iconst 0, 1, (0, 0, 0, 0, 0, [])), (64, .istore 9, 2, (9, 0, 0, 0, 0, [])), (66, .iload 9, 2, (9, 0, 0, 0, 0, [])), (68, .aload_n 1, 1, (1, 0, 0, 0, 0, [])), (69, .iconst 0, 1, (0, 0, 0, 0, 0, []))]),
  (86, [(70, .iaload, 1, (0, 0, 0, 0, 0, [])), (71, .if_icmp .ge 74, 3, (145, 0, 0, 0, 0, [])), (74, .aload_n 1, 1, (1, 0, 0, 0, 0, [])), (75, .iconst 5, 1, (0, 0, 0, 5, 0, [])), (76, .iload_n 3, 1, (3, 0, 0, 0, 0, [])), (77, .iload 9, 2, (9, 0, 0, 0, 0, [])), (79, .invokestatic 88, 3, (137, 3, 1, 0, 0, [])), (82, .iaload, 1, (0, 0, 0, 0, 0, [])), (83, .istore 10, 2, (10, 0, 0, 0, 0, [])), (85, .aload_n 0, 1, (0, 0, 0, 0, 0, []))]),
  (102, [(86, .getfield 44, 3, (9, 18, 2, 0, 0, [])), (89, .iconst 5, 1, (0, 0, 0, 5, 0, [])), (90, .iload 9, 2, (9, 0, 0, 0, 0, [])), (92, .imul, 1, (0, 0, 0, 0, 0, [])), (93, .iload 6, 2, (6, 0, 0, 0, 0, [])), (95, .iadd, 1, (0, 0, 0, 0, 0, [])), (96, .iaload, 1, (0, 0, 0, 0, 0, [])), (97, .istore 11, 2, (11, 0, 0, 0, 0, [])), (99, .iload 10, 2, (10, 0, 0, 0, 0, [])), (101, .ifCond .le 38, 3, (139, 0, 0, 0, 0, []))]),
  (124, [(104, .iload 11, 2, (11, 0, 0, 0, 0, [])), (106, .bipush (-9), 2, (0, 0, 0, (-9), 0, [])), (108, .if_icmp .eq 31, 3, (139, 0, 0, 0, 0, [])), (111, .iload 7, 2, (7, 0, 0, 0, 0, [])), (113, .bipush (-9), 2, (0, 0, 0, (-9), 0, [])), (115, .if_icmp .eq 13, 3, (128, 0, 0, 0, 0, [])), (118, .iload 10, 2, (10, 0, 0, 0, 0, [])), (120, .iload 11, 2, (11, 0, 0, 0, 0, [])), (122, .iadd, 1, (0, 0, 0, 0, 0, [])), (123, .iload 7, 2, (7, 0, 0, 0, 0, []))]),
  (146, [(125, .if_icmp .ge 14, 3, (139, 0, 0, 0, 0, [])), (128, .iload 10, 2, (10, 0, 0, 0, 0, [])), (130, .iload 11, 2, (11, 0, 0, 0, 0, [])), (132, .iadd, 1, (0, 0, 0, 0, 0, [])), (133, .istore 7, 2, (7, 0, 0, 0, 0, [])), (135, .iload 9, 2, (9, 0, 0, 0, 0, [])), (137, .istore 8, 2, (8, 0, 0, 0, 0, [])), (139, .iinc 9 1, 3, (9, 0, 0, 1, 0, [])), (142, .goto (-76), 3, (66, 0, 0, 0, 0, [])), (145, .iload 8, 2, (8, 0, 0, 0, 0, []))]),
  (167, [(147, .bipush (-9), 2, (0, 0, 0, (-9), 0, [])), (149, .if_icmp .ne 6, 3, (155, 0, 0, 0, 0, [])), (152, .bipush (-9), 2, (0, 0, 0, (-9), 0, [])), (154, .ireturn, 1, (0, 0, 0, 0, 0, [])), (155, .iload 8, 2, (8, 0, 0, 0, 0, [])), (157, .istore_n 3, 1, (3, 0, 0, 0, 0, [])), (158, .iinc 4 1, 3, (4, 0, 0, 1, 0, [])), (161, .goto (-156), 3, (5, 0, 0, 0, 0, [])), (164, .bipush (-9), 2, (0, 0, 0, (-9), 0, [])), (166, .ireturn, 1, (0, 0, 0, 0, 0, []))])]
def zt_X9_leaves : List (Nat × List zv_E) := [
  (11, [(0, .aload_n 0, 1, (0, 0, 0, 0, 0, [])), (1, .iconst 0, 1, (0, 0, 0, 0, 0, [])), (2, .putfield 72, 3, (9, 0, 0, 0, 0, [])), (5, .aload_n 0, 1, (0, 0, 0, 0, 0, [])), (6, .iload_n 1, 1, (1, 0, 0, 0, 0, [])), (7, .invokevirtual 140, 3, (135, 2, 1, 0, 0, [])), (10, .ifCond .eq 5, 3, (15, 0, 0, 0, 0, []))]),
  (20, [(13, .iconst (-1), 1, (0, 0, 0, (-1), 0, [])), (14, .ireturn, 1, (0, 0, 0, 0, 0, [])), (15, .iload_n 2, 1, (2, 0, 0, 0, 0, [])), (16, .i2l, 1, (0, 0, 0, 0, 0, [])), (17, .lconst 0, 1, (0, 0, 0, 0, 0, [])), (18, .lconst 1, 1, (0, 0, 0, 0, 1, [])), (19, .invokestatic 76, 3, (129, 3, 1, 0, 0, []))]),
  (34, [(22, .ifCond .ne 6, 3, (28, 0, 0, 0, 0, [])), (25, .bipush (-2), 2, (0, 0, 0, (-2), 0, [])), (27, .ireturn, 1, (0, 0, 0, 0, 0, [])), (28, .aload_n 0, 1, (0, 0, 0, 0, 0, [])), (29, .aload_n 0, 1, (0, 0, 0, 0, 0, [])), (30, .getfield 16, 3, (9, 6, 2, 0, 0, [])), (33, .invokevirtual 143, 3, (151, 2, 0, 0, 0, []))]),
  (47, [(36, .aload_n 0, 1, (0, 0, 0, 0, 0, [])), (37, .aload_n 0, 1, (0, 0, 0, 0, 0, [])), (38, .getfield 16, 3, (9, 6, 2, 0, 0, [])), (41, .iload_n 1, 1, (1, 0, 0, 0, 0, [])), (42, .invokevirtual 228, 3, (184, 3, 1, 0, 0, [])), (45, .istore_n 3, 1, (3, 0, 0, 0, 0, [])), (46, .iload_n 2, 1, (2, 0, 0, 0, 0, []))]),
  (61, [(47, .ifCond .eq 9, 3, (56, 0, 0, 0, 0, [])), (50, .iload_n 3, 1, (3, 0, 0, 0, 0, [])), (51, .bipush (-9), 2, (0, 0, 0, (-9), 0, [])), (53, .if_icmp .ne 7, 3, (60, 0, 0, 0, 0, [])), (56, .iload_n 3, 1, (3, 0, 0, 0, 0, [])), (57, .goto 7, 3, (64, 0, 0, 0, 0, [])), (60, .aload_n 0, 1, (0, 0, 0, 0, 0, []))]),
  (65, [(61, .getfield 225, 3, (9, 31, 0, 0, 0, [])), (64, .ireturn, 1, (0, 0, 0, 0, 0, []))])]
def zt_X9_noteState : List (Nat × List zv_E) := [
  (9, [(0, .iconst 0, 1, (0, 0, 0, 0, 0, [])), (1, .istore_n 3, 1, (3, 0, 0, 0, 0, [])), (2, .iload_n 3, 1, (3, 0, 0, 0, 0, [])), (3, .bipush 30, 2, (0, 0, 0, 30, 0, [])), (5, .if_icmp .ge 26, 3, (31, 0, 0, 0, 0, [])), (8, .aload_n 0, 1, (0, 0, 0, 0, 0, []))]),
  (18, [(9, .getfield 59, 3, (9, 23, 2, 0, 0, [])), (12, .bipush 30, 2, (0, 0, 0, 30, 0, [])), (14, .iload_n 2, 1, (2, 0, 0, 0, 0, [])), (15, .imul, 1, (0, 0, 0, 0, 0, [])), (16, .iload_n 3, 1, (3, 0, 0, 0, 0, [])), (17, .iadd, 1, (0, 0, 0, 0, 0, []))]),
  (25, [(18, .aload_n 1, 1, (1, 0, 0, 0, 0, [])), (19, .bipush 71, 2, (0, 0, 0, 71, 0, [])), (21, .iload_n 3, 1, (3, 0, 0, 0, 0, [])), (22, .iadd, 1, (0, 0, 0, 0, 0, [])), (23, .iaload, 1, (0, 0, 0, 0, 0, [])), (24, .iastore, 1, (0, 0, 0, 0, 0, []))]),
  (32, [(25, .iinc 3 1, 3, (3, 0, 0, 1, 0, [])), (28, .goto (-26), 3, (2, 0, 0, 0, 0, [])), (31, .return_, 1, (0, 0, 0, 0, 0, []))])]
def zt_X9_areSame : List (Nat × List zv_E) := [
  (8, [(0, .iconst 1, 1, (0, 0, 0, 1, 0, [])), (1, .istore_n 3, 1, (3, 0, 0, 0, 0, [])), (2, .iconst 0, 1, (0, 0, 0, 0, 0, [])), (3, .istore 4, 2, (4, 0, 0, 0, 0, [])), (5, .iload 4, 2, (4, 0, 0, 0, 0, [])), (7, .bipush 30, 2, (0, 0, 0, 30, 0, []))]),
  (21, [(9, .if_icmp .ge 46, 3, (55, 0, 0, 0, 0, [])), (12, .iload_n 3, 1, (3, 0, 0, 0, 0, [])), (13, .ifCond .eq 34, 3, (47, 0, 0, 0, 0, [])), (16, .aload_n 0, 1, (0, 0, 0, 0, 0, [])), (17, .getfield 59, 3, (9, 23, 2, 0, 0, [])), (20, .bipush 30, 2, (0, 0, 0, 30, 0, []))]),
  (29, [(22, .iload_n 1, 1, (1, 0, 0, 0, 0, [])), (23, .imul, 1, (0, 0, 0, 0, 0, [])), (24, .iload 4, 2, (4, 0, 0, 0, 0, [])), (26, .iadd, 1, (0, 0, 0, 0, 0, [])), (27, .iaload, 1, (0, 0, 0, 0, 0, [])), (28, .aload_n 0, 1, (0, 0, 0, 0, 0, []))]),
  (39, [(29, .getfield 59, 3, (9, 23, 2, 0, 0, [])), (32, .bipush 30, 2, (0, 0, 0, 30, 0, [])), (34, .iload_n 2, 1, (2, 0, 0, 0, 0, [])), (35, .imul, 1, (0, 0, 0, 0, 0, [])), (36, .iload 4, 2, (4, 0, 0, 0, 0, [])), (38, .iadd, 1, (0, 0, 0, 0, 0, []))]),
  (49, [(39, .iaload, 1, (0, 0, 0, 0, 0, [])), (40, .if_icmp .ne 7, 3, (47, 0, 0, 0, 0, [])), (43, .iconst 1, 1, (0, 0, 0, 1, 0, [])), (44, .goto 4, 3, (48, 0, 0, 0, 0, [])), (47, .iconst 0, 1, (0, 0, 0, 0, 0, [])), (48, .istore_n 3, 1, (3, 0, 0, 0, 0, []))]),
  (57, [(49, .iinc 4 1, 3, (4, 0, 0, 1, 0, [])), (52, .goto (-47), 3, (5, 0, 0, 0, 0, [])), (55, .iload_n 3, 1, (3, 0, 0, 0, 0, [])), (56, .ireturn, 1, (0, 0, 0, 0, 0, []))])]
def zt_X9_runOn : List (Nat × List zv_E) := [
  (14, [(0, .aload_n 0, 1, (0, 0, 0, 0, 0, [])), (1, .aload_n 1, 1, (1, 0, 0, 0, 0, [])), (2, .invokevirtual 143, 3, (151, 2, 0, 0, 0, [])), (5, .aload_n 0, 1, (0, 0, 0, 0, 0, [])), (6, .iconst 2, 1, (0, 0, 0, 2, 0, [])), (7, .putfield 231, 3, (9, 24, 0, 0, 0, [])), (10, .aload_n 0, 1, (0, 0, 0, 0, 0, [])), (11, .bipush (-9), 2, (0, 0, 0, (-9), 0, [])), (13, .putfield 234, 3, (9, 25, 0, 0, 0, []))]),
  (30, [(16, .aload_n 0, 1, (0, 0, 0, 0, 0, [])), (17, .bipush (-9), 2, (0, 0, 0, (-9), 0, [])), (19, .putfield 237, 3, (9, 26, 0, 0, 0, [])), (22, .aload_n 0, 1, (0, 0, 0, 0, 0, [])), (23, .aload_n 1, 1, (1, 0, 0, 0, 0, [])), (24, .iconst 0, 1, (0, 0, 0, 0, 0, [])), (25, .invokevirtual 240, 3, (186, 3, 0, 0, 0, [])), (28, .iconst 1, 1, (0, 0, 0, 1, 0, [])), (29, .istore_n 2, 1, (2, 0, 0, 0, 0, []))]),
  (46, [(30, .iload_n 2, 1, (2, 0, 0, 0, 0, [])), (31, .bipush 60, 2, (0, 0, 0, 60, 0, [])), (33, .if_icmp .gt 99, 3, (132, 0, 0, 0, 0, [])), (36, .aload_n 0, 1, (0, 0, 0, 0, 0, [])), (37, .getfield 231, 3, (9, 24, 0, 0, 0, [])), (40, .iconst 2, 1, (0, 0, 0, 2, 0, [])), (41, .if_icmp .ne 91, 3, (132, 0, 0, 0, 0, [])), (44, .aload_n 0, 1, (0, 0, 0, 0, 0, [])), (45, .aload_n 1, 1, (1, 0, 0, 0, 0, []))]),
  (59, [(46, .invokevirtual 212, 3, (169, 2, 1, 0, 0, [])), (49, .pop, 1, (0, 0, 0, 0, 0, [])), (50, .aload_n 0, 1, (0, 0, 0, 0, 0, [])), (51, .aload_n 1, 1, (1, 0, 0, 0, 0, [])), (52, .iload_n 2, 1, (2, 0, 0, 0, 0, [])), (53, .invokevirtual 240, 3, (186, 3, 0, 0, 0, [])), (56, .iload_n 2, 1, (2, 0, 0, 0, 0, [])), (57, .iconst 1, 1, (0, 0, 0, 1, 0, [])), (58, .isub, 1, (0, 0, 0, 0, 0, []))]),
  (74, [(59, .istore_n 3, 1, (3, 0, 0, 0, 0, [])), (60, .iload_n 3, 1, (3, 0, 0, 0, 0, [])), (61, .ifCond .lt 65, 3, (126, 0, 0, 0, 0, [])), (64, .aload_n 0, 1, (0, 0, 0, 0, 0, [])), (65, .getfield 231, 3, (9, 24, 0, 0, 0, [])), (68, .iconst 2, 1, (0, 0, 0, 2, 0, [])), (69, .if_icmp .ne 51, 3, (120, 0, 0, 0, 0, [])), (72, .aload_n 0, 1, (0, 0, 0, 0, 0, [])), (73, .iload_n 3, 1, (3, 0, 0, 0, 0, []))]),
  (87, [(74, .iload_n 2, 1, (2, 0, 0, 0, 0, [])), (75, .invokevirtual 243, 3, (187, 3, 1, 0, 0, [])), (78, .ifCond .eq 42, 3, (120, 0, 0, 0, 0, [])), (81, .aload_n 0, 1, (0, 0, 0, 0, 0, [])), (82, .iload_n 3, 1, (3, 0, 0, 0, 0, [])), (83, .iload_n 2, 1, (2, 0, 0, 0, 0, [])), (84, .iconst 1, 1, (0, 0, 0, 1, 0, [])), (85, .isub, 1, (0, 0, 0, 0, 0, [])), (86, .if_icmp .ne 7, 3, (93, 0, 0, 0, 0, []))]),
  (104, [(89, .iconst 0, 1, (0, 0, 0, 0, 0, [])), (90, .goto 4, 3, (94, 0, 0, 0, 0, [])), (93, .iconst 1, 1, (0, 0, 0, 1, 0, [])), (94, .putfield 231, 3, (9, 24, 0, 0, 0, [])), (97, .aload_n 0, 1, (0, 0, 0, 0, 0, [])), (98, .iload_n 3, 1, (3, 0, 0, 0, 0, [])), (99, .putfield 234, 3, (9, 25, 0, 0, 0, [])), (102, .aload_n 0, 1, (0, 0, 0, 0, 0, [])), (103, .iload_n 3, 1, (3, 0, 0, 0, 0, []))]),
  (117, [(104, .iload_n 2, 1, (2, 0, 0, 0, 0, [])), (105, .iconst 1, 1, (0, 0, 0, 1, 0, [])), (106, .isub, 1, (0, 0, 0, 0, 0, [])), (107, .if_icmp .ne 7, 3, (114, 0, 0, 0, 0, [])), (110, .iconst 0, 1, (0, 0, 0, 0, 0, [])), (111, .goto 6, 3, (117, 0, 0, 0, 0, [])), (114, .iload_n 2, 1, (2, 0, 0, 0, 0, [])), (115, .iload_n 3, 1, (3, 0, 0, 0, 0, [])), (116, .isub, 1, (0, 0, 0, 0, 0, []))]),
  (133, [(117, .putfield 237, 3, (9, 26, 0, 0, 0, [])), (120, .iinc 3 (-1), 3, (3, 0, 0, (-1), 0, [])), (123, .goto (-63), 3, (60, 0, 0, 0, 0, [])), (126, .iinc 2 1, 3, (2, 0, 0, 1, 0, [])), (129, .goto (-99), 3, (30, 0, 0, 0, 0, [])), (132, .return_, 1, (0, 0, 0, 0, 0, []))])]
def zt_X9_told : List (Nat × List zv_E) := [
  (6, [(0, .iconst 0, 1, (0, 0, 0, 0, 0, [])), (1, .istore_n 1, 1, (1, 0, 0, 0, 0, [])), (2, .iconst 0, 1, (0, 0, 0, 0, 0, [])), (3, .istore_n 2, 1, (2, 0, 0, 0, 0, [])), (4, .iload_n 2, 1, (2, 0, 0, 0, 0, [])), (5, .aload_n 0, 1, (0, 0, 0, 0, 0, []))]),
  (14, [(6, .iconst 0, 1, (0, 0, 0, 0, 0, [])), (7, .iaload, 1, (0, 0, 0, 0, 0, [])), (8, .if_icmp .ge 35, 3, (43, 0, 0, 0, 0, [])), (11, .aload_n 0, 1, (0, 0, 0, 0, 0, [])), (12, .iload_n 2, 1, (2, 0, 0, 0, 0, [])), (13, .iconst 0, 1, (0, 0, 0, 0, 0, []))]),
  (23, [(14, .invokestatic 155, 3, (156, 2, 1, 0, 0, [])), (17, .iaload, 1, (0, 0, 0, 0, 0, [])), (18, .istore_n 3, 1, (3, 0, 0, 0, 0, [])), (19, .bipush 10, 2, (0, 0, 0, 10, 0, [])), (21, .iload_n 1, 1, (1, 0, 0, 0, 0, [])), (22, .imul, 1, (0, 0, 0, 0, 0, []))]),
  (35, [(23, .iload_n 3, 1, (3, 0, 0, 0, 0, [])), (24, .bipush (-9), 2, (0, 0, 0, (-9), 0, [])), (26, .if_icmp .ne 8, 3, (34, 0, 0, 0, 0, [])), (29, .bipush 9, 2, (0, 0, 0, 9, 0, [])), (31, .goto 4, 3, (35, 0, 0, 0, 0, [])), (34, .iload_n 3, 1, (3, 0, 0, 0, 0, []))]),
  (45, [(35, .iadd, 1, (0, 0, 0, 0, 0, [])), (36, .istore_n 1, 1, (1, 0, 0, 0, 0, [])), (37, .iinc 2 1, 3, (2, 0, 0, 1, 0, [])), (40, .goto (-36), 3, (4, 0, 0, 0, 0, [])), (43, .iload_n 1, 1, (1, 0, 0, 0, 0, [])), (44, .ireturn, 1, (0, 0, 0, 0, 0, []))])]
def zt_X9_rests : List (Nat × List zv_E) := [
  (12, [(0, .aload_n 0, 1, (0, 0, 0, 0, 0, [])), (1, .getfield 22, 3, (9, 8, 2, 0, 0, [])), (4, .aload_n 0, 1, (0, 0, 0, 0, 0, [])), (5, .getfield 16, 3, (9, 6, 2, 0, 0, [])), (8, .invokestatic 133, 3, (134, 2, 0, 0, 0, [])), (11, .aload_n 0, 1, (0, 0, 0, 0, 0, []))]),
  (24, [(12, .getfield 22, 3, (9, 8, 2, 0, 0, [])), (15, .invokestatic 68, 3, (133, 1, 0, 0, 0, [])), (18, .aload_n 0, 1, (0, 0, 0, 0, 0, [])), (19, .getfield 22, 3, (9, 8, 2, 0, 0, [])), (22, .iconst 2, 1, (0, 0, 0, 2, 0, [])), (23, .iload_n 1, 1, (1, 0, 0, 0, 0, []))]),
  (32, [(24, .iastore, 1, (0, 0, 0, 0, 0, [])), (25, .aload_n 0, 1, (0, 0, 0, 0, 0, [])), (26, .getfield 22, 3, (9, 8, 2, 0, 0, [])), (29, .iconst 3, 1, (0, 0, 0, 3, 0, [])), (30, .iload_n 2, 1, (2, 0, 0, 0, 0, [])), (31, .iastore, 1, (0, 0, 0, 0, 0, []))]),
  (42, [(32, .aload_n 0, 1, (0, 0, 0, 0, 0, [])), (33, .aload_n 0, 1, (0, 0, 0, 0, 0, [])), (34, .getfield 22, 3, (9, 8, 2, 0, 0, [])), (37, .invokevirtual 246, 3, (188, 2, 0, 0, 0, [])), (40, .aload_n 0, 1, (0, 0, 0, 0, 0, [])), (41, .getfield 231, 3, (9, 24, 0, 0, 0, []))]),
  (53, [(44, .ifCond .ne 7, 3, (51, 0, 0, 0, 0, [])), (47, .iconst 1, 1, (0, 0, 0, 1, 0, [])), (48, .goto 4, 3, (52, 0, 0, 0, 0, [])), (51, .iconst 0, 1, (0, 0, 0, 0, 0, [])), (52, .ireturn, 1, (0, 0, 0, 0, 0, []))])]
def zt_X9_run : List (Nat × List zv_E) := [
  (10, [(0, .aload_n 0, 1, (0, 0, 0, 0, 0, [])), (1, .iconst 0, 1, (0, 0, 0, 0, 0, [])), (2, .putfield 72, 3, (9, 0, 0, 0, 0, [])), (5, .iload_n 1, 1, (1, 0, 0, 0, 0, [])), (6, .i2l, 1, (0, 0, 0, 0, 0, [])), (7, .lconst 0, 1, (0, 0, 0, 0, 0, [])), (8, .lconst 1, 1, (0, 0, 0, 0, 1, [])), (9, .invokestatic 76, 3, (129, 3, 1, 0, 0, []))]),
  (28, [(12, .ifCond .eq 15, 3, (27, 0, 0, 0, 0, [])), (15, .iload_n 2, 1, (2, 0, 0, 0, 0, [])), (16, .i2l, 1, (0, 0, 0, 0, 0, [])), (17, .lconst 0, 1, (0, 0, 0, 0, 0, [])), (18, .ldc2_w 249, 3, (0, 0, 0, 0, 3, [])), (21, .invokestatic 76, 3, (129, 3, 1, 0, 0, [])), (24, .ifCond .ne 6, 3, (30, 0, 0, 0, 0, [])), (27, .bipush (-2), 2, (0, 0, 0, (-2), 0, []))]),
  (43, [(29, .ireturn, 1, (0, 0, 0, 0, 0, [])), (30, .aload_n 0, 1, (0, 0, 0, 0, 0, [])), (31, .getfield 22, 3, (9, 8, 2, 0, 0, [])), (34, .aload_n 0, 1, (0, 0, 0, 0, 0, [])), (35, .getfield 16, 3, (9, 6, 2, 0, 0, [])), (38, .invokestatic 133, 3, (134, 2, 0, 0, 0, [])), (41, .iload_n 1, 1, (1, 0, 0, 0, 0, [])), (42, .iconst 1, 1, (0, 0, 0, 1, 0, []))]),
  (59, [(43, .if_icmp .ne 10, 3, (53, 0, 0, 0, 0, [])), (46, .aload_n 0, 1, (0, 0, 0, 0, 0, [])), (47, .getfield 22, 3, (9, 8, 2, 0, 0, [])), (50, .invokestatic 68, 3, (133, 1, 0, 0, 0, [])), (53, .aload_n 0, 1, (0, 0, 0, 0, 0, [])), (54, .aload_n 0, 1, (0, 0, 0, 0, 0, [])), (55, .getfield 22, 3, (9, 8, 2, 0, 0, [])), (58, .invokevirtual 246, 3, (188, 2, 0, 0, 0, []))]),
  (98, [(61, .iload_n 2, 1, (2, 0, 0, 0, 0, [])), (62, .tableswitch 41 0 2 #[26, 31, 36], 26, (103, 0, 0, 0, 0, [(0, 88), (1, 93), (2, 98)])), (88, .aload_n 0, 1, (0, 0, 0, 0, 0, [])), (89, .getfield 231, 3, (9, 24, 0, 0, 0, [])), (92, .ireturn, 1, (0, 0, 0, 0, 0, [])), (93, .aload_n 0, 1, (0, 0, 0, 0, 0, [])), (94, .getfield 234, 3, (9, 25, 0, 0, 0, [])), (97, .ireturn, 1, (0, 0, 0, 0, 0, []))]),
  (112, [(98, .aload_n 0, 1, (0, 0, 0, 0, 0, [])), (99, .getfield 237, 3, (9, 26, 0, 0, 0, [])), (102, .ireturn, 1, (0, 0, 0, 0, 0, [])), (103, .aload_n 0, 1, (0, 0, 0, 0, 0, [])), (104, .getfield 231, 3, (9, 24, 0, 0, 0, [])), (107, .ifCond .ne 13, 3, (120, 0, 0, 0, 0, [])), (110, .aload_n 0, 1, (0, 0, 0, 0, 0, [])), (111, .getfield 22, 3, (9, 8, 2, 0, 0, []))]),
  (123, [(114, .invokestatic 251, 3, (189, 1, 1, 0, 0, [])), (117, .goto 5, 3, (122, 0, 0, 0, 0, [])), (120, .bipush (-9), 2, (0, 0, 0, (-9), 0, [])), (122, .ireturn, 1, (0, 0, 0, 0, 0, []))])]
def zt_X9_restsBy : List (Nat × List zv_E) := [
  (12, [(0, .aload_n 0, 1, (0, 0, 0, 0, 0, [])), (1, .getfield 16, 3, (9, 6, 2, 0, 0, [])), (4, .iconst 0, 1, (0, 0, 0, 0, 0, [])), (5, .iaload, 1, (0, 0, 0, 0, 0, [])), (6, .istore_n 2, 1, (2, 0, 0, 0, 0, [])), (7, .aload_n 0, 1, (0, 0, 0, 0, 0, [])), (8, .getfield 22, 3, (9, 8, 2, 0, 0, [])), (11, .aload_n 0, 1, (0, 0, 0, 0, 0, []))]),
  (28, [(12, .getfield 16, 3, (9, 6, 2, 0, 0, [])), (15, .invokestatic 133, 3, (134, 2, 0, 0, 0, [])), (18, .aload_n 0, 1, (0, 0, 0, 0, 0, [])), (19, .getfield 22, 3, (9, 8, 2, 0, 0, [])), (22, .invokestatic 68, 3, (133, 1, 0, 0, 0, [])), (25, .iconst 0, 1, (0, 0, 0, 0, 0, [])), (26, .istore_n 3, 1, (3, 0, 0, 0, 0, [])), (27, .iload_n 3, 1, (3, 0, 0, 0, 0, []))]),
  (42, [(28, .bipush 30, 2, (0, 0, 0, 30, 0, [])), (30, .if_icmp .ge 67, 3, (97, 0, 0, 0, 0, [])), (33, .iconst 0, 1, (0, 0, 0, 0, 0, [])), (34, .istore 4, 2, (4, 0, 0, 0, 0, [])), (36, .iconst 0, 1, (0, 0, 0, 0, 0, [])), (37, .istore 5, 2, (5, 0, 0, 0, 0, [])), (39, .iload 5, 2, (5, 0, 0, 0, 0, [])), (41, .iload_n 2, 1, (2, 0, 0, 0, 0, []))]),
  (55, [(42, .if_icmp .ge 42, 3, (84, 0, 0, 0, 0, [])), (45, .aload_n 0, 1, (0, 0, 0, 0, 0, [])), (46, .aload_n 0, 1, (0, 0, 0, 0, 0, [])), (47, .getfield 22, 3, (9, 8, 2, 0, 0, [])), (50, .iload_n 1, 1, (1, 0, 0, 0, 0, [])), (51, .iload_n 2, 1, (2, 0, 0, 0, 0, [])), (52, .iload 5, 2, (5, 0, 0, 0, 0, [])), (54, .invokestatic 254, 3, (132, 2, 1, 0, 0, []))]),
  (72, [(57, .idiv, 1, (0, 0, 0, 0, 0, [])), (58, .iload_n 2, 1, (2, 0, 0, 0, 0, [])), (59, .irem, 1, (0, 0, 0, 0, 0, [])), (60, .invokevirtual 209, 3, (168, 3, 1, 0, 0, [])), (63, .ifCond .ne 8, 3, (71, 0, 0, 0, 0, [])), (66, .iload 4, 2, (4, 0, 0, 0, 0, [])), (68, .ifCond .eq 7, 3, (75, 0, 0, 0, 0, [])), (71, .iconst 1, 1, (0, 0, 0, 1, 0, []))]),
  (90, [(72, .goto 4, 3, (76, 0, 0, 0, 0, [])), (75, .iconst 0, 1, (0, 0, 0, 0, 0, [])), (76, .istore 4, 2, (4, 0, 0, 0, 0, [])), (78, .iinc 5 1, 3, (5, 0, 0, 1, 0, [])), (81, .goto (-42), 3, (39, 0, 0, 0, 0, [])), (84, .iload 4, 2, (4, 0, 0, 0, 0, [])), (86, .ifCond .ne 5, 3, (91, 0, 0, 0, 0, [])), (89, .iconst 1, 1, (0, 0, 0, 1, 0, []))]),
  (99, [(90, .ireturn, 1, (0, 0, 0, 0, 0, [])), (91, .iinc 3 1, 3, (3, 0, 0, 1, 0, [])), (94, .goto (-67), 3, (27, 0, 0, 0, 0, [])), (97, .iconst 0, 1, (0, 0, 0, 0, 0, [])), (98, .ireturn, 1, (0, 0, 0, 0, 0, []))])]
def zt_X9_isOrder : List (Nat × List zv_E) := [
  (7, [(0, .iconst 0, 1, (0, 0, 0, 0, 0, [])), (1, .istore_n 2, 1, (2, 0, 0, 0, 0, [])), (2, .iconst 0, 1, (0, 0, 0, 0, 0, [])), (3, .istore_n 3, 1, (3, 0, 0, 0, 0, [])), (4, .iload_n 3, 1, (3, 0, 0, 0, 0, [])), (5, .aload_n 0, 1, (0, 0, 0, 0, 0, [])), (6, .getfield 16, 3, (9, 6, 2, 0, 0, []))]),
  (18, [(9, .iconst 0, 1, (0, 0, 0, 0, 0, [])), (10, .iaload, 1, (0, 0, 0, 0, 0, [])), (11, .if_icmp .ge 33, 3, (44, 0, 0, 0, 0, [])), (14, .iload_n 2, 1, (2, 0, 0, 0, 0, [])), (15, .iconst 1, 1, (0, 0, 0, 1, 0, [])), (16, .iload_n 1, 1, (1, 0, 0, 0, 0, [])), (17, .aload_n 0, 1, (0, 0, 0, 0, 0, []))]),
  (29, [(18, .getfield 16, 3, (9, 6, 2, 0, 0, [])), (21, .iconst 0, 1, (0, 0, 0, 0, 0, [])), (22, .iaload, 1, (0, 0, 0, 0, 0, [])), (23, .iload_n 3, 1, (3, 0, 0, 0, 0, [])), (24, .invokestatic 254, 3, (132, 2, 1, 0, 0, [])), (27, .idiv, 1, (0, 0, 0, 0, 0, [])), (28, .aload_n 0, 1, (0, 0, 0, 0, 0, []))]),
  (38, [(29, .getfield 16, 3, (9, 6, 2, 0, 0, [])), (32, .iconst 0, 1, (0, 0, 0, 0, 0, [])), (33, .iaload, 1, (0, 0, 0, 0, 0, [])), (34, .irem, 1, (0, 0, 0, 0, 0, [])), (35, .ishl, 1, (0, 0, 0, 0, 0, [])), (36, .ior, 1, (0, 0, 0, 0, 0, [])), (37, .istore_n 2, 1, (2, 0, 0, 0, 0, []))]),
  (51, [(38, .iinc 3 1, 3, (3, 0, 0, 1, 0, [])), (41, .goto (-37), 3, (4, 0, 0, 0, 0, [])), (44, .iload_n 2, 1, (2, 0, 0, 0, 0, [])), (45, .iconst 1, 1, (0, 0, 0, 1, 0, [])), (46, .aload_n 0, 1, (0, 0, 0, 0, 0, [])), (47, .getfield 16, 3, (9, 6, 2, 0, 0, [])), (50, .iconst 0, 1, (0, 0, 0, 0, 0, []))]),
  (60, [(51, .iaload, 1, (0, 0, 0, 0, 0, [])), (52, .ishl, 1, (0, 0, 0, 0, 0, [])), (53, .iconst 1, 1, (0, 0, 0, 1, 0, [])), (54, .isub, 1, (0, 0, 0, 0, 0, [])), (55, .if_icmp .ne 7, 3, (62, 0, 0, 0, 0, [])), (58, .iconst 1, 1, (0, 0, 0, 1, 0, [])), (59, .goto 4, 3, (63, 0, 0, 0, 0, []))]),
  (64, [(62, .iconst 0, 1, (0, 0, 0, 0, 0, [])), (63, .ireturn, 1, (0, 0, 0, 0, 0, []))])]
def zt_X9_orders : List (Nat × List zv_E) := [
  (18, [(0, .aload_n 0, 1, (0, 0, 0, 0, 0, [])), (1, .iconst 0, 1, (0, 0, 0, 0, 0, [])), (2, .putfield 72, 3, (9, 0, 0, 0, 0, [])), (5, .iload_n 1, 1, (1, 0, 0, 0, 0, [])), (6, .i2l, 1, (0, 0, 0, 0, 0, [])), (7, .lconst 0, 1, (0, 0, 0, 0, 0, [])), (8, .ldc2_w 223, 3, (0, 0, 0, 0, 2, [])), (11, .invokestatic 76, 3, (129, 3, 1, 0, 0, [])), (14, .ifCond .ne 6, 3, (20, 0, 0, 0, 0, [])), (17, .bipush (-2), 2, (0, 0, 0, (-2), 0, []))]),
  (33, [(19, .ireturn, 1, (0, 0, 0, 0, 0, [])), (20, .aload_n 0, 1, (0, 0, 0, 0, 0, [])), (21, .aload_n 0, 1, (0, 0, 0, 0, 0, [])), (22, .getfield 16, 3, (9, 6, 2, 0, 0, [])), (25, .invokevirtual 143, 3, (151, 2, 0, 0, 0, [])), (28, .iconst 0, 1, (0, 0, 0, 0, 0, [])), (29, .istore_n 2, 1, (2, 0, 0, 0, 0, [])), (30, .iconst 0, 1, (0, 0, 0, 0, 0, [])), (31, .istore_n 3, 1, (3, 0, 0, 0, 0, [])), (32, .bipush (-9), 2, (0, 0, 0, (-9), 0, []))]),
  (49, [(34, .istore 4, 2, (4, 0, 0, 0, 0, [])), (36, .iconst 0, 1, (0, 0, 0, 0, 0, [])), (37, .istore 5, 2, (5, 0, 0, 0, 0, [])), (39, .iload 5, 2, (5, 0, 0, 0, 0, [])), (41, .aload_n 0, 1, (0, 0, 0, 0, 0, [])), (42, .getfield 16, 3, (9, 6, 2, 0, 0, [])), (45, .iconst 0, 1, (0, 0, 0, 0, 0, [])), (46, .iaload, 1, (0, 0, 0, 0, 0, [])), (47, .aload_n 0, 1, (0, 0, 0, 0, 0, [])), (48, .getfield 16, 3, (9, 6, 2, 0, 0, []))]),
  (70, [(51, .iconst 0, 1, (0, 0, 0, 0, 0, [])), (52, .iaload, 1, (0, 0, 0, 0, 0, [])), (53, .invokestatic 254, 3, (132, 2, 1, 0, 0, [])), (56, .if_icmp .ge 120, 3, (176, 0, 0, 0, 0, [])), (59, .aload_n 0, 1, (0, 0, 0, 0, 0, [])), (60, .iload 5, 2, (5, 0, 0, 0, 0, [])), (62, .invokevirtual 257, 3, (193, 2, 1, 0, 0, [])), (65, .ifCond .eq 105, 3, (170, 0, 0, 0, 0, [])), (68, .aload_n 0, 1, (0, 0, 0, 0, 0, [])), (69, .iload 5, 2, (5, 0, 0, 0, 0, []))]),
  (93, [(71, .invokevirtual 260, 3, (192, 2, 1, 0, 0, [])), (74, .ifCond .eq 96, 3, (170, 0, 0, 0, 0, [])), (77, .iinc 2 1, 3, (2, 0, 0, 1, 0, [])), (80, .aload_n 0, 1, (0, 0, 0, 0, 0, [])), (81, .getfield 22, 3, (9, 8, 2, 0, 0, [])), (84, .invokestatic 251, 3, (189, 1, 1, 0, 0, [])), (87, .istore 6, 2, (6, 0, 0, 0, 0, [])), (89, .iconst 0, 1, (0, 0, 0, 0, 0, [])), (90, .istore 7, 2, (7, 0, 0, 0, 0, [])), (92, .iconst 0, 1, (0, 0, 0, 0, 0, []))]),
  (113, [(93, .istore 8, 2, (8, 0, 0, 0, 0, [])), (95, .iload 8, 2, (8, 0, 0, 0, 0, [])), (97, .iload_n 3, 1, (3, 0, 0, 0, 0, [])), (98, .if_icmp .ge 33, 3, (131, 0, 0, 0, 0, [])), (101, .iload 7, 2, (7, 0, 0, 0, 0, [])), (103, .ifCond .ne 15, 3, (118, 0, 0, 0, 0, [])), (106, .aload_n 0, 1, (0, 0, 0, 0, 0, [])), (107, .getfield 62, 3, (9, 27, 2, 0, 0, [])), (110, .iload 8, 2, (8, 0, 0, 0, 0, [])), (112, .iaload, 1, (0, 0, 0, 0, 0, []))]),
  (134, [(113, .iload 6, 2, (6, 0, 0, 0, 0, [])), (115, .if_icmp .ne 7, 3, (122, 0, 0, 0, 0, [])), (118, .iconst 1, 1, (0, 0, 0, 1, 0, [])), (119, .goto 4, 3, (123, 0, 0, 0, 0, [])), (122, .iconst 0, 1, (0, 0, 0, 0, 0, [])), (123, .istore 7, 2, (7, 0, 0, 0, 0, [])), (125, .iinc 8 1, 3, (8, 0, 0, 1, 0, [])), (128, .goto (-33), 3, (95, 0, 0, 0, 0, [])), (131, .iload 7, 2, (7, 0, 0, 0, 0, [])), (133, .ifCond .ne 14, 3, (147, 0, 0, 0, 0, []))]),
  (155, [(136, .aload_n 0, 1, (0, 0, 0, 0, 0, [])), (137, .getfield 62, 3, (9, 27, 2, 0, 0, [])), (140, .iload_n 3, 1, (3, 0, 0, 0, 0, [])), (141, .iload 6, 2, (6, 0, 0, 0, 0, [])), (143, .iastore, 1, (0, 0, 0, 0, 0, [])), (144, .iinc 3 1, 3, (3, 0, 0, 1, 0, [])), (147, .iload 4, 2, (4, 0, 0, 0, 0, [])), (149, .bipush (-9), 2, (0, 0, 0, (-9), 0, [])), (151, .if_icmp .eq 10, 3, (161, 0, 0, 0, 0, [])), (154, .iload 6, 2, (6, 0, 0, 0, 0, []))]),
  (178, [(156, .iload 4, 2, (4, 0, 0, 0, 0, [])), (158, .if_icmp .ge 8, 3, (166, 0, 0, 0, 0, [])), (161, .iload 6, 2, (6, 0, 0, 0, 0, [])), (163, .goto 5, 3, (168, 0, 0, 0, 0, [])), (166, .iload 4, 2, (4, 0, 0, 0, 0, [])), (168, .istore 4, 2, (4, 0, 0, 0, 0, [])), (170, .iinc 5 1, 3, (5, 0, 0, 1, 0, [])), (173, .goto (-134), 3, (39, 0, 0, 0, 0, [])), (176, .iload_n 1, 1, (1, 0, 0, 0, 0, [])), (177, .ifCond .ne 7, 3, (184, 0, 0, 0, 0, []))]),
  (196, [(180, .iload_n 2, 1, (2, 0, 0, 0, 0, [])), (181, .goto 14, 3, (195, 0, 0, 0, 0, [])), (184, .iload_n 1, 1, (1, 0, 0, 0, 0, [])), (185, .iconst 1, 1, (0, 0, 0, 1, 0, [])), (186, .if_icmp .ne 7, 3, (193, 0, 0, 0, 0, [])), (189, .iload_n 3, 1, (3, 0, 0, 0, 0, [])), (190, .goto 5, 3, (195, 0, 0, 0, 0, [])), (193, .iload 4, 2, (4, 0, 0, 0, 0, [])), (195, .ireturn, 1, (0, 0, 0, 0, 0, []))])]
def zt_X9_healed : List (Nat × List zv_E) := [
  (10, [(0, .aload_n 0, 1, (0, 0, 0, 0, 0, [])), (1, .iconst 0, 1, (0, 0, 0, 0, 0, [])), (2, .putfield 72, 3, (9, 0, 0, 0, 0, [])), (5, .iload_n 1, 1, (1, 0, 0, 0, 0, [])), (6, .i2l, 1, (0, 0, 0, 0, 0, [])), (7, .lconst 0, 1, (0, 0, 0, 0, 0, [])), (8, .lconst 1, 1, (0, 0, 0, 0, 1, [])), (9, .invokestatic 76, 3, (129, 3, 1, 0, 0, []))]),
  (24, [(12, .ifCond .ne 6, 3, (18, 0, 0, 0, 0, [])), (15, .bipush (-2), 2, (0, 0, 0, (-2), 0, [])), (17, .ireturn, 1, (0, 0, 0, 0, 0, [])), (18, .bipush (-9), 2, (0, 0, 0, (-9), 0, [])), (20, .istore_n 2, 1, (2, 0, 0, 0, 0, [])), (21, .iconst 0, 1, (0, 0, 0, 0, 0, [])), (22, .istore_n 3, 1, (3, 0, 0, 0, 0, [])), (23, .iload_n 3, 1, (3, 0, 0, 0, 0, []))]),
  (36, [(24, .iconst 1, 1, (0, 0, 0, 1, 0, [])), (25, .aload_n 0, 1, (0, 0, 0, 0, 0, [])), (26, .getfield 16, 3, (9, 6, 2, 0, 0, [])), (29, .iconst 0, 1, (0, 0, 0, 0, 0, [])), (30, .iaload, 1, (0, 0, 0, 0, 0, [])), (31, .ishl, 1, (0, 0, 0, 0, 0, [])), (32, .if_icmp .ge 42, 3, (74, 0, 0, 0, 0, [])), (35, .iload_n 2, 1, (2, 0, 0, 0, 0, []))]),
  (53, [(36, .bipush (-9), 2, (0, 0, 0, (-9), 0, [])), (38, .if_icmp .eq 14, 3, (52, 0, 0, 0, 0, [])), (41, .iload_n 3, 1, (3, 0, 0, 0, 0, [])), (42, .invokestatic 158, 3, (131, 1, 1, 0, 0, [])), (45, .iload_n 2, 1, (2, 0, 0, 0, 0, [])), (46, .invokestatic 158, 3, (131, 1, 1, 0, 0, [])), (49, .if_icmp .ge 19, 3, (68, 0, 0, 0, 0, [])), (52, .aload_n 0, 1, (0, 0, 0, 0, 0, []))]),
  (67, [(53, .aload_n 0, 1, (0, 0, 0, 0, 0, [])), (54, .getfield 16, 3, (9, 6, 2, 0, 0, [])), (57, .iconst 2, 1, (0, 0, 0, 2, 0, [])), (58, .iaload, 1, (0, 0, 0, 0, 0, [])), (59, .iload_n 3, 1, (3, 0, 0, 0, 0, [])), (60, .invokevirtual 263, 3, (190, 3, 1, 0, 0, [])), (63, .ifCond .eq 5, 3, (68, 0, 0, 0, 0, [])), (66, .iload_n 3, 1, (3, 0, 0, 0, 0, []))]),
  (81, [(67, .istore_n 2, 1, (2, 0, 0, 0, 0, [])), (68, .iinc 3 1, 3, (3, 0, 0, 1, 0, [])), (71, .goto (-48), 3, (23, 0, 0, 0, 0, [])), (74, .iload_n 1, 1, (1, 0, 0, 0, 0, [])), (75, .iconst 1, 1, (0, 0, 0, 1, 0, [])), (76, .if_icmp .eq 9, 3, (85, 0, 0, 0, 0, [])), (79, .iload_n 2, 1, (2, 0, 0, 0, 0, [])), (80, .bipush (-9), 2, (0, 0, 0, (-9), 0, []))]),
  (94, [(82, .if_icmp .ne 7, 3, (89, 0, 0, 0, 0, [])), (85, .iload_n 2, 1, (2, 0, 0, 0, 0, [])), (86, .goto 7, 3, (93, 0, 0, 0, 0, [])), (89, .iload_n 2, 1, (2, 0, 0, 0, 0, [])), (90, .invokestatic 158, 3, (131, 1, 1, 0, 0, [])), (93, .ireturn, 1, (0, 0, 0, 0, 0, []))])]
def zt_X9_longPower : List (Nat × List zv_E) := [
  (8, [(0, .lconst 1, 1, (0, 0, 0, 0, 1, [])), (1, .lstore_n 3, 1, (3, 0, 0, 0, 0, [])), (2, .iconst 0, 1, (0, 0, 0, 0, 0, [])), (3, .istore 5, 2, (5, 0, 0, 0, 0, [])), (5, .iload 5, 2, (5, 0, 0, 0, 0, [])), (7, .iload_n 2, 1, (2, 0, 0, 0, 0, []))]),
  (16, [(8, .if_icmp .ge 13, 3, (21, 0, 0, 0, 0, [])), (11, .lload_n 3, 1, (3, 0, 0, 0, 0, [])), (12, .lload_n 0, 1, (0, 0, 0, 0, 0, [])), (13, .lmul, 1, (0, 0, 0, 0, 0, [])), (14, .lstore_n 3, 1, (3, 0, 0, 0, 0, [])), (15, .iinc 5 1, 3, (5, 0, 0, 1, 0, []))]),
  (23, [(18, .goto (-13), 3, (5, 0, 0, 0, 0, [])), (21, .lload_n 3, 1, (3, 0, 0, 0, 0, [])), (22, .lreturn, 1, (0, 0, 0, 0, 0, []))])]
def zt_X9_runsToRest : List (Nat × List zv_E) := [
  (12, [(0, .aload_n 0, 1, (0, 0, 0, 0, 0, [])), (1, .getfield 22, 3, (9, 8, 2, 0, 0, [])), (4, .aload_n 0, 1, (0, 0, 0, 0, 0, [])), (5, .getfield 19, 3, (9, 7, 2, 0, 0, [])), (8, .invokestatic 133, 3, (134, 2, 0, 0, 0, [])), (11, .aload_n 0, 1, (0, 0, 0, 0, 0, []))]),
  (24, [(12, .aload_n 0, 1, (0, 0, 0, 0, 0, [])), (13, .getfield 22, 3, (9, 8, 2, 0, 0, [])), (16, .invokevirtual 246, 3, (188, 2, 0, 0, 0, [])), (19, .aload_n 0, 1, (0, 0, 0, 0, 0, [])), (20, .getfield 231, 3, (9, 24, 0, 0, 0, [])), (23, .ifCond .ne 7, 3, (30, 0, 0, 0, 0, []))]),
  (32, [(26, .iconst 1, 1, (0, 0, 0, 1, 0, [])), (27, .goto 4, 3, (31, 0, 0, 0, 0, [])), (30, .iconst 0, 1, (0, 0, 0, 0, 0, [])), (31, .ireturn, 1, (0, 0, 0, 0, 0, []))])]
def zt_X9_does : List (Nat × List zv_E) := [
  (18, [(0, .iload_n 1, 1, (1, 0, 0, 0, 0, [])), (1, .bipush 100, 2, (0, 0, 0, 100, 0, [])), (3, .idiv, 1, (0, 0, 0, 0, 0, [])), (4, .bipush 10, 2, (0, 0, 0, 10, 0, [])), (6, .irem, 1, (0, 0, 0, 0, 0, [])), (7, .istore_n 2, 1, (2, 0, 0, 0, 0, [])), (8, .iload_n 1, 1, (1, 0, 0, 0, 0, [])), (9, .bipush 10, 2, (0, 0, 0, 10, 0, [])), (11, .idiv, 1, (0, 0, 0, 0, 0, [])), (12, .bipush 10, 2, (0, 0, 0, 10, 0, [])), (14, .irem, 1, (0, 0, 0, 0, 0, [])), (15, .istore_n 3, 1, (3, 0, 0, 0, 0, [])), (16, .iload_n 1, 1, (1, 0, 0, 0, 0, [])), (17, .bipush 10, 2, (0, 0, 0, 10, 0, []))]),
  (42, [(19, .irem, 1, (0, 0, 0, 0, 0, [])), (20, .istore 4, 2, (4, 0, 0, 0, 0, [])), (22, .iload_n 2, 1, (2, 0, 0, 0, 0, [])), (23, .aload_n 0, 1, (0, 0, 0, 0, 0, [])), (24, .getfield 19, 3, (9, 7, 2, 0, 0, [])), (27, .iconst 0, 1, (0, 0, 0, 0, 0, [])), (28, .iaload, 1, (0, 0, 0, 0, 0, [])), (29, .if_icmp .ge 11, 3, (40, 0, 0, 0, 0, [])), (32, .iload_n 3, 1, (3, 0, 0, 0, 0, [])), (33, .ifCond .ne 7, 3, (40, 0, 0, 0, 0, [])), (36, .iconst 1, 1, (0, 0, 0, 1, 0, [])), (37, .goto 4, 3, (41, 0, 0, 0, 0, [])), (40, .iconst 0, 1, (0, 0, 0, 0, 0, [])), (41, .istore 5, 2, (5, 0, 0, 0, 0, []))]),
  (66, [(43, .iload_n 2, 1, (2, 0, 0, 0, 0, [])), (44, .aload_n 0, 1, (0, 0, 0, 0, 0, [])), (45, .getfield 19, 3, (9, 7, 2, 0, 0, [])), (48, .iconst 1, 1, (0, 0, 0, 1, 0, [])), (49, .iaload, 1, (0, 0, 0, 0, 0, [])), (50, .if_icmp .ge 11, 3, (61, 0, 0, 0, 0, [])), (53, .iload_n 3, 1, (3, 0, 0, 0, 0, [])), (54, .ifCond .ne 7, 3, (61, 0, 0, 0, 0, [])), (57, .iconst 1, 1, (0, 0, 0, 1, 0, [])), (58, .goto 4, 3, (62, 0, 0, 0, 0, [])), (61, .iconst 0, 1, (0, 0, 0, 0, 0, [])), (62, .istore 6, 2, (6, 0, 0, 0, 0, [])), (64, .aload_n 0, 1, (0, 0, 0, 0, 0, [])), (65, .aload_n 0, 1, (0, 0, 0, 0, 0, []))]),
  (136, [(66, .getfield 19, 3, (9, 7, 2, 0, 0, [])), (69, .invokevirtual 143, 3, (151, 2, 0, 0, 0, [])), (72, .iload_n 1, 1, (1, 0, 0, 0, 0, [])), (73, .sipush 1000, 3, (0, 0, 0, 1000, 0, [])), (76, .idiv, 1, (0, 0, 0, 0, 0, [])), (77, .tableswitch 313 1 7 #[43, 79, 121, 166, 200, 238, 275], 43, (390, 0, 0, 0, 0, [(1, 120), (2, 156), (3, 198), (4, 243), (5, 277), (6, 315), (7, 352)])), (120, .iload 5, 2, (5, 0, 0, 0, 0, [])), (122, .ifCond .eq 18, 3, (140, 0, 0, 0, 0, [])), (125, .iload 4, 2, (4, 0, 0, 0, 0, [])), (127, .ifCond .ne 13, 3, (140, 0, 0, 0, 0, [])), (130, .aload_n 0, 1, (0, 0, 0, 0, 0, [])), (131, .aload_n 0, 1, (0, 0, 0, 0, 0, [])), (132, .getfield 19, 3, (9, 7, 2, 0, 0, [])), (135, .iload_n 2, 1, (2, 0, 0, 0, 0, []))]),
  (162, [(136, .invokevirtual 209, 3, (168, 3, 1, 0, 0, [])), (139, .pop, 1, (0, 0, 0, 0, 0, [])), (140, .iload 5, 2, (5, 0, 0, 0, 0, [])), (142, .ifCond .eq 12, 3, (154, 0, 0, 0, 0, [])), (145, .iload 4, 2, (4, 0, 0, 0, 0, [])), (147, .ifCond .ne 7, 3, (154, 0, 0, 0, 0, [])), (150, .iconst 1, 1, (0, 0, 0, 1, 0, [])), (151, .goto 4, 3, (155, 0, 0, 0, 0, [])), (154, .iconst 0, 1, (0, 0, 0, 0, 0, [])), (155, .ireturn, 1, (0, 0, 0, 0, 0, [])), (156, .aload_n 0, 1, (0, 0, 0, 0, 0, [])), (157, .getfield 19, 3, (9, 7, 2, 0, 0, [])), (160, .iconst 2, 1, (0, 0, 0, 2, 0, [])), (161, .dup2, 1, (0, 0, 0, 0, 0, []))]),
  (185, [(162, .iaload, 1, (0, 0, 0, 0, 0, [])), (163, .iload 6, 2, (6, 0, 0, 0, 0, [])), (165, .ifCond .eq 14, 3, (179, 0, 0, 0, 0, [])), (168, .iload 4, 2, (4, 0, 0, 0, 0, [])), (170, .ifCond .ne 9, 3, (179, 0, 0, 0, 0, [])), (173, .iconst 1, 1, (0, 0, 0, 1, 0, [])), (174, .iload_n 2, 1, (2, 0, 0, 0, 0, [])), (175, .ishl, 1, (0, 0, 0, 0, 0, [])), (176, .goto 4, 3, (180, 0, 0, 0, 0, [])), (179, .iconst 0, 1, (0, 0, 0, 0, 0, [])), (180, .ixor, 1, (0, 0, 0, 0, 0, [])), (181, .iastore, 1, (0, 0, 0, 0, 0, [])), (182, .iload 6, 2, (6, 0, 0, 0, 0, [])), (184, .ifCond .eq 12, 3, (196, 0, 0, 0, 0, []))]),
  (215, [(187, .iload 4, 2, (4, 0, 0, 0, 0, [])), (189, .ifCond .ne 7, 3, (196, 0, 0, 0, 0, [])), (192, .iconst 1, 1, (0, 0, 0, 1, 0, [])), (193, .goto 4, 3, (197, 0, 0, 0, 0, [])), (196, .iconst 0, 1, (0, 0, 0, 0, 0, [])), (197, .ireturn, 1, (0, 0, 0, 0, 0, [])), (198, .iload 6, 2, (6, 0, 0, 0, 0, [])), (200, .ifCond .eq 25, 3, (225, 0, 0, 0, 0, [])), (203, .iload 4, 2, (4, 0, 0, 0, 0, [])), (205, .bipush 6, 2, (0, 0, 0, 6, 0, [])), (207, .if_icmp .ge 18, 3, (225, 0, 0, 0, 0, [])), (210, .aload_n 0, 1, (0, 0, 0, 0, 0, [])), (211, .getfield 19, 3, (9, 7, 2, 0, 0, [])), (214, .bipush 55, 2, (0, 0, 0, 55, 0, []))]),
  (238, [(216, .iconst 4, 1, (0, 0, 0, 4, 0, [])), (217, .iload_n 2, 1, (2, 0, 0, 0, 0, [])), (218, .imul, 1, (0, 0, 0, 0, 0, [])), (219, .iadd, 1, (0, 0, 0, 0, 0, [])), (220, .iconst 3, 1, (0, 0, 0, 3, 0, [])), (221, .iadd, 1, (0, 0, 0, 0, 0, [])), (222, .iload 4, 2, (4, 0, 0, 0, 0, [])), (224, .iastore, 1, (0, 0, 0, 0, 0, [])), (225, .iload 6, 2, (6, 0, 0, 0, 0, [])), (227, .ifCond .eq 14, 3, (241, 0, 0, 0, 0, [])), (230, .iload 4, 2, (4, 0, 0, 0, 0, [])), (232, .bipush 6, 2, (0, 0, 0, 6, 0, [])), (234, .if_icmp .ge 7, 3, (241, 0, 0, 0, 0, [])), (237, .iconst 1, 1, (0, 0, 0, 1, 0, []))]),
  (267, [(238, .goto 4, 3, (242, 0, 0, 0, 0, [])), (241, .iconst 0, 1, (0, 0, 0, 0, 0, [])), (242, .ireturn, 1, (0, 0, 0, 0, 0, [])), (243, .iload 5, 2, (5, 0, 0, 0, 0, [])), (245, .ifCond .eq 16, 3, (261, 0, 0, 0, 0, [])), (248, .iload 4, 2, (4, 0, 0, 0, 0, [])), (250, .ifCond .ne 11, 3, (261, 0, 0, 0, 0, [])), (253, .aload_n 0, 1, (0, 0, 0, 0, 0, [])), (254, .getfield 19, 3, (9, 7, 2, 0, 0, [])), (257, .iload_n 2, 1, (2, 0, 0, 0, 0, [])), (258, .invokestatic 220, 3, (176, 2, 0, 0, 0, [])), (261, .iload 5, 2, (5, 0, 0, 0, 0, [])), (263, .ifCond .eq 12, 3, (275, 0, 0, 0, 0, [])), (266, .iload 4, 2, (4, 0, 0, 0, 0, []))]),
  (293, [(268, .ifCond .ne 7, 3, (275, 0, 0, 0, 0, [])), (271, .iconst 1, 1, (0, 0, 0, 1, 0, [])), (272, .goto 4, 3, (276, 0, 0, 0, 0, [])), (275, .iconst 0, 1, (0, 0, 0, 0, 0, [])), (276, .ireturn, 1, (0, 0, 0, 0, 0, [])), (277, .iload 5, 2, (5, 0, 0, 0, 0, [])), (279, .ifCond .eq 34, 3, (313, 0, 0, 0, 0, [])), (282, .aload_n 0, 1, (0, 0, 0, 0, 0, [])), (283, .getfield 19, 3, (9, 7, 2, 0, 0, [])), (286, .iload_n 2, 1, (2, 0, 0, 0, 0, [])), (287, .iconst 0, 1, (0, 0, 0, 0, 0, [])), (288, .invokestatic 155, 3, (156, 2, 1, 0, 0, [])), (291, .iaload, 1, (0, 0, 0, 0, 0, [])), (292, .iload 4, 2, (4, 0, 0, 0, 0, []))]),
  (322, [(294, .bipush 9, 2, (0, 0, 0, 9, 0, [])), (296, .if_icmp .ne 8, 3, (304, 0, 0, 0, 0, [])), (299, .bipush (-9), 2, (0, 0, 0, (-9), 0, [])), (301, .goto 5, 3, (306, 0, 0, 0, 0, [])), (304, .iload 4, 2, (4, 0, 0, 0, 0, [])), (306, .if_icmp .ne 7, 3, (313, 0, 0, 0, 0, [])), (309, .iconst 1, 1, (0, 0, 0, 1, 0, [])), (310, .goto 4, 3, (314, 0, 0, 0, 0, [])), (313, .iconst 0, 1, (0, 0, 0, 0, 0, [])), (314, .ireturn, 1, (0, 0, 0, 0, 0, [])), (315, .iload 5, 2, (5, 0, 0, 0, 0, [])), (317, .ifCond .eq 33, 3, (350, 0, 0, 0, 0, [])), (320, .aload_n 0, 1, (0, 0, 0, 0, 0, [])), (321, .aload_n 0, 1, (0, 0, 0, 0, 0, []))]),
  (352, [(322, .getfield 19, 3, (9, 7, 2, 0, 0, [])), (325, .iload_n 2, 1, (2, 0, 0, 0, 0, [])), (326, .invokevirtual 228, 3, (184, 3, 1, 0, 0, [])), (329, .iload 4, 2, (4, 0, 0, 0, 0, [])), (331, .bipush 9, 2, (0, 0, 0, 9, 0, [])), (333, .if_icmp .ne 8, 3, (341, 0, 0, 0, 0, [])), (336, .bipush (-9), 2, (0, 0, 0, (-9), 0, [])), (338, .goto 5, 3, (343, 0, 0, 0, 0, [])), (341, .iload 4, 2, (4, 0, 0, 0, 0, [])), (343, .if_icmp .ne 7, 3, (350, 0, 0, 0, 0, [])), (346, .iconst 1, 1, (0, 0, 0, 1, 0, [])), (347, .goto 4, 3, (351, 0, 0, 0, 0, [])), (350, .iconst 0, 1, (0, 0, 0, 0, 0, [])), (351, .ireturn, 1, (0, 0, 0, 0, 0, []))]),
  (378, [(352, .iload_n 2, 1, (2, 0, 0, 0, 0, [])), (353, .ifCond .ne 35, 3, (388, 0, 0, 0, 0, [])), (356, .iload_n 3, 1, (3, 0, 0, 0, 0, [])), (357, .ifCond .ne 31, 3, (388, 0, 0, 0, 0, [])), (360, .iload 4, 2, (4, 0, 0, 0, 0, [])), (362, .iconst 2, 1, (0, 0, 0, 2, 0, [])), (363, .if_icmp .ge 25, 3, (388, 0, 0, 0, 0, [])), (366, .aload_n 0, 1, (0, 0, 0, 0, 0, [])), (367, .invokevirtual 265, 3, (197, 1, 1, 0, 0, [])), (370, .iload 4, 2, (4, 0, 0, 0, 0, [])), (372, .iconst 1, 1, (0, 0, 0, 1, 0, [])), (373, .if_icmp .ne 7, 3, (380, 0, 0, 0, 0, [])), (376, .iconst 1, 1, (0, 0, 0, 1, 0, [])), (377, .goto 4, 3, (381, 0, 0, 0, 0, []))]),
  (392, [(380, .iconst 0, 1, (0, 0, 0, 0, 0, [])), (381, .if_icmp .ne 7, 3, (388, 0, 0, 0, 0, [])), (384, .iconst 1, 1, (0, 0, 0, 1, 0, [])), (385, .goto 4, 3, (389, 0, 0, 0, 0, [])), (388, .iconst 0, 1, (0, 0, 0, 0, 0, [])), (389, .ireturn, 1, (0, 0, 0, 0, 0, [])), (390, .iconst 0, 1, (0, 0, 0, 0, 0, [])), (391, .ireturn, 1, (0, 0, 0, 0, 0, []))])]
def zt_X9_judge : List (Nat × List zv_E) := [
  (12, [(0, .aload_n 0, 1, (0, 0, 0, 0, 0, [])), (1, .iconst 0, 1, (0, 0, 0, 0, 0, [])), (2, .putfield 72, 3, (9, 0, 0, 0, 0, [])), (5, .iload_n 1, 1, (1, 0, 0, 0, 0, [])), (6, .i2l, 1, (0, 0, 0, 0, 0, [])), (7, .lconst 1, 1, (0, 0, 0, 0, 1, [])), (8, .ldc2_w 149, 3, (0, 0, 0, 0, 4, [])), (11, .invokestatic 76, 3, (129, 3, 1, 0, 0, []))]),
  (28, [(14, .ifCond .eq 20, 3, (34, 0, 0, 0, 0, [])), (17, .lload_n 2, 1, (2, 0, 0, 0, 0, [])), (18, .lconst 0, 1, (0, 0, 0, 0, 0, [])), (19, .ldc2_w 268, 3, (0, 0, 0, 0, 10000, [])), (22, .iload_n 1, 1, (1, 0, 0, 0, 0, [])), (23, .invokestatic 270, 3, (196, 2, 2, 0, 0, [])), (26, .lconst 1, 1, (0, 0, 0, 0, 1, [])), (27, .lsub, 1, (0, 0, 0, 0, 0, []))]),
  (43, [(28, .invokestatic 76, 3, (129, 3, 1, 0, 0, [])), (31, .ifCond .ne 6, 3, (37, 0, 0, 0, 0, [])), (34, .bipush (-2), 2, (0, 0, 0, (-2), 0, [])), (36, .ireturn, 1, (0, 0, 0, 0, 0, [])), (37, .aload_n 0, 1, (0, 0, 0, 0, 0, [])), (38, .getfield 19, 3, (9, 7, 2, 0, 0, [])), (41, .aload_n 0, 1, (0, 0, 0, 0, 0, [])), (42, .getfield 16, 3, (9, 6, 2, 0, 0, []))]),
  (59, [(45, .invokestatic 133, 3, (134, 2, 0, 0, 0, [])), (48, .iconst 0, 1, (0, 0, 0, 0, 0, [])), (49, .istore 4, 2, (4, 0, 0, 0, 0, [])), (51, .iload 4, 2, (4, 0, 0, 0, 0, [])), (53, .iload_n 1, 1, (1, 0, 0, 0, 0, [])), (54, .if_icmp .ge 38, 3, (92, 0, 0, 0, 0, [])), (57, .aload_n 0, 1, (0, 0, 0, 0, 0, [])), (58, .lload_n 2, 1, (2, 0, 0, 0, 0, []))]),
  (72, [(59, .ldc2_w 268, 3, (0, 0, 0, 0, 10000, [])), (62, .iload_n 1, 1, (1, 0, 0, 0, 0, [])), (63, .iconst 1, 1, (0, 0, 0, 1, 0, [])), (64, .isub, 1, (0, 0, 0, 0, 0, [])), (65, .iload 4, 2, (4, 0, 0, 0, 0, [])), (67, .isub, 1, (0, 0, 0, 0, 0, [])), (68, .invokestatic 270, 3, (196, 2, 2, 0, 0, [])), (71, .ldiv, 1, (0, 0, 0, 0, 0, []))]),
  (87, [(72, .ldc2_w 268, 3, (0, 0, 0, 0, 10000, [])), (75, .lrem, 1, (0, 0, 0, 0, 0, [])), (76, .l2i, 1, (0, 0, 0, 0, 0, [])), (77, .invokevirtual 274, 3, (198, 2, 1, 0, 0, [])), (80, .ifCond .ne 6, 3, (86, 0, 0, 0, 0, [])), (83, .iload 4, 2, (4, 0, 0, 0, 0, [])), (85, .ireturn, 1, (0, 0, 0, 0, 0, [])), (86, .iinc 4 1, 3, (4, 0, 0, 1, 0, []))]),
  (95, [(89, .goto (-38), 3, (51, 0, 0, 0, 0, [])), (92, .bipush (-9), 2, (0, 0, 0, (-9), 0, [])), (94, .ireturn, 1, (0, 0, 0, 0, 0, []))])]
def zt_X9_see : List (Nat × List zv_E) := [
  (14, [(0, .aload_n 0, 1, (0, 0, 0, 0, 0, [])), (1, .iconst 0, 1, (0, 0, 0, 0, 0, [])), (2, .putfield 72, 3, (9, 0, 0, 0, 0, [])), (5, .aload_n 0, 1, (0, 0, 0, 0, 0, [])), (6, .iload_n 1, 1, (1, 0, 0, 0, 0, [])), (7, .invokevirtual 140, 3, (135, 2, 1, 0, 0, [])), (10, .ifCond .ne 11, 3, (21, 0, 0, 0, 0, [])), (13, .aload_n 0, 1, (0, 0, 0, 0, 0, []))]),
  (26, [(14, .iload_n 2, 1, (2, 0, 0, 0, 0, [])), (15, .invokevirtual 146, 3, (136, 2, 1, 0, 0, [])), (18, .ifCond .eq 5, 3, (23, 0, 0, 0, 0, [])), (21, .iconst (-1), 1, (0, 0, 0, (-1), 0, [])), (22, .ireturn, 1, (0, 0, 0, 0, 0, [])), (23, .iload_n 3, 1, (3, 0, 0, 0, 0, [])), (24, .i2l, 1, (0, 0, 0, 0, 0, [])), (25, .lconst 0, 1, (0, 0, 0, 0, 0, []))]),
  (41, [(26, .lconst 1, 1, (0, 0, 0, 0, 1, [])), (27, .invokestatic 76, 3, (129, 3, 1, 0, 0, [])), (30, .ifCond .ne 6, 3, (36, 0, 0, 0, 0, [])), (33, .bipush (-2), 2, (0, 0, 0, (-2), 0, [])), (35, .ireturn, 1, (0, 0, 0, 0, 0, [])), (36, .aload_n 0, 1, (0, 0, 0, 0, 0, [])), (37, .getfield 277, 3, (9, 13, 0, 0, 0, [])), (40, .bipush 6, 2, (0, 0, 0, 6, 0, []))]),
  (57, [(42, .if_icmp .ne 6, 3, (48, 0, 0, 0, 0, [])), (45, .bipush (-4), 2, (0, 0, 0, (-4), 0, [])), (47, .ireturn, 1, (0, 0, 0, 0, 0, [])), (48, .aload_n 0, 1, (0, 0, 0, 0, 0, [])), (49, .getfield 35, 3, (9, 14, 2, 0, 0, [])), (52, .aload_n 0, 1, (0, 0, 0, 0, 0, [])), (53, .getfield 277, 3, (9, 13, 0, 0, 0, [])), (56, .iload_n 1, 1, (1, 0, 0, 0, 0, []))]),
  (69, [(57, .iastore, 1, (0, 0, 0, 0, 0, [])), (58, .aload_n 0, 1, (0, 0, 0, 0, 0, [])), (59, .getfield 38, 3, (9, 15, 2, 0, 0, [])), (62, .aload_n 0, 1, (0, 0, 0, 0, 0, [])), (63, .getfield 277, 3, (9, 13, 0, 0, 0, [])), (66, .iload_n 2, 1, (2, 0, 0, 0, 0, [])), (67, .iastore, 1, (0, 0, 0, 0, 0, [])), (68, .aload_n 0, 1, (0, 0, 0, 0, 0, []))]),
  (81, [(69, .getfield 41, 3, (9, 16, 2, 0, 0, [])), (72, .aload_n 0, 1, (0, 0, 0, 0, 0, [])), (73, .getfield 277, 3, (9, 13, 0, 0, 0, [])), (76, .iload_n 3, 1, (3, 0, 0, 0, 0, [])), (77, .iastore, 1, (0, 0, 0, 0, 0, [])), (78, .aload_n 0, 1, (0, 0, 0, 0, 0, [])), (79, .dup, 1, (0, 0, 0, 0, 0, [])), (80, .getfield 277, 3, (9, 13, 0, 0, 0, []))]),
  (93, [(83, .iconst 1, 1, (0, 0, 0, 1, 0, [])), (84, .iadd, 1, (0, 0, 0, 0, 0, [])), (85, .putfield 277, 3, (9, 13, 0, 0, 0, [])), (88, .aload_n 0, 1, (0, 0, 0, 0, 0, [])), (89, .getfield 277, 3, (9, 13, 0, 0, 0, [])), (92, .ireturn, 1, (0, 0, 0, 0, 0, []))])]
def zt_X9_unsee : List (Nat × List zv_E) := [
  (10, [(0, .aload_n 0, 1, (0, 0, 0, 0, 0, [])), (1, .iconst 0, 1, (0, 0, 0, 0, 0, [])), (2, .putfield 72, 3, (9, 0, 0, 0, 0, [])), (5, .aload_n 0, 1, (0, 0, 0, 0, 0, [])), (6, .getfield 277, 3, (9, 13, 0, 0, 0, [])), (9, .istore_n 1, 1, (1, 0, 0, 0, 0, []))]),
  (17, [(10, .aload_n 0, 1, (0, 0, 0, 0, 0, [])), (11, .iconst 0, 1, (0, 0, 0, 0, 0, [])), (12, .putfield 277, 3, (9, 13, 0, 0, 0, [])), (15, .iload_n 1, 1, (1, 0, 0, 0, 0, [])), (16, .ireturn, 1, (0, 0, 0, 0, 0, []))])]
def zt_X9_agrees : List (Nat × List zv_E) := [
  (12, [(0, .iconst 1, 1, (0, 0, 0, 1, 0, [])), (1, .aload_n 0, 1, (0, 0, 0, 0, 0, [])), (2, .getfield 16, 3, (9, 6, 2, 0, 0, [])), (5, .iconst 1, 1, (0, 0, 0, 1, 0, [])), (6, .iaload, 1, (0, 0, 0, 0, 0, [])), (7, .ishl, 1, (0, 0, 0, 0, 0, [])), (8, .iconst 1, 1, (0, 0, 0, 1, 0, [])), (9, .isub, 1, (0, 0, 0, 0, 0, [])), (10, .istore_n 2, 1, (2, 0, 0, 0, 0, [])), (11, .aload_n 0, 1, (0, 0, 0, 0, 0, []))]),
  (24, [(12, .iload_n 2, 1, (2, 0, 0, 0, 0, [])), (13, .iconst 1, 1, (0, 0, 0, 1, 0, [])), (14, .iload_n 1, 1, (1, 0, 0, 0, 0, [])), (15, .ishl, 1, (0, 0, 0, 0, 0, [])), (16, .iconst (-1), 1, (0, 0, 0, (-1), 0, [])), (17, .ixor, 1, (0, 0, 0, 0, 0, [])), (18, .iand, 1, (0, 0, 0, 0, 0, [])), (19, .aload_n 0, 1, (0, 0, 0, 0, 0, [])), (20, .getfield 16, 3, (9, 6, 2, 0, 0, [])), (23, .iconst 3, 1, (0, 0, 0, 3, 0, []))]),
  (39, [(24, .iaload, 1, (0, 0, 0, 0, 0, [])), (25, .invokevirtual 263, 3, (190, 3, 1, 0, 0, [])), (28, .istore_n 3, 1, (3, 0, 0, 0, 0, [])), (29, .iconst 1, 1, (0, 0, 0, 1, 0, [])), (30, .istore 4, 2, (4, 0, 0, 0, 0, [])), (32, .iconst 0, 1, (0, 0, 0, 0, 0, [])), (33, .istore 5, 2, (5, 0, 0, 0, 0, [])), (35, .iload 5, 2, (5, 0, 0, 0, 0, [])), (37, .aload_n 0, 1, (0, 0, 0, 0, 0, [])), (38, .getfield 277, 3, (9, 13, 0, 0, 0, []))]),
  (58, [(41, .if_icmp .ge 123, 3, (164, 0, 0, 0, 0, [])), (44, .aload_n 0, 1, (0, 0, 0, 0, 0, [])), (45, .getfield 35, 3, (9, 14, 2, 0, 0, [])), (48, .iload 5, 2, (5, 0, 0, 0, 0, [])), (50, .iaload, 1, (0, 0, 0, 0, 0, [])), (51, .aload_n 0, 1, (0, 0, 0, 0, 0, [])), (52, .getfield 16, 3, (9, 6, 2, 0, 0, [])), (55, .iconst 0, 1, (0, 0, 0, 0, 0, [])), (56, .iaload, 1, (0, 0, 0, 0, 0, [])), (57, .if_icmp .ge 23, 3, (80, 0, 0, 0, 0, []))]),
  (77, [(60, .aload_n 0, 1, (0, 0, 0, 0, 0, [])), (61, .getfield 38, 3, (9, 15, 2, 0, 0, [])), (64, .iload 5, 2, (5, 0, 0, 0, 0, [])), (66, .iaload, 1, (0, 0, 0, 0, 0, [])), (67, .aload_n 0, 1, (0, 0, 0, 0, 0, [])), (68, .getfield 16, 3, (9, 6, 2, 0, 0, [])), (71, .iconst 1, 1, (0, 0, 0, 1, 0, [])), (72, .iaload, 1, (0, 0, 0, 0, 0, [])), (73, .if_icmp .ge 7, 3, (80, 0, 0, 0, 0, [])), (76, .iconst 1, 1, (0, 0, 0, 1, 0, []))]),
  (97, [(77, .goto 4, 3, (81, 0, 0, 0, 0, [])), (80, .iconst 0, 1, (0, 0, 0, 0, 0, [])), (81, .istore 6, 2, (6, 0, 0, 0, 0, [])), (83, .iload_n 3, 1, (3, 0, 0, 0, 0, [])), (84, .ifCond .eq 38, 3, (122, 0, 0, 0, 0, [])), (87, .iload 6, 2, (6, 0, 0, 0, 0, [])), (89, .ifCond .eq 33, 3, (122, 0, 0, 0, 0, [])), (92, .aload_n 0, 1, (0, 0, 0, 0, 0, [])), (93, .getfield 22, 3, (9, 8, 2, 0, 0, [])), (96, .aload_n 0, 1, (0, 0, 0, 0, 0, []))]),
  (115, [(97, .getfield 35, 3, (9, 14, 2, 0, 0, [])), (100, .iload 5, 2, (5, 0, 0, 0, 0, [])), (102, .iaload, 1, (0, 0, 0, 0, 0, [])), (103, .iconst 0, 1, (0, 0, 0, 0, 0, [])), (104, .invokestatic 155, 3, (156, 2, 1, 0, 0, [])), (107, .iaload, 1, (0, 0, 0, 0, 0, [])), (108, .aload_n 0, 1, (0, 0, 0, 0, 0, [])), (109, .getfield 38, 3, (9, 15, 2, 0, 0, [])), (112, .iload 5, 2, (5, 0, 0, 0, 0, [])), (114, .iaload, 1, (0, 0, 0, 0, 0, []))]),
  (134, [(115, .if_icmp .ne 7, 3, (122, 0, 0, 0, 0, [])), (118, .iconst 1, 1, (0, 0, 0, 1, 0, [])), (119, .goto 4, 3, (123, 0, 0, 0, 0, [])), (122, .iconst 0, 1, (0, 0, 0, 0, 0, [])), (123, .istore 7, 2, (7, 0, 0, 0, 0, [])), (125, .iload 4, 2, (4, 0, 0, 0, 0, [])), (127, .ifCond .eq 28, 3, (155, 0, 0, 0, 0, [])), (130, .iload 7, 2, (7, 0, 0, 0, 0, [])), (132, .aload_n 0, 1, (0, 0, 0, 0, 0, [])), (133, .getfield 41, 3, (9, 16, 2, 0, 0, []))]),
  (153, [(136, .iload 5, 2, (5, 0, 0, 0, 0, [])), (138, .iaload, 1, (0, 0, 0, 0, 0, [])), (139, .iconst 1, 1, (0, 0, 0, 1, 0, [])), (140, .if_icmp .ne 7, 3, (147, 0, 0, 0, 0, [])), (143, .iconst 1, 1, (0, 0, 0, 1, 0, [])), (144, .goto 4, 3, (148, 0, 0, 0, 0, [])), (147, .iconst 0, 1, (0, 0, 0, 0, 0, [])), (148, .if_icmp .ne 7, 3, (155, 0, 0, 0, 0, [])), (151, .iconst 1, 1, (0, 0, 0, 1, 0, [])), (152, .goto 4, 3, (156, 0, 0, 0, 0, []))]),
  (167, [(155, .iconst 0, 1, (0, 0, 0, 0, 0, [])), (156, .istore 4, 2, (4, 0, 0, 0, 0, [])), (158, .iinc 5 1, 3, (5, 0, 0, 1, 0, [])), (161, .goto (-126), 3, (35, 0, 0, 0, 0, [])), (164, .iload 4, 2, (4, 0, 0, 0, 0, [])), (166, .ireturn, 1, (0, 0, 0, 0, 0, []))])]
def zt_X9_which : List (Nat × List zv_E) := [
  (8, [(0, .aload_n 0, 1, (0, 0, 0, 0, 0, [])), (1, .iconst 0, 1, (0, 0, 0, 0, 0, [])), (2, .putfield 72, 3, (9, 0, 0, 0, 0, [])), (5, .iconst 0, 1, (0, 0, 0, 0, 0, [])), (6, .istore_n 1, 1, (1, 0, 0, 0, 0, [])), (7, .iconst 0, 1, (0, 0, 0, 0, 0, []))]),
  (16, [(8, .istore_n 2, 1, (2, 0, 0, 0, 0, [])), (9, .iload_n 2, 1, (2, 0, 0, 0, 0, [])), (10, .aload_n 0, 1, (0, 0, 0, 0, 0, [])), (11, .getfield 16, 3, (9, 6, 2, 0, 0, [])), (14, .iconst 1, 1, (0, 0, 0, 1, 0, [])), (15, .iaload, 1, (0, 0, 0, 0, 0, []))]),
  (26, [(16, .if_icmp .ge 27, 3, (43, 0, 0, 0, 0, [])), (19, .iload_n 1, 1, (1, 0, 0, 0, 0, [])), (20, .aload_n 0, 1, (0, 0, 0, 0, 0, [])), (21, .iload_n 2, 1, (2, 0, 0, 0, 0, [])), (22, .invokevirtual 280, 3, (202, 2, 1, 0, 0, [])), (25, .ifCond .eq 9, 3, (34, 0, 0, 0, 0, []))]),
  (36, [(28, .iconst 1, 1, (0, 0, 0, 1, 0, [])), (29, .iload_n 2, 1, (2, 0, 0, 0, 0, [])), (30, .ishl, 1, (0, 0, 0, 0, 0, [])), (31, .goto 4, 3, (35, 0, 0, 0, 0, [])), (34, .iconst 0, 1, (0, 0, 0, 0, 0, [])), (35, .ior, 1, (0, 0, 0, 0, 0, []))]),
  (45, [(36, .istore_n 1, 1, (1, 0, 0, 0, 0, [])), (37, .iinc 2 1, 3, (2, 0, 0, 1, 0, [])), (40, .goto (-31), 3, (9, 0, 0, 0, 0, [])), (43, .iload_n 1, 1, (1, 0, 0, 0, 0, [])), (44, .ireturn, 1, (0, 0, 0, 0, 0, []))])]
def zt_X9_divisor : List (Nat × List zv_E) := [
  (10, [(0, .iload_n 0, 1, (0, 0, 0, 0, 0, [])), (1, .ifCond .ge 8, 3, (9, 0, 0, 0, 0, [])), (4, .iload_n 0, 1, (0, 0, 0, 0, 0, [])), (5, .ineg, 1, (0, 0, 0, 0, 0, [])), (6, .goto 4, 3, (10, 0, 0, 0, 0, [])), (9, .iload_n 0, 1, (0, 0, 0, 0, 0, []))]),
  (18, [(10, .istore_n 2, 1, (2, 0, 0, 0, 0, [])), (11, .iload_n 1, 1, (1, 0, 0, 0, 0, [])), (12, .istore_n 3, 1, (3, 0, 0, 0, 0, [])), (13, .iload_n 3, 1, (3, 0, 0, 0, 0, [])), (14, .ifCond .eq 16, 3, (30, 0, 0, 0, 0, [])), (17, .iload_n 2, 1, (2, 0, 0, 0, 0, []))]),
  (25, [(18, .iload_n 3, 1, (3, 0, 0, 0, 0, [])), (19, .irem, 1, (0, 0, 0, 0, 0, [])), (20, .istore 4, 2, (4, 0, 0, 0, 0, [])), (22, .iload_n 3, 1, (3, 0, 0, 0, 0, [])), (23, .istore_n 2, 1, (2, 0, 0, 0, 0, [])), (24, .iload 4, 2, (4, 0, 0, 0, 0, []))]),
  (32, [(26, .istore_n 3, 1, (3, 0, 0, 0, 0, [])), (27, .goto (-14), 3, (13, 0, 0, 0, 0, [])), (30, .iload_n 2, 1, (2, 0, 0, 0, 0, [])), (31, .ireturn, 1, (0, 0, 0, 0, 0, []))])]
def zt_X9_fraction : List (Nat × List zv_E) := [
  (8, [(0, .iload_n 0, 1, (0, 0, 0, 0, 0, [])), (1, .iload_n 1, 1, (1, 0, 0, 0, 0, [])), (2, .invokestatic 283, 3, (204, 2, 1, 0, 0, [])), (5, .istore_n 3, 1, (3, 0, 0, 0, 0, [])), (6, .iload_n 2, 1, (2, 0, 0, 0, 0, [])), (7, .ifCond .eq 9, 3, (16, 0, 0, 0, 0, []))]),
  (18, [(10, .iload_n 0, 1, (0, 0, 0, 0, 0, [])), (11, .iload_n 3, 1, (3, 0, 0, 0, 0, [])), (12, .idiv, 1, (0, 0, 0, 0, 0, [])), (13, .goto 6, 3, (19, 0, 0, 0, 0, [])), (16, .iload_n 1, 1, (1, 0, 0, 0, 0, [])), (17, .iload_n 3, 1, (3, 0, 0, 0, 0, []))]),
  (20, [(18, .idiv, 1, (0, 0, 0, 0, 0, [])), (19, .ireturn, 1, (0, 0, 0, 0, 0, []))])]
def zt_X9_factorial : List (Nat × List zv_E) := [
  (6, [(0, .iconst 1, 1, (0, 0, 0, 1, 0, [])), (1, .istore_n 1, 1, (1, 0, 0, 0, 0, [])), (2, .iconst 2, 1, (0, 0, 0, 2, 0, [])), (3, .istore_n 2, 1, (2, 0, 0, 0, 0, [])), (4, .iload_n 2, 1, (2, 0, 0, 0, 0, [])), (5, .iload_n 0, 1, (0, 0, 0, 0, 0, []))]),
  (14, [(6, .if_icmp .gt 13, 3, (19, 0, 0, 0, 0, [])), (9, .iload_n 1, 1, (1, 0, 0, 0, 0, [])), (10, .iload_n 2, 1, (2, 0, 0, 0, 0, [])), (11, .imul, 1, (0, 0, 0, 0, 0, [])), (12, .istore_n 1, 1, (1, 0, 0, 0, 0, [])), (13, .iinc 2 1, 3, (2, 0, 0, 1, 0, []))]),
  (21, [(16, .goto (-12), 3, (4, 0, 0, 0, 0, [])), (19, .iload_n 1, 1, (1, 0, 0, 0, 0, [])), (20, .ireturn, 1, (0, 0, 0, 0, 0, []))])]
def zt_X9_unlikeBy : List (Nat × List zv_E) := [
  (9, [(0, .aload_n 0, 1, (0, 0, 0, 0, 0, [])), (1, .iload_n 1, 1, (1, 0, 0, 0, 0, [])), (2, .aload_n 0, 1, (0, 0, 0, 0, 0, [])), (3, .getfield 16, 3, (9, 6, 2, 0, 0, [])), (6, .iconst 3, 1, (0, 0, 0, 3, 0, [])), (7, .iaload, 1, (0, 0, 0, 0, 0, [])), (8, .invokevirtual 263, 3, (190, 3, 1, 0, 0, []))]),
  (20, [(11, .ifCond .ne 5, 3, (16, 0, 0, 0, 0, [])), (14, .iconst 0, 1, (0, 0, 0, 0, 0, [])), (15, .ireturn, 1, (0, 0, 0, 0, 0, [])), (16, .iconst 0, 1, (0, 0, 0, 0, 0, [])), (17, .istore_n 2, 1, (2, 0, 0, 0, 0, [])), (18, .iconst 0, 1, (0, 0, 0, 0, 0, [])), (19, .istore_n 3, 1, (3, 0, 0, 0, 0, []))]),
  (31, [(20, .iload_n 3, 1, (3, 0, 0, 0, 0, [])), (21, .aload_n 0, 1, (0, 0, 0, 0, 0, [])), (22, .getfield 16, 3, (9, 6, 2, 0, 0, [])), (25, .iconst 0, 1, (0, 0, 0, 0, 0, [])), (26, .iaload, 1, (0, 0, 0, 0, 0, [])), (27, .if_icmp .ge 39, 3, (66, 0, 0, 0, 0, [])), (30, .aload_n 0, 1, (0, 0, 0, 0, 0, []))]),
  (43, [(31, .getfield 22, 3, (9, 8, 2, 0, 0, [])), (34, .iload_n 3, 1, (3, 0, 0, 0, 0, [])), (35, .iconst 0, 1, (0, 0, 0, 0, 0, [])), (36, .invokestatic 155, 3, (156, 2, 1, 0, 0, [])), (39, .iaload, 1, (0, 0, 0, 0, 0, [])), (40, .istore 4, 2, (4, 0, 0, 0, 0, [])), (42, .iload_n 2, 1, (2, 0, 0, 0, 0, []))]),
  (56, [(43, .iload 4, 2, (4, 0, 0, 0, 0, [])), (45, .bipush (-9), 2, (0, 0, 0, (-9), 0, [])), (47, .if_icmp .ne 7, 3, (54, 0, 0, 0, 0, [])), (50, .iconst 0, 1, (0, 0, 0, 0, 0, [])), (51, .goto 7, 3, (58, 0, 0, 0, 0, [])), (54, .iconst 1, 1, (0, 0, 0, 1, 0, [])), (55, .iload 4, 2, (4, 0, 0, 0, 0, []))]),
  (68, [(57, .ishl, 1, (0, 0, 0, 0, 0, [])), (58, .ior, 1, (0, 0, 0, 0, 0, [])), (59, .istore_n 2, 1, (2, 0, 0, 0, 0, [])), (60, .iinc 3 1, 3, (3, 0, 0, 1, 0, [])), (63, .goto (-43), 3, (20, 0, 0, 0, 0, [])), (66, .iload_n 2, 1, (2, 0, 0, 0, 0, [])), (67, .invokestatic 158, 3, (131, 1, 1, 0, 0, []))]),
  (71, [(70, .ireturn, 1, (0, 0, 0, 0, 0, []))])]
def zt_X9_share : List (Nat × List zv_E) := [
  (16, [(0, .aload_n 0, 1, (0, 0, 0, 0, 0, [])), (1, .iconst 0, 1, (0, 0, 0, 0, 0, [])), (2, .putfield 72, 3, (9, 0, 0, 0, 0, [])), (5, .aload_n 0, 1, (0, 0, 0, 0, 0, [])), (6, .iload_n 1, 1, (1, 0, 0, 0, 0, [])), (7, .invokevirtual 146, 3, (136, 2, 1, 0, 0, [])), (10, .ifCond .eq 5, 3, (15, 0, 0, 0, 0, [])), (13, .iconst (-1), 1, (0, 0, 0, (-1), 0, [])), (14, .ireturn, 1, (0, 0, 0, 0, 0, [])), (15, .aload_n 0, 1, (0, 0, 0, 0, 0, []))]),
  (30, [(16, .getfield 16, 3, (9, 6, 2, 0, 0, [])), (19, .iconst 1, 1, (0, 0, 0, 1, 0, [])), (20, .iaload, 1, (0, 0, 0, 0, 0, [])), (21, .istore_n 3, 1, (3, 0, 0, 0, 0, [])), (22, .iconst 0, 1, (0, 0, 0, 0, 0, [])), (23, .istore 4, 2, (4, 0, 0, 0, 0, [])), (25, .iload 4, 2, (4, 0, 0, 0, 0, [])), (27, .iconst 1, 1, (0, 0, 0, 1, 0, [])), (28, .iload_n 3, 1, (3, 0, 0, 0, 0, [])), (29, .ishl, 1, (0, 0, 0, 0, 0, []))]),
  (50, [(30, .if_icmp .ge 22, 3, (52, 0, 0, 0, 0, [])), (33, .aload_n 0, 1, (0, 0, 0, 0, 0, [])), (34, .getfield 65, 3, (9, 28, 2, 0, 0, [])), (37, .iload 4, 2, (4, 0, 0, 0, 0, [])), (39, .aload_n 0, 1, (0, 0, 0, 0, 0, [])), (40, .iload 4, 2, (4, 0, 0, 0, 0, [])), (42, .invokevirtual 286, 3, (207, 2, 1, 0, 0, [])), (45, .iastore, 1, (0, 0, 0, 0, 0, [])), (46, .iinc 4 1, 3, (4, 0, 0, 1, 0, [])), (49, .goto (-24), 3, (25, 0, 0, 0, 0, []))]),
  (67, [(52, .iconst 0, 1, (0, 0, 0, 0, 0, [])), (53, .istore 4, 2, (4, 0, 0, 0, 0, [])), (55, .iconst 0, 1, (0, 0, 0, 0, 0, [])), (56, .istore 5, 2, (5, 0, 0, 0, 0, [])), (58, .iload 5, 2, (5, 0, 0, 0, 0, [])), (60, .iconst 1, 1, (0, 0, 0, 1, 0, [])), (61, .iload_n 3, 1, (3, 0, 0, 0, 0, [])), (62, .ishl, 1, (0, 0, 0, 0, 0, [])), (63, .if_icmp .ge 69, 3, (132, 0, 0, 0, 0, [])), (66, .iload 5, 2, (5, 0, 0, 0, 0, []))]),
  (89, [(68, .invokestatic 158, 3, (131, 1, 1, 0, 0, [])), (71, .istore 6, 2, (6, 0, 0, 0, 0, [])), (73, .iload 4, 2, (4, 0, 0, 0, 0, [])), (75, .iload 5, 2, (5, 0, 0, 0, 0, [])), (77, .iload_n 1, 1, (1, 0, 0, 0, 0, [])), (78, .invokestatic 162, 3, (130, 2, 1, 0, 0, [])), (81, .ifCond .eq 7, 3, (88, 0, 0, 0, 0, [])), (84, .iconst 0, 1, (0, 0, 0, 0, 0, [])), (85, .goto 38, 3, (123, 0, 0, 0, 0, [])), (88, .iload 6, 2, (6, 0, 0, 0, 0, []))]),
  (105, [(90, .invokestatic 289, 3, (206, 1, 1, 0, 0, [])), (93, .iload_n 3, 1, (3, 0, 0, 0, 0, [])), (94, .iconst 1, 1, (0, 0, 0, 1, 0, [])), (95, .isub, 1, (0, 0, 0, 0, 0, [])), (96, .iload 6, 2, (6, 0, 0, 0, 0, [])), (98, .isub, 1, (0, 0, 0, 0, 0, [])), (99, .invokestatic 289, 3, (206, 1, 1, 0, 0, [])), (102, .imul, 1, (0, 0, 0, 0, 0, [])), (103, .aload_n 0, 1, (0, 0, 0, 0, 0, [])), (104, .getfield 65, 3, (9, 28, 2, 0, 0, []))]),
  (121, [(107, .iload 5, 2, (5, 0, 0, 0, 0, [])), (109, .iconst 1, 1, (0, 0, 0, 1, 0, [])), (110, .iload_n 1, 1, (1, 0, 0, 0, 0, [])), (111, .ishl, 1, (0, 0, 0, 0, 0, [])), (112, .ior, 1, (0, 0, 0, 0, 0, [])), (113, .iaload, 1, (0, 0, 0, 0, 0, [])), (114, .aload_n 0, 1, (0, 0, 0, 0, 0, [])), (115, .getfield 65, 3, (9, 28, 2, 0, 0, [])), (118, .iload 5, 2, (5, 0, 0, 0, 0, [])), (120, .iaload, 1, (0, 0, 0, 0, 0, []))]),
  (139, [(121, .isub, 1, (0, 0, 0, 0, 0, [])), (122, .imul, 1, (0, 0, 0, 0, 0, [])), (123, .iadd, 1, (0, 0, 0, 0, 0, [])), (124, .istore 4, 2, (4, 0, 0, 0, 0, [])), (126, .iinc 5 1, 3, (5, 0, 0, 1, 0, [])), (129, .goto (-71), 3, (58, 0, 0, 0, 0, [])), (132, .iload 4, 2, (4, 0, 0, 0, 0, [])), (134, .iload_n 3, 1, (3, 0, 0, 0, 0, [])), (135, .invokestatic 289, 3, (206, 1, 1, 0, 0, [])), (138, .iload_n 2, 1, (2, 0, 0, 0, 0, []))]),
  (143, [(139, .invokestatic 292, 3, (205, 3, 1, 0, 0, [])), (142, .ireturn, 1, (0, 0, 0, 0, 0, []))])]
def zt_X9_lost : List (Nat × List zv_E) := [
  (12, [(0, .aload_n 0, 1, (0, 0, 0, 0, 0, [])), (1, .iconst 0, 1, (0, 0, 0, 0, 0, [])), (2, .putfield 72, 3, (9, 0, 0, 0, 0, [])), (5, .iload_n 1, 1, (1, 0, 0, 0, 0, [])), (6, .i2l, 1, (0, 0, 0, 0, 0, [])), (7, .lconst 0, 1, (0, 0, 0, 0, 0, [])), (8, .ldc2_w 296, 3, (0, 0, 0, 0, 10, [])), (11, .invokestatic 76, 3, (129, 3, 1, 0, 0, []))]),
  (27, [(14, .ifCond .ne 6, 3, (20, 0, 0, 0, 0, [])), (17, .bipush (-2), 2, (0, 0, 0, (-2), 0, [])), (19, .ireturn, 1, (0, 0, 0, 0, 0, [])), (20, .aload_n 0, 1, (0, 0, 0, 0, 0, [])), (21, .getfield 16, 3, (9, 6, 2, 0, 0, [])), (24, .iconst 1, 1, (0, 0, 0, 1, 0, [])), (25, .iaload, 1, (0, 0, 0, 0, 0, [])), (26, .istore_n 3, 1, (3, 0, 0, 0, 0, []))]),
  (38, [(27, .iconst 0, 1, (0, 0, 0, 0, 0, [])), (28, .istore 4, 2, (4, 0, 0, 0, 0, [])), (30, .iconst 0, 1, (0, 0, 0, 0, 0, [])), (31, .istore 5, 2, (5, 0, 0, 0, 0, [])), (33, .iload 5, 2, (5, 0, 0, 0, 0, [])), (35, .iconst 1, 1, (0, 0, 0, 1, 0, [])), (36, .iload_n 3, 1, (3, 0, 0, 0, 0, [])), (37, .ishl, 1, (0, 0, 0, 0, 0, []))]),
  (54, [(38, .if_icmp .ge 58, 3, (96, 0, 0, 0, 0, [])), (41, .iload 5, 2, (5, 0, 0, 0, 0, [])), (43, .invokestatic 158, 3, (131, 1, 1, 0, 0, [])), (46, .istore 6, 2, (6, 0, 0, 0, 0, [])), (48, .iload 4, 2, (4, 0, 0, 0, 0, [])), (50, .aload_n 0, 1, (0, 0, 0, 0, 0, [])), (51, .iload 5, 2, (5, 0, 0, 0, 0, [])), (53, .aload_n 0, 1, (0, 0, 0, 0, 0, []))]),
  (69, [(54, .getfield 16, 3, (9, 6, 2, 0, 0, [])), (57, .iconst 3, 1, (0, 0, 0, 3, 0, [])), (58, .iaload, 1, (0, 0, 0, 0, 0, [])), (59, .invokevirtual 263, 3, (190, 3, 1, 0, 0, [])), (62, .ifCond .eq 24, 3, (86, 0, 0, 0, 0, [])), (65, .bipush 10, 2, (0, 0, 0, 10, 0, [])), (67, .iload_n 1, 1, (1, 0, 0, 0, 0, [])), (68, .isub, 1, (0, 0, 0, 0, 0, []))]),
  (83, [(69, .iload 6, 2, (6, 0, 0, 0, 0, [])), (71, .invokestatic 254, 3, (132, 2, 1, 0, 0, [])), (74, .iload_n 1, 1, (1, 0, 0, 0, 0, [])), (75, .iload_n 3, 1, (3, 0, 0, 0, 0, [])), (76, .iload 6, 2, (6, 0, 0, 0, 0, [])), (78, .isub, 1, (0, 0, 0, 0, 0, [])), (79, .invokestatic 254, 3, (132, 2, 1, 0, 0, [])), (82, .imul, 1, (0, 0, 0, 0, 0, []))]),
  (99, [(83, .goto 4, 3, (87, 0, 0, 0, 0, [])), (86, .iconst 0, 1, (0, 0, 0, 0, 0, [])), (87, .iadd, 1, (0, 0, 0, 0, 0, [])), (88, .istore 4, 2, (4, 0, 0, 0, 0, [])), (90, .iinc 5 1, 3, (5, 0, 0, 1, 0, [])), (93, .goto (-60), 3, (33, 0, 0, 0, 0, [])), (96, .iload 4, 2, (4, 0, 0, 0, 0, [])), (98, .bipush 10, 2, (0, 0, 0, 10, 0, []))]),
  (109, [(100, .iload_n 3, 1, (3, 0, 0, 0, 0, [])), (101, .invokestatic 254, 3, (132, 2, 1, 0, 0, [])), (104, .iload_n 2, 1, (2, 0, 0, 0, 0, [])), (105, .invokestatic 292, 3, (205, 3, 1, 0, 0, [])), (108, .ireturn, 1, (0, 0, 0, 0, 0, []))])]
def zt_X9_seed : List (Nat × List zv_E) := [
  (10, [(0, .aload_n 0, 1, (0, 0, 0, 0, 0, [])), (1, .iconst 0, 1, (0, 0, 0, 0, 0, [])), (2, .putfield 72, 3, (9, 0, 0, 0, 0, [])), (5, .aload_n 0, 1, (0, 0, 0, 0, 0, [])), (6, .getfield 298, 3, (9, 17, 1, 0, 0, [])), (9, .lstore_n 3, 1, (3, 0, 0, 0, 0, []))]),
  (17, [(10, .aload_n 0, 1, (0, 0, 0, 0, 0, [])), (11, .lload_n 1, 1, (1, 0, 0, 0, 0, [])), (12, .putfield 298, 3, (9, 17, 1, 0, 0, [])), (15, .lload_n 3, 1, (3, 0, 0, 0, 0, [])), (16, .lreturn, 1, (0, 0, 0, 0, 0, []))])]
def zt_X9_drawn : List (Nat × List zv_E) := [
  (15, [(0, .aload_n 0, 1, (0, 0, 0, 0, 0, [])), (1, .iconst 0, 1, (0, 0, 0, 0, 0, [])), (2, .putfield 72, 3, (9, 0, 0, 0, 0, [])), (5, .iload_n 1, 1, (1, 0, 0, 0, 0, [])), (6, .i2l, 1, (0, 0, 0, 0, 0, [])), (7, .lconst 1, 1, (0, 0, 0, 0, 1, [])), (8, .ldc2_w 302, 3, (0, 0, 0, 0, 20, [])), (11, .invokestatic 76, 3, (129, 3, 1, 0, 0, [])), (14, .ifCond .ne 6, 3, (20, 0, 0, 0, 0, []))]),
  (33, [(17, .bipush (-2), 2, (0, 0, 0, (-2), 0, [])), (19, .ireturn, 1, (0, 0, 0, 0, 0, [])), (20, .aload_n 0, 1, (0, 0, 0, 0, 0, [])), (21, .getfield 19, 3, (9, 7, 2, 0, 0, [])), (24, .aload_n 0, 1, (0, 0, 0, 0, 0, [])), (25, .getfield 16, 3, (9, 6, 2, 0, 0, [])), (28, .invokestatic 133, 3, (134, 2, 0, 0, 0, [])), (31, .aload_n 0, 1, (0, 0, 0, 0, 0, [])), (32, .aload_n 0, 1, (0, 0, 0, 0, 0, []))]),
  (46, [(33, .getfield 19, 3, (9, 7, 2, 0, 0, [])), (36, .invokevirtual 143, 3, (151, 2, 0, 0, 0, [])), (39, .iconst 0, 1, (0, 0, 0, 0, 0, [])), (40, .istore_n 2, 1, (2, 0, 0, 0, 0, [])), (41, .iconst 0, 1, (0, 0, 0, 0, 0, [])), (42, .istore_n 3, 1, (3, 0, 0, 0, 0, [])), (43, .iload_n 3, 1, (3, 0, 0, 0, 0, [])), (44, .iload_n 1, 1, (1, 0, 0, 0, 0, [])), (45, .if_icmp .ge 85, 3, (130, 0, 0, 0, 0, []))]),
  (65, [(48, .aload_n 0, 1, (0, 0, 0, 0, 0, [])), (49, .aload_n 0, 1, (0, 0, 0, 0, 0, [])), (50, .getfield 298, 3, (9, 17, 1, 0, 0, [])), (53, .ldc2_w 304, 3, (0, 0, 0, 0, 6364136223846793005, [])), (56, .lmul, 1, (0, 0, 0, 0, 0, [])), (57, .ldc2_w 306, 3, (0, 0, 0, 0, 1442695040888963407, [])), (60, .ladd, 1, (0, 0, 0, 0, 0, [])), (61, .putfield 298, 3, (9, 17, 1, 0, 0, [])), (64, .aload_n 0, 1, (0, 0, 0, 0, 0, []))]),
  (79, [(65, .getfield 298, 3, (9, 17, 1, 0, 0, [])), (68, .bipush 33, 2, (0, 0, 0, 33, 0, [])), (70, .lushr, 1, (0, 0, 0, 0, 0, [])), (71, .aload_n 0, 1, (0, 0, 0, 0, 0, [])), (72, .getfield 16, 3, (9, 6, 2, 0, 0, [])), (75, .iconst 0, 1, (0, 0, 0, 0, 0, [])), (76, .iaload, 1, (0, 0, 0, 0, 0, [])), (77, .i2l, 1, (0, 0, 0, 0, 0, [])), (78, .lrem, 1, (0, 0, 0, 0, 0, []))]),
  (94, [(79, .l2i, 1, (0, 0, 0, 0, 0, [])), (80, .istore 4, 2, (4, 0, 0, 0, 0, [])), (82, .aload_n 0, 1, (0, 0, 0, 0, 0, [])), (83, .aload_n 0, 1, (0, 0, 0, 0, 0, [])), (84, .getfield 19, 3, (9, 7, 2, 0, 0, [])), (87, .iload 4, 2, (4, 0, 0, 0, 0, [])), (89, .invokevirtual 209, 3, (168, 3, 1, 0, 0, [])), (92, .pop, 1, (0, 0, 0, 0, 0, [])), (93, .aload_n 0, 1, (0, 0, 0, 0, 0, []))]),
  (110, [(94, .getfield 19, 3, (9, 7, 2, 0, 0, [])), (97, .iload 4, 2, (4, 0, 0, 0, 0, [])), (99, .iconst 0, 1, (0, 0, 0, 0, 0, [])), (100, .invokestatic 155, 3, (156, 2, 1, 0, 0, [])), (103, .iaload, 1, (0, 0, 0, 0, 0, [])), (104, .istore 5, 2, (5, 0, 0, 0, 0, [])), (106, .iload_n 2, 1, (2, 0, 0, 0, 0, [])), (107, .iload 5, 2, (5, 0, 0, 0, 0, [])), (109, .bipush (-9), 2, (0, 0, 0, (-9), 0, []))]),
  (125, [(111, .if_icmp .ne 7, 3, (118, 0, 0, 0, 0, [])), (114, .iconst 0, 1, (0, 0, 0, 0, 0, [])), (115, .goto 7, 3, (122, 0, 0, 0, 0, [])), (118, .iload 5, 2, (5, 0, 0, 0, 0, [])), (120, .iconst 1, 1, (0, 0, 0, 1, 0, [])), (121, .iadd, 1, (0, 0, 0, 0, 0, [])), (122, .iadd, 1, (0, 0, 0, 0, 0, [])), (123, .istore_n 2, 1, (2, 0, 0, 0, 0, [])), (124, .iinc 3 1, 3, (3, 0, 0, 1, 0, []))]),
  (132, [(127, .goto (-84), 3, (43, 0, 0, 0, 0, [])), (130, .iload_n 2, 1, (2, 0, 0, 0, 0, [])), (131, .ireturn, 1, (0, 0, 0, 0, 0, []))])]
def zt_X9_keep : List (Nat × List zv_E) := [
  (9, [(0, .aload_n 0, 1, (0, 0, 0, 0, 0, [])), (1, .iconst 0, 1, (0, 0, 0, 0, 0, [])), (2, .putfield 72, 3, (9, 0, 0, 0, 0, [])), (5, .iload_n 1, 1, (1, 0, 0, 0, 0, [])), (6, .i2l, 1, (0, 0, 0, 0, 0, [])), (7, .lconst 0, 1, (0, 0, 0, 0, 0, [])), (8, .lconst 1, 1, (0, 0, 0, 0, 1, []))]),
  (22, [(9, .invokestatic 76, 3, (129, 3, 1, 0, 0, [])), (12, .ifCond .ne 5, 3, (17, 0, 0, 0, 0, [])), (15, .iconst (-1), 1, (0, 0, 0, (-1), 0, [])), (16, .ireturn, 1, (0, 0, 0, 0, 0, [])), (17, .aload_n 0, 1, (0, 0, 0, 0, 0, [])), (18, .getfield 31, 3, (9, 12, 2, 0, 0, [])), (21, .iload_n 1, 1, (1, 0, 0, 0, 0, []))]),
  (30, [(22, .iconst 1, 1, (0, 0, 0, 1, 0, [])), (23, .bastore, 1, (0, 0, 0, 0, 0, [])), (24, .iconst 0, 1, (0, 0, 0, 0, 0, [])), (25, .istore_n 2, 1, (2, 0, 0, 0, 0, [])), (26, .iload_n 2, 1, (2, 0, 0, 0, 0, [])), (27, .bipush 101, 2, (0, 0, 0, 101, 0, [])), (29, .if_icmp .ge 26, 3, (55, 0, 0, 0, 0, []))]),
  (42, [(32, .aload_n 0, 1, (0, 0, 0, 0, 0, [])), (33, .getfield 28, 3, (9, 11, 2, 0, 0, [])), (36, .bipush 101, 2, (0, 0, 0, 101, 0, [])), (38, .iload_n 1, 1, (1, 0, 0, 0, 0, [])), (39, .imul, 1, (0, 0, 0, 0, 0, [])), (40, .iload_n 2, 1, (2, 0, 0, 0, 0, [])), (41, .iadd, 1, (0, 0, 0, 0, 0, []))]),
  (53, [(42, .aload_n 0, 1, (0, 0, 0, 0, 0, [])), (43, .getfield 16, 3, (9, 6, 2, 0, 0, [])), (46, .iload_n 2, 1, (2, 0, 0, 0, 0, [])), (47, .iaload, 1, (0, 0, 0, 0, 0, [])), (48, .iastore, 1, (0, 0, 0, 0, 0, [])), (49, .iinc 2 1, 3, (2, 0, 0, 1, 0, [])), (52, .goto (-26), 3, (26, 0, 0, 0, 0, []))]),
  (62, [(55, .aload_n 0, 1, (0, 0, 0, 0, 0, [])), (56, .getfield 16, 3, (9, 6, 2, 0, 0, [])), (59, .iconst 0, 1, (0, 0, 0, 0, 0, [])), (60, .iaload, 1, (0, 0, 0, 0, 0, [])), (61, .ireturn, 1, (0, 0, 0, 0, 0, []))])]
def zt_X9_again : List (Nat × List zv_E) := [
  (9, [(0, .aload_n 0, 1, (0, 0, 0, 0, 0, [])), (1, .iconst 0, 1, (0, 0, 0, 0, 0, [])), (2, .putfield 72, 3, (9, 0, 0, 0, 0, [])), (5, .iload_n 1, 1, (1, 0, 0, 0, 0, [])), (6, .i2l, 1, (0, 0, 0, 0, 0, [])), (7, .lconst 0, 1, (0, 0, 0, 0, 0, [])), (8, .lconst 1, 1, (0, 0, 0, 0, 1, []))]),
  (22, [(9, .invokestatic 76, 3, (129, 3, 1, 0, 0, [])), (12, .ifCond .ne 5, 3, (17, 0, 0, 0, 0, [])), (15, .iconst (-1), 1, (0, 0, 0, (-1), 0, [])), (16, .ireturn, 1, (0, 0, 0, 0, 0, [])), (17, .aload_n 0, 1, (0, 0, 0, 0, 0, [])), (18, .getfield 31, 3, (9, 12, 2, 0, 0, [])), (21, .iload_n 1, 1, (1, 0, 0, 0, 0, []))]),
  (32, [(22, .baload, 1, (0, 0, 0, 0, 0, [])), (23, .ifCond .ne 6, 3, (29, 0, 0, 0, 0, [])), (26, .bipush (-3), 2, (0, 0, 0, (-3), 0, [])), (28, .ireturn, 1, (0, 0, 0, 0, 0, [])), (29, .iconst 0, 1, (0, 0, 0, 0, 0, [])), (30, .istore_n 2, 1, (2, 0, 0, 0, 0, [])), (31, .iload_n 2, 1, (2, 0, 0, 0, 0, []))]),
  (44, [(32, .bipush 101, 2, (0, 0, 0, 101, 0, [])), (34, .if_icmp .ge 26, 3, (60, 0, 0, 0, 0, [])), (37, .aload_n 0, 1, (0, 0, 0, 0, 0, [])), (38, .getfield 16, 3, (9, 6, 2, 0, 0, [])), (41, .iload_n 2, 1, (2, 0, 0, 0, 0, [])), (42, .aload_n 0, 1, (0, 0, 0, 0, 0, [])), (43, .getfield 28, 3, (9, 11, 2, 0, 0, []))]),
  (54, [(46, .bipush 101, 2, (0, 0, 0, 101, 0, [])), (48, .iload_n 1, 1, (1, 0, 0, 0, 0, [])), (49, .imul, 1, (0, 0, 0, 0, 0, [])), (50, .iload_n 2, 1, (2, 0, 0, 0, 0, [])), (51, .iadd, 1, (0, 0, 0, 0, 0, [])), (52, .iaload, 1, (0, 0, 0, 0, 0, [])), (53, .iastore, 1, (0, 0, 0, 0, 0, []))]),
  (67, [(54, .iinc 2 1, 3, (2, 0, 0, 1, 0, [])), (57, .goto (-26), 3, (31, 0, 0, 0, 0, [])), (60, .aload_n 0, 1, (0, 0, 0, 0, 0, [])), (61, .iconst 0, 1, (0, 0, 0, 0, 0, [])), (62, .putfield 137, 3, (9, 10, 0, 0, 0, [])), (65, .aload_n 0, 1, (0, 0, 0, 0, 0, [])), (66, .getfield 16, 3, (9, 6, 2, 0, 0, []))]),
  (72, [(69, .iconst 0, 1, (0, 0, 0, 0, 0, [])), (70, .iaload, 1, (0, 0, 0, 0, 0, [])), (71, .ireturn, 1, (0, 0, 0, 0, 0, []))])]
def zt_X9_joined : List (Nat × List zv_E) := [
  (6, [(0, .iconst 0, 1, (0, 0, 0, 0, 0, [])), (1, .istore_n 2, 1, (2, 0, 0, 0, 0, [])), (2, .iconst 0, 1, (0, 0, 0, 0, 0, [])), (3, .istore_n 3, 1, (3, 0, 0, 0, 0, [])), (4, .iload_n 3, 1, (3, 0, 0, 0, 0, [])), (5, .aload_n 0, 1, (0, 0, 0, 0, 0, []))]),
  (16, [(6, .getfield 16, 3, (9, 6, 2, 0, 0, [])), (9, .iconst 0, 1, (0, 0, 0, 0, 0, [])), (10, .iaload, 1, (0, 0, 0, 0, 0, [])), (11, .if_icmp .ge 47, 3, (58, 0, 0, 0, 0, [])), (14, .iconst 0, 1, (0, 0, 0, 0, 0, [])), (15, .istore 4, 2, (4, 0, 0, 0, 0, []))]),
  (26, [(17, .iload 4, 2, (4, 0, 0, 0, 0, [])), (19, .iload_n 3, 1, (3, 0, 0, 0, 0, [])), (20, .if_icmp .ge 32, 3, (52, 0, 0, 0, 0, [])), (23, .iload_n 2, 1, (2, 0, 0, 0, 0, [])), (24, .aload_n 0, 1, (0, 0, 0, 0, 0, [])), (25, .getfield 16, 3, (9, 6, 2, 0, 0, []))]),
  (37, [(28, .iload_n 1, 1, (1, 0, 0, 0, 0, [])), (29, .iload_n 3, 1, (3, 0, 0, 0, 0, [])), (30, .iload 4, 2, (4, 0, 0, 0, 0, [])), (32, .invokestatic 88, 3, (137, 3, 1, 0, 0, [])), (35, .iaload, 1, (0, 0, 0, 0, 0, [])), (36, .ifCond .le 7, 3, (43, 0, 0, 0, 0, []))]),
  (47, [(39, .iconst 1, 1, (0, 0, 0, 1, 0, [])), (40, .goto 4, 3, (44, 0, 0, 0, 0, [])), (43, .iconst 0, 1, (0, 0, 0, 0, 0, [])), (44, .iadd, 1, (0, 0, 0, 0, 0, [])), (45, .istore_n 2, 1, (2, 0, 0, 0, 0, [])), (46, .iinc 4 1, 3, (4, 0, 0, 1, 0, []))]),
  (60, [(49, .goto (-32), 3, (17, 0, 0, 0, 0, [])), (52, .iinc 3 1, 3, (3, 0, 0, 1, 0, [])), (55, .goto (-51), 3, (4, 0, 0, 0, 0, [])), (58, .iload_n 2, 1, (2, 0, 0, 0, 0, [])), (59, .ireturn, 1, (0, 0, 0, 0, 0, []))])]
def zt_X9_withFirst : List (Nat × List zv_E) := [
  (6, [(0, .iconst 0, 1, (0, 0, 0, 0, 0, [])), (1, .istore_n 1, 1, (1, 0, 0, 0, 0, [])), (2, .iconst 0, 1, (0, 0, 0, 0, 0, [])), (3, .istore_n 2, 1, (2, 0, 0, 0, 0, [])), (4, .iload_n 2, 1, (2, 0, 0, 0, 0, [])), (5, .aload_n 0, 1, (0, 0, 0, 0, 0, []))]),
  (16, [(6, .getfield 16, 3, (9, 6, 2, 0, 0, [])), (9, .iconst 0, 1, (0, 0, 0, 0, 0, [])), (10, .iaload, 1, (0, 0, 0, 0, 0, [])), (11, .if_icmp .ge 34, 3, (45, 0, 0, 0, 0, [])), (14, .iload_n 1, 1, (1, 0, 0, 0, 0, [])), (15, .aload_n 0, 1, (0, 0, 0, 0, 0, []))]),
  (26, [(16, .getfield 16, 3, (9, 6, 2, 0, 0, [])), (19, .iload_n 2, 1, (2, 0, 0, 0, 0, [])), (20, .iconst 0, 1, (0, 0, 0, 0, 0, [])), (21, .invokestatic 155, 3, (156, 2, 1, 0, 0, [])), (24, .iaload, 1, (0, 0, 0, 0, 0, [])), (25, .bipush (-9), 2, (0, 0, 0, (-9), 0, []))]),
  (37, [(27, .if_icmp .ne 7, 3, (34, 0, 0, 0, 0, [])), (30, .iconst 0, 1, (0, 0, 0, 0, 0, [])), (31, .goto 6, 3, (37, 0, 0, 0, 0, [])), (34, .iconst 1, 1, (0, 0, 0, 1, 0, [])), (35, .iload_n 2, 1, (2, 0, 0, 0, 0, [])), (36, .ishl, 1, (0, 0, 0, 0, 0, []))]),
  (47, [(37, .ior, 1, (0, 0, 0, 0, 0, [])), (38, .istore_n 1, 1, (1, 0, 0, 0, 0, [])), (39, .iinc 2 1, 3, (2, 0, 0, 1, 0, [])), (42, .goto (-38), 3, (4, 0, 0, 0, 0, [])), (45, .iload_n 1, 1, (1, 0, 0, 0, 0, [])), (46, .ireturn, 1, (0, 0, 0, 0, 0, []))])]
def zt_X9_count : List (Nat × List zv_E) := [
  (69, [(0, .aload_n 0, 1, (0, 0, 0, 0, 0, [])), (1, .iconst 0, 1, (0, 0, 0, 0, 0, [])), (2, .putfield 72, 3, (9, 0, 0, 0, 0, [])), (5, .iload_n 1, 1, (1, 0, 0, 0, 0, [])), (6, .tableswitch 126 0 10 #[58, 63, 70, 76, 83, 90, 97, 104, 111, 116, 121], 58, (132, 0, 0, 0, 0, [(0, 64), (1, 69), (2, 76), (3, 82), (4, 89), (5, 96), (6, 103), (7, 110), (8, 117), (9, 122), (10, 127)])), (64, .aload_n 0, 1, (0, 0, 0, 0, 0, [])), (65, .getfield 82, 3, (9, 2, 0, 0, 0, [])), (68, .ireturn, 1, (0, 0, 0, 0, 0, []))]),
  (79, [(69, .aload_n 0, 1, (0, 0, 0, 0, 0, [])), (70, .getfield 16, 3, (9, 6, 2, 0, 0, [])), (73, .iconst 0, 1, (0, 0, 0, 0, 0, [])), (74, .iaload, 1, (0, 0, 0, 0, 0, [])), (75, .ireturn, 1, (0, 0, 0, 0, 0, [])), (76, .aload_n 0, 1, (0, 0, 0, 0, 0, [])), (77, .iconst 5, 1, (0, 0, 0, 5, 0, [])), (78, .invokevirtual 308, 3, (214, 2, 1, 0, 0, []))]),
  (94, [(81, .ireturn, 1, (0, 0, 0, 0, 0, [])), (82, .aload_n 0, 1, (0, 0, 0, 0, 0, [])), (83, .bipush 30, 2, (0, 0, 0, 30, 0, [])), (85, .invokevirtual 308, 3, (214, 2, 1, 0, 0, [])), (88, .ireturn, 1, (0, 0, 0, 0, 0, [])), (89, .aload_n 0, 1, (0, 0, 0, 0, 0, [])), (90, .getfield 16, 3, (9, 6, 2, 0, 0, [])), (93, .iconst 1, 1, (0, 0, 0, 1, 0, []))]),
  (104, [(94, .iaload, 1, (0, 0, 0, 0, 0, [])), (95, .ireturn, 1, (0, 0, 0, 0, 0, [])), (96, .aload_n 0, 1, (0, 0, 0, 0, 0, [])), (97, .getfield 16, 3, (9, 6, 2, 0, 0, [])), (100, .iconst 2, 1, (0, 0, 0, 2, 0, [])), (101, .iaload, 1, (0, 0, 0, 0, 0, [])), (102, .ireturn, 1, (0, 0, 0, 0, 0, [])), (103, .aload_n 0, 1, (0, 0, 0, 0, 0, []))]),
  (116, [(104, .getfield 16, 3, (9, 6, 2, 0, 0, [])), (107, .iconst 3, 1, (0, 0, 0, 3, 0, [])), (108, .iaload, 1, (0, 0, 0, 0, 0, [])), (109, .ireturn, 1, (0, 0, 0, 0, 0, [])), (110, .aload_n 0, 1, (0, 0, 0, 0, 0, [])), (111, .getfield 16, 3, (9, 6, 2, 0, 0, [])), (114, .iconst 4, 1, (0, 0, 0, 4, 0, [])), (115, .iaload, 1, (0, 0, 0, 0, 0, []))]),
  (128, [(116, .ireturn, 1, (0, 0, 0, 0, 0, [])), (117, .aload_n 0, 1, (0, 0, 0, 0, 0, [])), (118, .invokevirtual 311, 3, (215, 1, 1, 0, 0, [])), (121, .ireturn, 1, (0, 0, 0, 0, 0, [])), (122, .aload_n 0, 1, (0, 0, 0, 0, 0, [])), (123, .getfield 137, 3, (9, 10, 0, 0, 0, [])), (126, .ireturn, 1, (0, 0, 0, 0, 0, [])), (127, .aload_n 0, 1, (0, 0, 0, 0, 0, []))]),
  (135, [(128, .getfield 277, 3, (9, 13, 0, 0, 0, [])), (131, .ireturn, 1, (0, 0, 0, 0, 0, [])), (132, .bipush (-2), 2, (0, 0, 0, (-2), 0, [])), (134, .ireturn, 1, (0, 0, 0, 0, 0, []))])]
def zt_L_law : List (Nat × List zv_E) := [
  (190, [(0, .new 7, 3, (8, 11, 0, 0, 0, [])), (3, .dup, 1, (0, 0, 0, 0, 0, [])), (4, .invokespecial 9, 3, (80, 1, 0, 0, 0, [])), (7, .astore_n 1, 1, (1, 0, 0, 0, 0, [])), (8, .new 10, 3, (9, 32, 0, 0, 0, [])), (11, .dup, 1, (0, 0, 0, 0, 0, [])), (12, .invokespecial 12, 3, (128, 1, 0, 0, 0, [])), (15, .astore_n 2, 1, (2, 0, 0, 0, 0, [])), (16, .iconst 0, 1, (0, 0, 0, 0, 0, [])), (17, .istore_n 3, 1, (3, 0, 0, 0, 0, [])), (18, .iload_n 3, 1, (3, 0, 0, 0, 0, [])), (19, .aload_n 0, 1, (0, 0, 0, 0, 0, [])), (20, .arraylength, 1, (0, 0, 0, 0, 0, [])), (21, .iconst 4, 1, (0, 0, 0, 4, 0, [])), (22, .isub, 1, (0, 0, 0, 0, 0, [])), (23, .if_icmp .gt 1142, 3, (1165, 0, 0, 0, 0, [])), (26, .aload_n 0, 1, (0, 0, 0, 0, 0, [])), (27, .iload_n 3, 1, (3, 0, 0, 0, 0, [])), (28, .iaload, 1, (0, 0, 0, 0, 0, [])), (29, .bipush 63, 2, (0, 0, 0, 63, 0, [])), (31, .iand, 1, (0, 0, 0, 0, 0, [])), (32, .tableswitch 1127 0 33 #[152, 175, 188, 201, 214, 257, 290, 323, 346, 359, 402, 425, 458, 481, 504, 517, 560, 583, 616, 639, 672, 705, 728, 751, 814, 857, 870, 883, 932, 981, 1035, 1058, 1081, 1104], 152, (1159, 0, 0, 0, 0, [(0, 184), (1, 207), (2, 220), (3, 233), (4, 246), (5, 289), (6, 322), (7, 355), (8, 378), (9, 391), (10, 434), (11, 457), (12, 490), (13, 513), (14, 536), (15, 549), (16, 592), (17, 615), (18, 648), (19, 671), (20, 704), (21, 737), (22, 760), (23, 783), (24, 846), (25, 889), (26, 902), (27, 915), (28, 964), (29, 1013), (30, 1067), (31, 1090), (32, 1113), (33, 1136)])), (184, .aload_n 1, 1, (1, 0, 0, 0, 0, [])), (185, .aload_n 0, 1, (0, 0, 0, 0, 0, [])), (186, .iload_n 3, 1, (3, 0, 0, 0, 0, [])), (187, .iconst 1, 1, (0, 0, 0, 1, 0, [])), (188, .iadd, 1, (0, 0, 0, 0, 0, [])), (189, .iaload, 1, (0, 0, 0, 0, 0, []))]),
  (238, [(190, .invokevirtual 13, 3, (81, 2, 1, 0, 0, [])), (193, .aload_n 2, 1, (2, 0, 0, 0, 0, [])), (194, .aload_n 0, 1, (0, 0, 0, 0, 0, [])), (195, .iload_n 3, 1, (3, 0, 0, 0, 0, [])), (196, .iconst 1, 1, (0, 0, 0, 1, 0, [])), (197, .iadd, 1, (0, 0, 0, 0, 0, [])), (198, .iaload, 1, (0, 0, 0, 0, 0, [])), (199, .invokevirtual 17, 3, (138, 2, 1, 0, 0, [])), (202, .if_icmp .eq 957, 3, (1159, 0, 0, 0, 0, [])), (205, .iconst 0, 1, (0, 0, 0, 0, 0, [])), (206, .ireturn, 1, (0, 0, 0, 0, 0, [])), (207, .aload_n 1, 1, (1, 0, 0, 0, 0, [])), (208, .invokevirtual 18, 3, (82, 1, 1, 0, 0, [])), (211, .aload_n 2, 1, (2, 0, 0, 0, 0, [])), (212, .invokevirtual 22, 3, (139, 1, 1, 0, 0, [])), (215, .if_icmp .eq 944, 3, (1159, 0, 0, 0, 0, [])), (218, .iconst 0, 1, (0, 0, 0, 0, 0, [])), (219, .ireturn, 1, (0, 0, 0, 0, 0, [])), (220, .aload_n 1, 1, (1, 0, 0, 0, 0, [])), (221, .invokevirtual 23, 3, (83, 1, 1, 0, 0, [])), (224, .aload_n 2, 1, (2, 0, 0, 0, 0, [])), (225, .invokevirtual 26, 3, (149, 1, 1, 0, 0, [])), (228, .if_icmp .eq 931, 3, (1159, 0, 0, 0, 0, [])), (231, .iconst 0, 1, (0, 0, 0, 0, 0, [])), (232, .ireturn, 1, (0, 0, 0, 0, 0, [])), (233, .aload_n 1, 1, (1, 0, 0, 0, 0, [])), (234, .invokevirtual 27, 3, (84, 1, 1, 0, 0, [])), (237, .aload_n 2, 1, (2, 0, 0, 0, 0, []))]),
  (272, [(238, .invokevirtual 30, 3, (150, 1, 1, 0, 0, [])), (241, .if_icmp .eq 918, 3, (1159, 0, 0, 0, 0, [])), (244, .iconst 0, 1, (0, 0, 0, 0, 0, [])), (245, .ireturn, 1, (0, 0, 0, 0, 0, [])), (246, .aload_n 1, 1, (1, 0, 0, 0, 0, [])), (247, .aload_n 0, 1, (0, 0, 0, 0, 0, [])), (248, .iload_n 3, 1, (3, 0, 0, 0, 0, [])), (249, .iconst 1, 1, (0, 0, 0, 1, 0, [])), (250, .iadd, 1, (0, 0, 0, 0, 0, [])), (251, .iaload, 1, (0, 0, 0, 0, 0, [])), (252, .aload_n 0, 1, (0, 0, 0, 0, 0, [])), (253, .iload_n 3, 1, (3, 0, 0, 0, 0, [])), (254, .iconst 2, 1, (0, 0, 0, 2, 0, [])), (255, .iadd, 1, (0, 0, 0, 0, 0, [])), (256, .iaload, 1, (0, 0, 0, 0, 0, [])), (257, .aload_n 0, 1, (0, 0, 0, 0, 0, [])), (258, .iload_n 3, 1, (3, 0, 0, 0, 0, [])), (259, .iconst 3, 1, (0, 0, 0, 3, 0, [])), (260, .iadd, 1, (0, 0, 0, 0, 0, [])), (261, .iaload, 1, (0, 0, 0, 0, 0, [])), (262, .invokevirtual 31, 3, (85, 4, 1, 0, 0, [])), (265, .aload_n 2, 1, (2, 0, 0, 0, 0, [])), (266, .aload_n 0, 1, (0, 0, 0, 0, 0, [])), (267, .iload_n 3, 1, (3, 0, 0, 0, 0, [])), (268, .iconst 1, 1, (0, 0, 0, 1, 0, [])), (269, .iadd, 1, (0, 0, 0, 0, 0, [])), (270, .iaload, 1, (0, 0, 0, 0, 0, [])), (271, .aload_n 0, 1, (0, 0, 0, 0, 0, []))]),
  (306, [(272, .iload_n 3, 1, (3, 0, 0, 0, 0, [])), (273, .iconst 2, 1, (0, 0, 0, 2, 0, [])), (274, .iadd, 1, (0, 0, 0, 0, 0, [])), (275, .iaload, 1, (0, 0, 0, 0, 0, [])), (276, .aload_n 0, 1, (0, 0, 0, 0, 0, [])), (277, .iload_n 3, 1, (3, 0, 0, 0, 0, [])), (278, .iconst 3, 1, (0, 0, 0, 3, 0, [])), (279, .iadd, 1, (0, 0, 0, 0, 0, [])), (280, .iaload, 1, (0, 0, 0, 0, 0, [])), (281, .invokevirtual 35, 3, (152, 4, 1, 0, 0, [])), (284, .if_icmp .eq 875, 3, (1159, 0, 0, 0, 0, [])), (287, .iconst 0, 1, (0, 0, 0, 0, 0, [])), (288, .ireturn, 1, (0, 0, 0, 0, 0, [])), (289, .aload_n 1, 1, (1, 0, 0, 0, 0, [])), (290, .aload_n 0, 1, (0, 0, 0, 0, 0, [])), (291, .iload_n 3, 1, (3, 0, 0, 0, 0, [])), (292, .iconst 1, 1, (0, 0, 0, 1, 0, [])), (293, .iadd, 1, (0, 0, 0, 0, 0, [])), (294, .iaload, 1, (0, 0, 0, 0, 0, [])), (295, .aload_n 0, 1, (0, 0, 0, 0, 0, [])), (296, .iload_n 3, 1, (3, 0, 0, 0, 0, [])), (297, .iconst 2, 1, (0, 0, 0, 2, 0, [])), (298, .iadd, 1, (0, 0, 0, 0, 0, [])), (299, .iaload, 1, (0, 0, 0, 0, 0, [])), (300, .invokevirtual 36, 3, (86, 3, 1, 0, 0, [])), (303, .aload_n 2, 1, (2, 0, 0, 0, 0, [])), (304, .aload_n 0, 1, (0, 0, 0, 0, 0, [])), (305, .iload_n 3, 1, (3, 0, 0, 0, 0, []))]),
  (340, [(306, .iconst 1, 1, (0, 0, 0, 1, 0, [])), (307, .iadd, 1, (0, 0, 0, 0, 0, [])), (308, .iaload, 1, (0, 0, 0, 0, 0, [])), (309, .aload_n 0, 1, (0, 0, 0, 0, 0, [])), (310, .iload_n 3, 1, (3, 0, 0, 0, 0, [])), (311, .iconst 2, 1, (0, 0, 0, 2, 0, [])), (312, .iadd, 1, (0, 0, 0, 0, 0, [])), (313, .iaload, 1, (0, 0, 0, 0, 0, [])), (314, .invokevirtual 40, 3, (153, 3, 1, 0, 0, [])), (317, .if_icmp .eq 842, 3, (1159, 0, 0, 0, 0, [])), (320, .iconst 0, 1, (0, 0, 0, 0, 0, [])), (321, .ireturn, 1, (0, 0, 0, 0, 0, [])), (322, .aload_n 1, 1, (1, 0, 0, 0, 0, [])), (323, .aload_n 0, 1, (0, 0, 0, 0, 0, [])), (324, .iload_n 3, 1, (3, 0, 0, 0, 0, [])), (325, .iconst 1, 1, (0, 0, 0, 1, 0, [])), (326, .iadd, 1, (0, 0, 0, 0, 0, [])), (327, .iaload, 1, (0, 0, 0, 0, 0, [])), (328, .aload_n 0, 1, (0, 0, 0, 0, 0, [])), (329, .iload_n 3, 1, (3, 0, 0, 0, 0, [])), (330, .iconst 2, 1, (0, 0, 0, 2, 0, [])), (331, .iadd, 1, (0, 0, 0, 0, 0, [])), (332, .iaload, 1, (0, 0, 0, 0, 0, [])), (333, .invokevirtual 41, 3, (87, 3, 1, 0, 0, [])), (336, .aload_n 2, 1, (2, 0, 0, 0, 0, [])), (337, .aload_n 0, 1, (0, 0, 0, 0, 0, [])), (338, .iload_n 3, 1, (3, 0, 0, 0, 0, [])), (339, .iconst 1, 1, (0, 0, 0, 1, 0, []))]),
  (378, [(340, .iadd, 1, (0, 0, 0, 0, 0, [])), (341, .iaload, 1, (0, 0, 0, 0, 0, [])), (342, .aload_n 0, 1, (0, 0, 0, 0, 0, [])), (343, .iload_n 3, 1, (3, 0, 0, 0, 0, [])), (344, .iconst 2, 1, (0, 0, 0, 2, 0, [])), (345, .iadd, 1, (0, 0, 0, 0, 0, [])), (346, .iaload, 1, (0, 0, 0, 0, 0, [])), (347, .invokevirtual 44, 3, (155, 3, 1, 0, 0, [])), (350, .if_icmp .eq 809, 3, (1159, 0, 0, 0, 0, [])), (353, .iconst 0, 1, (0, 0, 0, 0, 0, [])), (354, .ireturn, 1, (0, 0, 0, 0, 0, [])), (355, .aload_n 1, 1, (1, 0, 0, 0, 0, [])), (356, .aload_n 0, 1, (0, 0, 0, 0, 0, [])), (357, .iload_n 3, 1, (3, 0, 0, 0, 0, [])), (358, .iconst 1, 1, (0, 0, 0, 1, 0, [])), (359, .iadd, 1, (0, 0, 0, 0, 0, [])), (360, .iaload, 1, (0, 0, 0, 0, 0, [])), (361, .invokevirtual 45, 3, (88, 2, 1, 0, 0, [])), (364, .aload_n 2, 1, (2, 0, 0, 0, 0, [])), (365, .aload_n 0, 1, (0, 0, 0, 0, 0, [])), (366, .iload_n 3, 1, (3, 0, 0, 0, 0, [])), (367, .iconst 1, 1, (0, 0, 0, 1, 0, [])), (368, .iadd, 1, (0, 0, 0, 0, 0, [])), (369, .iaload, 1, (0, 0, 0, 0, 0, [])), (370, .invokevirtual 48, 3, (171, 2, 1, 0, 0, [])), (373, .if_icmp .eq 786, 3, (1159, 0, 0, 0, 0, [])), (376, .iconst 0, 1, (0, 0, 0, 0, 0, [])), (377, .ireturn, 1, (0, 0, 0, 0, 0, []))]),
  (414, [(378, .aload_n 1, 1, (1, 0, 0, 0, 0, [])), (379, .invokevirtual 49, 3, (89, 1, 1, 0, 0, [])), (382, .aload_n 2, 1, (2, 0, 0, 0, 0, [])), (383, .invokevirtual 52, 3, (172, 1, 1, 0, 0, [])), (386, .if_icmp .eq 773, 3, (1159, 0, 0, 0, 0, [])), (389, .iconst 0, 1, (0, 0, 0, 0, 0, [])), (390, .ireturn, 1, (0, 0, 0, 0, 0, [])), (391, .aload_n 1, 1, (1, 0, 0, 0, 0, [])), (392, .aload_n 0, 1, (0, 0, 0, 0, 0, [])), (393, .iload_n 3, 1, (3, 0, 0, 0, 0, [])), (394, .iconst 1, 1, (0, 0, 0, 1, 0, [])), (395, .iadd, 1, (0, 0, 0, 0, 0, [])), (396, .iaload, 1, (0, 0, 0, 0, 0, [])), (397, .aload_n 0, 1, (0, 0, 0, 0, 0, [])), (398, .iload_n 3, 1, (3, 0, 0, 0, 0, [])), (399, .iconst 2, 1, (0, 0, 0, 2, 0, [])), (400, .iadd, 1, (0, 0, 0, 0, 0, [])), (401, .iaload, 1, (0, 0, 0, 0, 0, [])), (402, .aload_n 0, 1, (0, 0, 0, 0, 0, [])), (403, .iload_n 3, 1, (3, 0, 0, 0, 0, [])), (404, .iconst 3, 1, (0, 0, 0, 3, 0, [])), (405, .iadd, 1, (0, 0, 0, 0, 0, [])), (406, .iaload, 1, (0, 0, 0, 0, 0, [])), (407, .invokevirtual 53, 3, (90, 4, 1, 0, 0, [])), (410, .aload_n 2, 1, (2, 0, 0, 0, 0, [])), (411, .aload_n 0, 1, (0, 0, 0, 0, 0, [])), (412, .iload_n 3, 1, (3, 0, 0, 0, 0, [])), (413, .iconst 1, 1, (0, 0, 0, 1, 0, []))]),
  (448, [(414, .iadd, 1, (0, 0, 0, 0, 0, [])), (415, .iaload, 1, (0, 0, 0, 0, 0, [])), (416, .aload_n 0, 1, (0, 0, 0, 0, 0, [])), (417, .iload_n 3, 1, (3, 0, 0, 0, 0, [])), (418, .iconst 2, 1, (0, 0, 0, 2, 0, [])), (419, .iadd, 1, (0, 0, 0, 0, 0, [])), (420, .iaload, 1, (0, 0, 0, 0, 0, [])), (421, .aload_n 0, 1, (0, 0, 0, 0, 0, [])), (422, .iload_n 3, 1, (3, 0, 0, 0, 0, [])), (423, .iconst 3, 1, (0, 0, 0, 3, 0, [])), (424, .iadd, 1, (0, 0, 0, 0, 0, [])), (425, .iaload, 1, (0, 0, 0, 0, 0, [])), (426, .invokevirtual 56, 3, (173, 4, 1, 0, 0, [])), (429, .if_icmp .eq 730, 3, (1159, 0, 0, 0, 0, [])), (432, .iconst 0, 1, (0, 0, 0, 0, 0, [])), (433, .ireturn, 1, (0, 0, 0, 0, 0, [])), (434, .aload_n 1, 1, (1, 0, 0, 0, 0, [])), (435, .aload_n 0, 1, (0, 0, 0, 0, 0, [])), (436, .iload_n 3, 1, (3, 0, 0, 0, 0, [])), (437, .iconst 1, 1, (0, 0, 0, 1, 0, [])), (438, .iadd, 1, (0, 0, 0, 0, 0, [])), (439, .iaload, 1, (0, 0, 0, 0, 0, [])), (440, .invokevirtual 57, 3, (91, 2, 1, 0, 0, [])), (443, .aload_n 2, 1, (2, 0, 0, 0, 0, [])), (444, .aload_n 0, 1, (0, 0, 0, 0, 0, [])), (445, .iload_n 3, 1, (3, 0, 0, 0, 0, [])), (446, .iconst 1, 1, (0, 0, 0, 1, 0, [])), (447, .iadd, 1, (0, 0, 0, 0, 0, []))]),
  (482, [(448, .iaload, 1, (0, 0, 0, 0, 0, [])), (449, .invokevirtual 60, 3, (174, 2, 1, 0, 0, [])), (452, .if_icmp .eq 707, 3, (1159, 0, 0, 0, 0, [])), (455, .iconst 0, 1, (0, 0, 0, 0, 0, [])), (456, .ireturn, 1, (0, 0, 0, 0, 0, [])), (457, .aload_n 1, 1, (1, 0, 0, 0, 0, [])), (458, .aload_n 0, 1, (0, 0, 0, 0, 0, [])), (459, .iload_n 3, 1, (3, 0, 0, 0, 0, [])), (460, .iconst 1, 1, (0, 0, 0, 1, 0, [])), (461, .iadd, 1, (0, 0, 0, 0, 0, [])), (462, .iaload, 1, (0, 0, 0, 0, 0, [])), (463, .aload_n 0, 1, (0, 0, 0, 0, 0, [])), (464, .iload_n 3, 1, (3, 0, 0, 0, 0, [])), (465, .iconst 2, 1, (0, 0, 0, 2, 0, [])), (466, .iadd, 1, (0, 0, 0, 0, 0, [])), (467, .iaload, 1, (0, 0, 0, 0, 0, [])), (468, .invokevirtual 61, 3, (92, 3, 1, 0, 0, [])), (471, .aload_n 2, 1, (2, 0, 0, 0, 0, [])), (472, .aload_n 0, 1, (0, 0, 0, 0, 0, [])), (473, .iload_n 3, 1, (3, 0, 0, 0, 0, [])), (474, .iconst 1, 1, (0, 0, 0, 1, 0, [])), (475, .iadd, 1, (0, 0, 0, 0, 0, [])), (476, .iaload, 1, (0, 0, 0, 0, 0, [])), (477, .aload_n 0, 1, (0, 0, 0, 0, 0, [])), (478, .iload_n 3, 1, (3, 0, 0, 0, 0, [])), (479, .iconst 2, 1, (0, 0, 0, 2, 0, [])), (480, .iadd, 1, (0, 0, 0, 0, 0, [])), (481, .iaload, 1, (0, 0, 0, 0, 0, []))]),
  (520, [(482, .invokevirtual 64, 3, (175, 3, 1, 0, 0, [])), (485, .if_icmp .eq 674, 3, (1159, 0, 0, 0, 0, [])), (488, .iconst 0, 1, (0, 0, 0, 0, 0, [])), (489, .ireturn, 1, (0, 0, 0, 0, 0, [])), (490, .aload_n 1, 1, (1, 0, 0, 0, 0, [])), (491, .aload_n 0, 1, (0, 0, 0, 0, 0, [])), (492, .iload_n 3, 1, (3, 0, 0, 0, 0, [])), (493, .iconst 1, 1, (0, 0, 0, 1, 0, [])), (494, .iadd, 1, (0, 0, 0, 0, 0, [])), (495, .iaload, 1, (0, 0, 0, 0, 0, [])), (496, .invokevirtual 65, 3, (93, 2, 1, 0, 0, [])), (499, .aload_n 2, 1, (2, 0, 0, 0, 0, [])), (500, .aload_n 0, 1, (0, 0, 0, 0, 0, [])), (501, .iload_n 3, 1, (3, 0, 0, 0, 0, [])), (502, .iconst 1, 1, (0, 0, 0, 1, 0, [])), (503, .iadd, 1, (0, 0, 0, 0, 0, [])), (504, .iaload, 1, (0, 0, 0, 0, 0, [])), (505, .invokevirtual 68, 3, (177, 2, 1, 0, 0, [])), (508, .if_icmp .eq 651, 3, (1159, 0, 0, 0, 0, [])), (511, .iconst 0, 1, (0, 0, 0, 0, 0, [])), (512, .ireturn, 1, (0, 0, 0, 0, 0, [])), (513, .aload_n 1, 1, (1, 0, 0, 0, 0, [])), (514, .aload_n 0, 1, (0, 0, 0, 0, 0, [])), (515, .iload_n 3, 1, (3, 0, 0, 0, 0, [])), (516, .iconst 1, 1, (0, 0, 0, 1, 0, [])), (517, .iadd, 1, (0, 0, 0, 0, 0, [])), (518, .iaload, 1, (0, 0, 0, 0, 0, [])), (519, .invokevirtual 69, 3, (94, 2, 1, 0, 0, []))]),
  (560, [(522, .aload_n 2, 1, (2, 0, 0, 0, 0, [])), (523, .aload_n 0, 1, (0, 0, 0, 0, 0, [])), (524, .iload_n 3, 1, (3, 0, 0, 0, 0, [])), (525, .iconst 1, 1, (0, 0, 0, 1, 0, [])), (526, .iadd, 1, (0, 0, 0, 0, 0, [])), (527, .iaload, 1, (0, 0, 0, 0, 0, [])), (528, .invokevirtual 72, 3, (178, 2, 1, 0, 0, [])), (531, .if_icmp .eq 628, 3, (1159, 0, 0, 0, 0, [])), (534, .iconst 0, 1, (0, 0, 0, 0, 0, [])), (535, .ireturn, 1, (0, 0, 0, 0, 0, [])), (536, .aload_n 1, 1, (1, 0, 0, 0, 0, [])), (537, .invokevirtual 73, 3, (95, 1, 1, 0, 0, [])), (540, .aload_n 2, 1, (2, 0, 0, 0, 0, [])), (541, .invokevirtual 76, 3, (179, 1, 1, 0, 0, [])), (544, .if_icmp .eq 615, 3, (1159, 0, 0, 0, 0, [])), (547, .iconst 0, 1, (0, 0, 0, 0, 0, [])), (548, .ireturn, 1, (0, 0, 0, 0, 0, [])), (549, .aload_n 1, 1, (1, 0, 0, 0, 0, [])), (550, .aload_n 0, 1, (0, 0, 0, 0, 0, [])), (551, .iload_n 3, 1, (3, 0, 0, 0, 0, [])), (552, .iconst 1, 1, (0, 0, 0, 1, 0, [])), (553, .iadd, 1, (0, 0, 0, 0, 0, [])), (554, .iaload, 1, (0, 0, 0, 0, 0, [])), (555, .aload_n 0, 1, (0, 0, 0, 0, 0, [])), (556, .iload_n 3, 1, (3, 0, 0, 0, 0, [])), (557, .iconst 2, 1, (0, 0, 0, 2, 0, [])), (558, .iadd, 1, (0, 0, 0, 0, 0, [])), (559, .iaload, 1, (0, 0, 0, 0, 0, []))]),
  (594, [(560, .aload_n 0, 1, (0, 0, 0, 0, 0, [])), (561, .iload_n 3, 1, (3, 0, 0, 0, 0, [])), (562, .iconst 3, 1, (0, 0, 0, 3, 0, [])), (563, .iadd, 1, (0, 0, 0, 0, 0, [])), (564, .iaload, 1, (0, 0, 0, 0, 0, [])), (565, .invokevirtual 77, 3, (96, 4, 1, 0, 0, [])), (568, .aload_n 2, 1, (2, 0, 0, 0, 0, [])), (569, .aload_n 0, 1, (0, 0, 0, 0, 0, [])), (570, .iload_n 3, 1, (3, 0, 0, 0, 0, [])), (571, .iconst 1, 1, (0, 0, 0, 1, 0, [])), (572, .iadd, 1, (0, 0, 0, 0, 0, [])), (573, .iaload, 1, (0, 0, 0, 0, 0, [])), (574, .aload_n 0, 1, (0, 0, 0, 0, 0, [])), (575, .iload_n 3, 1, (3, 0, 0, 0, 0, [])), (576, .iconst 2, 1, (0, 0, 0, 2, 0, [])), (577, .iadd, 1, (0, 0, 0, 0, 0, [])), (578, .iaload, 1, (0, 0, 0, 0, 0, [])), (579, .aload_n 0, 1, (0, 0, 0, 0, 0, [])), (580, .iload_n 3, 1, (3, 0, 0, 0, 0, [])), (581, .iconst 3, 1, (0, 0, 0, 3, 0, [])), (582, .iadd, 1, (0, 0, 0, 0, 0, [])), (583, .iaload, 1, (0, 0, 0, 0, 0, [])), (584, .invokevirtual 80, 3, (180, 4, 1, 0, 0, [])), (587, .if_icmp .eq 572, 3, (1159, 0, 0, 0, 0, [])), (590, .iconst 0, 1, (0, 0, 0, 0, 0, [])), (591, .ireturn, 1, (0, 0, 0, 0, 0, [])), (592, .aload_n 1, 1, (1, 0, 0, 0, 0, [])), (593, .aload_n 0, 1, (0, 0, 0, 0, 0, []))]),
  (630, [(594, .iload_n 3, 1, (3, 0, 0, 0, 0, [])), (595, .iconst 1, 1, (0, 0, 0, 1, 0, [])), (596, .iadd, 1, (0, 0, 0, 0, 0, [])), (597, .iaload, 1, (0, 0, 0, 0, 0, [])), (598, .invokevirtual 81, 3, (97, 2, 1, 0, 0, [])), (601, .aload_n 2, 1, (2, 0, 0, 0, 0, [])), (602, .aload_n 0, 1, (0, 0, 0, 0, 0, [])), (603, .iload_n 3, 1, (3, 0, 0, 0, 0, [])), (604, .iconst 1, 1, (0, 0, 0, 1, 0, [])), (605, .iadd, 1, (0, 0, 0, 0, 0, [])), (606, .iaload, 1, (0, 0, 0, 0, 0, [])), (607, .invokevirtual 84, 3, (181, 2, 1, 0, 0, [])), (610, .if_icmp .eq 549, 3, (1159, 0, 0, 0, 0, [])), (613, .iconst 0, 1, (0, 0, 0, 0, 0, [])), (614, .ireturn, 1, (0, 0, 0, 0, 0, [])), (615, .aload_n 1, 1, (1, 0, 0, 0, 0, [])), (616, .aload_n 0, 1, (0, 0, 0, 0, 0, [])), (617, .iload_n 3, 1, (3, 0, 0, 0, 0, [])), (618, .iconst 1, 1, (0, 0, 0, 1, 0, [])), (619, .iadd, 1, (0, 0, 0, 0, 0, [])), (620, .iaload, 1, (0, 0, 0, 0, 0, [])), (621, .aload_n 0, 1, (0, 0, 0, 0, 0, [])), (622, .iload_n 3, 1, (3, 0, 0, 0, 0, [])), (623, .iconst 2, 1, (0, 0, 0, 2, 0, [])), (624, .iadd, 1, (0, 0, 0, 0, 0, [])), (625, .iaload, 1, (0, 0, 0, 0, 0, [])), (626, .invokevirtual 85, 3, (98, 3, 1, 0, 0, [])), (629, .aload_n 2, 1, (2, 0, 0, 0, 0, []))]),
  (664, [(630, .aload_n 0, 1, (0, 0, 0, 0, 0, [])), (631, .iload_n 3, 1, (3, 0, 0, 0, 0, [])), (632, .iconst 1, 1, (0, 0, 0, 1, 0, [])), (633, .iadd, 1, (0, 0, 0, 0, 0, [])), (634, .iaload, 1, (0, 0, 0, 0, 0, [])), (635, .aload_n 0, 1, (0, 0, 0, 0, 0, [])), (636, .iload_n 3, 1, (3, 0, 0, 0, 0, [])), (637, .iconst 2, 1, (0, 0, 0, 2, 0, [])), (638, .iadd, 1, (0, 0, 0, 0, 0, [])), (639, .iaload, 1, (0, 0, 0, 0, 0, [])), (640, .invokevirtual 88, 3, (182, 3, 1, 0, 0, [])), (643, .if_icmp .eq 516, 3, (1159, 0, 0, 0, 0, [])), (646, .iconst 0, 1, (0, 0, 0, 0, 0, [])), (647, .ireturn, 1, (0, 0, 0, 0, 0, [])), (648, .aload_n 1, 1, (1, 0, 0, 0, 0, [])), (649, .aload_n 0, 1, (0, 0, 0, 0, 0, [])), (650, .iload_n 3, 1, (3, 0, 0, 0, 0, [])), (651, .iconst 1, 1, (0, 0, 0, 1, 0, [])), (652, .iadd, 1, (0, 0, 0, 0, 0, [])), (653, .iaload, 1, (0, 0, 0, 0, 0, [])), (654, .invokevirtual 89, 3, (99, 2, 1, 0, 0, [])), (657, .aload_n 2, 1, (2, 0, 0, 0, 0, [])), (658, .aload_n 0, 1, (0, 0, 0, 0, 0, [])), (659, .iload_n 3, 1, (3, 0, 0, 0, 0, [])), (660, .iconst 1, 1, (0, 0, 0, 1, 0, [])), (661, .iadd, 1, (0, 0, 0, 0, 0, [])), (662, .iaload, 1, (0, 0, 0, 0, 0, [])), (663, .invokevirtual 92, 3, (183, 2, 1, 0, 0, []))]),
  (700, [(666, .if_icmp .eq 493, 3, (1159, 0, 0, 0, 0, [])), (669, .iconst 0, 1, (0, 0, 0, 0, 0, [])), (670, .ireturn, 1, (0, 0, 0, 0, 0, [])), (671, .aload_n 1, 1, (1, 0, 0, 0, 0, [])), (672, .aload_n 0, 1, (0, 0, 0, 0, 0, [])), (673, .iload_n 3, 1, (3, 0, 0, 0, 0, [])), (674, .iconst 1, 1, (0, 0, 0, 1, 0, [])), (675, .iadd, 1, (0, 0, 0, 0, 0, [])), (676, .iaload, 1, (0, 0, 0, 0, 0, [])), (677, .aload_n 0, 1, (0, 0, 0, 0, 0, [])), (678, .iload_n 3, 1, (3, 0, 0, 0, 0, [])), (679, .iconst 2, 1, (0, 0, 0, 2, 0, [])), (680, .iadd, 1, (0, 0, 0, 0, 0, [])), (681, .iaload, 1, (0, 0, 0, 0, 0, [])), (682, .invokevirtual 93, 3, (100, 3, 1, 0, 0, [])), (685, .aload_n 2, 1, (2, 0, 0, 0, 0, [])), (686, .aload_n 0, 1, (0, 0, 0, 0, 0, [])), (687, .iload_n 3, 1, (3, 0, 0, 0, 0, [])), (688, .iconst 1, 1, (0, 0, 0, 1, 0, [])), (689, .iadd, 1, (0, 0, 0, 0, 0, [])), (690, .iaload, 1, (0, 0, 0, 0, 0, [])), (691, .aload_n 0, 1, (0, 0, 0, 0, 0, [])), (692, .iload_n 3, 1, (3, 0, 0, 0, 0, [])), (693, .iconst 2, 1, (0, 0, 0, 2, 0, [])), (694, .iadd, 1, (0, 0, 0, 0, 0, [])), (695, .iaload, 1, (0, 0, 0, 0, 0, [])), (696, .invokevirtual 96, 3, (185, 3, 1, 0, 0, [])), (699, .if_icmp .eq 460, 3, (1159, 0, 0, 0, 0, []))]),
  (736, [(702, .iconst 0, 1, (0, 0, 0, 0, 0, [])), (703, .ireturn, 1, (0, 0, 0, 0, 0, [])), (704, .aload_n 1, 1, (1, 0, 0, 0, 0, [])), (705, .aload_n 0, 1, (0, 0, 0, 0, 0, [])), (706, .iload_n 3, 1, (3, 0, 0, 0, 0, [])), (707, .iconst 1, 1, (0, 0, 0, 1, 0, [])), (708, .iadd, 1, (0, 0, 0, 0, 0, [])), (709, .iaload, 1, (0, 0, 0, 0, 0, [])), (710, .aload_n 0, 1, (0, 0, 0, 0, 0, [])), (711, .iload_n 3, 1, (3, 0, 0, 0, 0, [])), (712, .iconst 2, 1, (0, 0, 0, 2, 0, [])), (713, .iadd, 1, (0, 0, 0, 0, 0, [])), (714, .iaload, 1, (0, 0, 0, 0, 0, [])), (715, .invokevirtual 97, 3, (101, 3, 1, 0, 0, [])), (718, .aload_n 2, 1, (2, 0, 0, 0, 0, [])), (719, .aload_n 0, 1, (0, 0, 0, 0, 0, [])), (720, .iload_n 3, 1, (3, 0, 0, 0, 0, [])), (721, .iconst 1, 1, (0, 0, 0, 1, 0, [])), (722, .iadd, 1, (0, 0, 0, 0, 0, [])), (723, .iaload, 1, (0, 0, 0, 0, 0, [])), (724, .aload_n 0, 1, (0, 0, 0, 0, 0, [])), (725, .iload_n 3, 1, (3, 0, 0, 0, 0, [])), (726, .iconst 2, 1, (0, 0, 0, 2, 0, [])), (727, .iadd, 1, (0, 0, 0, 0, 0, [])), (728, .iaload, 1, (0, 0, 0, 0, 0, [])), (729, .invokevirtual 100, 3, (191, 3, 1, 0, 0, [])), (732, .if_icmp .eq 427, 3, (1159, 0, 0, 0, 0, [])), (735, .iconst 0, 1, (0, 0, 0, 0, 0, []))]),
  (772, [(736, .ireturn, 1, (0, 0, 0, 0, 0, [])), (737, .aload_n 1, 1, (1, 0, 0, 0, 0, [])), (738, .aload_n 0, 1, (0, 0, 0, 0, 0, [])), (739, .iload_n 3, 1, (3, 0, 0, 0, 0, [])), (740, .iconst 1, 1, (0, 0, 0, 1, 0, [])), (741, .iadd, 1, (0, 0, 0, 0, 0, [])), (742, .iaload, 1, (0, 0, 0, 0, 0, [])), (743, .invokevirtual 101, 3, (102, 2, 1, 0, 0, [])), (746, .aload_n 2, 1, (2, 0, 0, 0, 0, [])), (747, .aload_n 0, 1, (0, 0, 0, 0, 0, [])), (748, .iload_n 3, 1, (3, 0, 0, 0, 0, [])), (749, .iconst 1, 1, (0, 0, 0, 1, 0, [])), (750, .iadd, 1, (0, 0, 0, 0, 0, [])), (751, .iaload, 1, (0, 0, 0, 0, 0, [])), (752, .invokevirtual 104, 3, (194, 2, 1, 0, 0, [])), (755, .if_icmp .eq 404, 3, (1159, 0, 0, 0, 0, [])), (758, .iconst 0, 1, (0, 0, 0, 0, 0, [])), (759, .ireturn, 1, (0, 0, 0, 0, 0, [])), (760, .aload_n 1, 1, (1, 0, 0, 0, 0, [])), (761, .aload_n 0, 1, (0, 0, 0, 0, 0, [])), (762, .iload_n 3, 1, (3, 0, 0, 0, 0, [])), (763, .iconst 1, 1, (0, 0, 0, 1, 0, [])), (764, .iadd, 1, (0, 0, 0, 0, 0, [])), (765, .iaload, 1, (0, 0, 0, 0, 0, [])), (766, .invokevirtual 105, 3, (103, 2, 1, 0, 0, [])), (769, .aload_n 2, 1, (2, 0, 0, 0, 0, [])), (770, .aload_n 0, 1, (0, 0, 0, 0, 0, [])), (771, .iload_n 3, 1, (3, 0, 0, 0, 0, []))]),
  (805, [(772, .iconst 1, 1, (0, 0, 0, 1, 0, [])), (773, .iadd, 1, (0, 0, 0, 0, 0, [])), (774, .iaload, 1, (0, 0, 0, 0, 0, [])), (775, .invokevirtual 108, 3, (195, 2, 1, 0, 0, [])), (778, .if_icmp .eq 381, 3, (1159, 0, 0, 0, 0, [])), (781, .iconst 0, 1, (0, 0, 0, 0, 0, [])), (782, .ireturn, 1, (0, 0, 0, 0, 0, [])), (783, .aload_n 1, 1, (1, 0, 0, 0, 0, [])), (784, .aload_n 0, 1, (0, 0, 0, 0, 0, [])), (785, .iload_n 3, 1, (3, 0, 0, 0, 0, [])), (786, .iconst 1, 1, (0, 0, 0, 1, 0, [])), (787, .iadd, 1, (0, 0, 0, 0, 0, [])), (788, .iaload, 1, (0, 0, 0, 0, 0, [])), (789, .aload_n 0, 1, (0, 0, 0, 0, 0, [])), (790, .iload_n 3, 1, (3, 0, 0, 0, 0, [])), (791, .iconst 2, 1, (0, 0, 0, 2, 0, [])), (792, .iadd, 1, (0, 0, 0, 0, 0, [])), (793, .iaload, 1, (0, 0, 0, 0, 0, [])), (794, .i2l, 1, (0, 0, 0, 0, 0, [])), (795, .bipush 32, 2, (0, 0, 0, 32, 0, [])), (797, .lshl, 1, (0, 0, 0, 0, 0, [])), (798, .aload_n 0, 1, (0, 0, 0, 0, 0, [])), (799, .iload_n 3, 1, (3, 0, 0, 0, 0, [])), (800, .iconst 3, 1, (0, 0, 0, 3, 0, [])), (801, .iadd, 1, (0, 0, 0, 0, 0, [])), (802, .iaload, 1, (0, 0, 0, 0, 0, [])), (803, .i2l, 1, (0, 0, 0, 0, 0, [])), (804, .ldc2_w 109, 3, (0, 0, 0, 0, 4294967295, []))]),
  (842, [(807, .land, 1, (0, 0, 0, 0, 0, [])), (808, .lor, 1, (0, 0, 0, 0, 0, [])), (809, .invokevirtual 111, 3, (104, 3, 1, 0, 0, [])), (812, .aload_n 2, 1, (2, 0, 0, 0, 0, [])), (813, .aload_n 0, 1, (0, 0, 0, 0, 0, [])), (814, .iload_n 3, 1, (3, 0, 0, 0, 0, [])), (815, .iconst 1, 1, (0, 0, 0, 1, 0, [])), (816, .iadd, 1, (0, 0, 0, 0, 0, [])), (817, .iaload, 1, (0, 0, 0, 0, 0, [])), (818, .aload_n 0, 1, (0, 0, 0, 0, 0, [])), (819, .iload_n 3, 1, (3, 0, 0, 0, 0, [])), (820, .iconst 2, 1, (0, 0, 0, 2, 0, [])), (821, .iadd, 1, (0, 0, 0, 0, 0, [])), (822, .iaload, 1, (0, 0, 0, 0, 0, [])), (823, .i2l, 1, (0, 0, 0, 0, 0, [])), (824, .bipush 32, 2, (0, 0, 0, 32, 0, [])), (826, .lshl, 1, (0, 0, 0, 0, 0, [])), (827, .aload_n 0, 1, (0, 0, 0, 0, 0, [])), (828, .iload_n 3, 1, (3, 0, 0, 0, 0, [])), (829, .iconst 3, 1, (0, 0, 0, 3, 0, [])), (830, .iadd, 1, (0, 0, 0, 0, 0, [])), (831, .iaload, 1, (0, 0, 0, 0, 0, [])), (832, .i2l, 1, (0, 0, 0, 0, 0, [])), (833, .ldc2_w 109, 3, (0, 0, 0, 0, 4294967295, [])), (836, .land, 1, (0, 0, 0, 0, 0, [])), (837, .lor, 1, (0, 0, 0, 0, 0, [])), (838, .invokevirtual 115, 3, (199, 3, 1, 0, 0, [])), (841, .if_icmp .eq 318, 3, (1159, 0, 0, 0, 0, []))]),
  (874, [(844, .iconst 0, 1, (0, 0, 0, 0, 0, [])), (845, .ireturn, 1, (0, 0, 0, 0, 0, [])), (846, .aload_n 1, 1, (1, 0, 0, 0, 0, [])), (847, .aload_n 0, 1, (0, 0, 0, 0, 0, [])), (848, .iload_n 3, 1, (3, 0, 0, 0, 0, [])), (849, .iconst 1, 1, (0, 0, 0, 1, 0, [])), (850, .iadd, 1, (0, 0, 0, 0, 0, [])), (851, .iaload, 1, (0, 0, 0, 0, 0, [])), (852, .aload_n 0, 1, (0, 0, 0, 0, 0, [])), (853, .iload_n 3, 1, (3, 0, 0, 0, 0, [])), (854, .iconst 2, 1, (0, 0, 0, 2, 0, [])), (855, .iadd, 1, (0, 0, 0, 0, 0, [])), (856, .iaload, 1, (0, 0, 0, 0, 0, [])), (857, .aload_n 0, 1, (0, 0, 0, 0, 0, [])), (858, .iload_n 3, 1, (3, 0, 0, 0, 0, [])), (859, .iconst 3, 1, (0, 0, 0, 3, 0, [])), (860, .iadd, 1, (0, 0, 0, 0, 0, [])), (861, .iaload, 1, (0, 0, 0, 0, 0, [])), (862, .invokevirtual 116, 3, (105, 4, 1, 0, 0, [])), (865, .aload_n 2, 1, (2, 0, 0, 0, 0, [])), (866, .aload_n 0, 1, (0, 0, 0, 0, 0, [])), (867, .iload_n 3, 1, (3, 0, 0, 0, 0, [])), (868, .iconst 1, 1, (0, 0, 0, 1, 0, [])), (869, .iadd, 1, (0, 0, 0, 0, 0, [])), (870, .iaload, 1, (0, 0, 0, 0, 0, [])), (871, .aload_n 0, 1, (0, 0, 0, 0, 0, [])), (872, .iload_n 3, 1, (3, 0, 0, 0, 0, [])), (873, .iconst 2, 1, (0, 0, 0, 2, 0, []))]),
  (918, [(874, .iadd, 1, (0, 0, 0, 0, 0, [])), (875, .iaload, 1, (0, 0, 0, 0, 0, [])), (876, .aload_n 0, 1, (0, 0, 0, 0, 0, [])), (877, .iload_n 3, 1, (3, 0, 0, 0, 0, [])), (878, .iconst 3, 1, (0, 0, 0, 3, 0, [])), (879, .iadd, 1, (0, 0, 0, 0, 0, [])), (880, .iaload, 1, (0, 0, 0, 0, 0, [])), (881, .invokevirtual 119, 3, (200, 4, 1, 0, 0, [])), (884, .if_icmp .eq 275, 3, (1159, 0, 0, 0, 0, [])), (887, .iconst 0, 1, (0, 0, 0, 0, 0, [])), (888, .ireturn, 1, (0, 0, 0, 0, 0, [])), (889, .aload_n 1, 1, (1, 0, 0, 0, 0, [])), (890, .invokevirtual 120, 3, (106, 1, 1, 0, 0, [])), (893, .aload_n 2, 1, (2, 0, 0, 0, 0, [])), (894, .invokevirtual 123, 3, (201, 1, 1, 0, 0, [])), (897, .if_icmp .eq 262, 3, (1159, 0, 0, 0, 0, [])), (900, .iconst 0, 1, (0, 0, 0, 0, 0, [])), (901, .ireturn, 1, (0, 0, 0, 0, 0, [])), (902, .aload_n 1, 1, (1, 0, 0, 0, 0, [])), (903, .invokevirtual 124, 3, (107, 1, 1, 0, 0, [])), (906, .aload_n 2, 1, (2, 0, 0, 0, 0, [])), (907, .invokevirtual 127, 3, (203, 1, 1, 0, 0, [])), (910, .if_icmp .eq 249, 3, (1159, 0, 0, 0, 0, [])), (913, .iconst 0, 1, (0, 0, 0, 0, 0, [])), (914, .ireturn, 1, (0, 0, 0, 0, 0, [])), (915, .aload_n 1, 1, (1, 0, 0, 0, 0, [])), (916, .aload_n 0, 1, (0, 0, 0, 0, 0, [])), (917, .iload_n 3, 1, (3, 0, 0, 0, 0, []))]),
  (956, [(918, .iconst 1, 1, (0, 0, 0, 1, 0, [])), (919, .iadd, 1, (0, 0, 0, 0, 0, [])), (920, .iaload, 1, (0, 0, 0, 0, 0, [])), (921, .aload_n 0, 1, (0, 0, 0, 0, 0, [])), (922, .iload_n 3, 1, (3, 0, 0, 0, 0, [])), (923, .iconst 2, 1, (0, 0, 0, 2, 0, [])), (924, .iadd, 1, (0, 0, 0, 0, 0, [])), (925, .iaload, 1, (0, 0, 0, 0, 0, [])), (926, .ifCond .eq 7, 3, (933, 0, 0, 0, 0, [])), (929, .iconst 1, 1, (0, 0, 0, 1, 0, [])), (930, .goto 4, 3, (934, 0, 0, 0, 0, [])), (933, .iconst 0, 1, (0, 0, 0, 0, 0, [])), (934, .invokevirtual 128, 3, (108, 3, 1, 0, 0, [])), (937, .aload_n 2, 1, (2, 0, 0, 0, 0, [])), (938, .aload_n 0, 1, (0, 0, 0, 0, 0, [])), (939, .iload_n 3, 1, (3, 0, 0, 0, 0, [])), (940, .iconst 1, 1, (0, 0, 0, 1, 0, [])), (941, .iadd, 1, (0, 0, 0, 0, 0, [])), (942, .iaload, 1, (0, 0, 0, 0, 0, [])), (943, .aload_n 0, 1, (0, 0, 0, 0, 0, [])), (944, .iload_n 3, 1, (3, 0, 0, 0, 0, [])), (945, .iconst 2, 1, (0, 0, 0, 2, 0, [])), (946, .iadd, 1, (0, 0, 0, 0, 0, [])), (947, .iaload, 1, (0, 0, 0, 0, 0, [])), (948, .ifCond .eq 7, 3, (955, 0, 0, 0, 0, [])), (951, .iconst 1, 1, (0, 0, 0, 1, 0, [])), (952, .goto 4, 3, (956, 0, 0, 0, 0, [])), (955, .iconst 0, 1, (0, 0, 0, 0, 0, []))]),
  (994, [(956, .invokevirtual 132, 3, (208, 3, 1, 0, 0, [])), (959, .if_icmp .eq 200, 3, (1159, 0, 0, 0, 0, [])), (962, .iconst 0, 1, (0, 0, 0, 0, 0, [])), (963, .ireturn, 1, (0, 0, 0, 0, 0, [])), (964, .aload_n 1, 1, (1, 0, 0, 0, 0, [])), (965, .aload_n 0, 1, (0, 0, 0, 0, 0, [])), (966, .iload_n 3, 1, (3, 0, 0, 0, 0, [])), (967, .iconst 1, 1, (0, 0, 0, 1, 0, [])), (968, .iadd, 1, (0, 0, 0, 0, 0, [])), (969, .iaload, 1, (0, 0, 0, 0, 0, [])), (970, .aload_n 0, 1, (0, 0, 0, 0, 0, [])), (971, .iload_n 3, 1, (3, 0, 0, 0, 0, [])), (972, .iconst 2, 1, (0, 0, 0, 2, 0, [])), (973, .iadd, 1, (0, 0, 0, 0, 0, [])), (974, .iaload, 1, (0, 0, 0, 0, 0, [])), (975, .ifCond .eq 7, 3, (982, 0, 0, 0, 0, [])), (978, .iconst 1, 1, (0, 0, 0, 1, 0, [])), (979, .goto 4, 3, (983, 0, 0, 0, 0, [])), (982, .iconst 0, 1, (0, 0, 0, 0, 0, [])), (983, .invokevirtual 133, 3, (109, 3, 1, 0, 0, [])), (986, .aload_n 2, 1, (2, 0, 0, 0, 0, [])), (987, .aload_n 0, 1, (0, 0, 0, 0, 0, [])), (988, .iload_n 3, 1, (3, 0, 0, 0, 0, [])), (989, .iconst 1, 1, (0, 0, 0, 1, 0, [])), (990, .iadd, 1, (0, 0, 0, 0, 0, [])), (991, .iaload, 1, (0, 0, 0, 0, 0, [])), (992, .aload_n 0, 1, (0, 0, 0, 0, 0, [])), (993, .iload_n 3, 1, (3, 0, 0, 0, 0, []))]),
  (1033, [(994, .iconst 2, 1, (0, 0, 0, 2, 0, [])), (995, .iadd, 1, (0, 0, 0, 0, 0, [])), (996, .iaload, 1, (0, 0, 0, 0, 0, [])), (997, .ifCond .eq 7, 3, (1004, 0, 0, 0, 0, [])), (1000, .iconst 1, 1, (0, 0, 0, 1, 0, [])), (1001, .goto 4, 3, (1005, 0, 0, 0, 0, [])), (1004, .iconst 0, 1, (0, 0, 0, 0, 0, [])), (1005, .invokevirtual 136, 3, (209, 3, 1, 0, 0, [])), (1008, .if_icmp .eq 151, 3, (1159, 0, 0, 0, 0, [])), (1011, .iconst 0, 1, (0, 0, 0, 0, 0, [])), (1012, .ireturn, 1, (0, 0, 0, 0, 0, [])), (1013, .aload_n 1, 1, (1, 0, 0, 0, 0, [])), (1014, .aload_n 0, 1, (0, 0, 0, 0, 0, [])), (1015, .iload_n 3, 1, (3, 0, 0, 0, 0, [])), (1016, .iconst 1, 1, (0, 0, 0, 1, 0, [])), (1017, .iadd, 1, (0, 0, 0, 0, 0, [])), (1018, .iaload, 1, (0, 0, 0, 0, 0, [])), (1019, .i2l, 1, (0, 0, 0, 0, 0, [])), (1020, .bipush 32, 2, (0, 0, 0, 32, 0, [])), (1022, .lshl, 1, (0, 0, 0, 0, 0, [])), (1023, .aload_n 0, 1, (0, 0, 0, 0, 0, [])), (1024, .iload_n 3, 1, (3, 0, 0, 0, 0, [])), (1025, .iconst 2, 1, (0, 0, 0, 2, 0, [])), (1026, .iadd, 1, (0, 0, 0, 0, 0, [])), (1027, .iaload, 1, (0, 0, 0, 0, 0, [])), (1028, .i2l, 1, (0, 0, 0, 0, 0, [])), (1029, .ldc2_w 109, 3, (0, 0, 0, 0, 4294967295, [])), (1032, .land, 1, (0, 0, 0, 0, 0, []))]),
  (1070, [(1033, .lor, 1, (0, 0, 0, 0, 0, [])), (1034, .invokevirtual 137, 3, (110, 2, 2, 0, 0, [])), (1037, .aload_n 2, 1, (2, 0, 0, 0, 0, [])), (1038, .aload_n 0, 1, (0, 0, 0, 0, 0, [])), (1039, .iload_n 3, 1, (3, 0, 0, 0, 0, [])), (1040, .iconst 1, 1, (0, 0, 0, 1, 0, [])), (1041, .iadd, 1, (0, 0, 0, 0, 0, [])), (1042, .iaload, 1, (0, 0, 0, 0, 0, [])), (1043, .i2l, 1, (0, 0, 0, 0, 0, [])), (1044, .bipush 32, 2, (0, 0, 0, 32, 0, [])), (1046, .lshl, 1, (0, 0, 0, 0, 0, [])), (1047, .aload_n 0, 1, (0, 0, 0, 0, 0, [])), (1048, .iload_n 3, 1, (3, 0, 0, 0, 0, [])), (1049, .iconst 2, 1, (0, 0, 0, 2, 0, [])), (1050, .iadd, 1, (0, 0, 0, 0, 0, [])), (1051, .iaload, 1, (0, 0, 0, 0, 0, [])), (1052, .i2l, 1, (0, 0, 0, 0, 0, [])), (1053, .ldc2_w 109, 3, (0, 0, 0, 0, 4294967295, [])), (1056, .land, 1, (0, 0, 0, 0, 0, [])), (1057, .lor, 1, (0, 0, 0, 0, 0, [])), (1058, .invokevirtual 141, 3, (210, 2, 2, 0, 0, [])), (1061, .lcmp, 1, (0, 0, 0, 0, 0, [])), (1062, .ifCond .eq 97, 3, (1159, 0, 0, 0, 0, [])), (1065, .iconst 0, 1, (0, 0, 0, 0, 0, [])), (1066, .ireturn, 1, (0, 0, 0, 0, 0, [])), (1067, .aload_n 1, 1, (1, 0, 0, 0, 0, [])), (1068, .aload_n 0, 1, (0, 0, 0, 0, 0, [])), (1069, .iload_n 3, 1, (3, 0, 0, 0, 0, []))]),
  (1106, [(1070, .iconst 1, 1, (0, 0, 0, 1, 0, [])), (1071, .iadd, 1, (0, 0, 0, 0, 0, [])), (1072, .iaload, 1, (0, 0, 0, 0, 0, [])), (1073, .invokevirtual 142, 3, (111, 2, 1, 0, 0, [])), (1076, .aload_n 2, 1, (2, 0, 0, 0, 0, [])), (1077, .aload_n 0, 1, (0, 0, 0, 0, 0, [])), (1078, .iload_n 3, 1, (3, 0, 0, 0, 0, [])), (1079, .iconst 1, 1, (0, 0, 0, 1, 0, [])), (1080, .iadd, 1, (0, 0, 0, 0, 0, [])), (1081, .iaload, 1, (0, 0, 0, 0, 0, [])), (1082, .invokevirtual 145, 3, (211, 2, 1, 0, 0, [])), (1085, .if_icmp .eq 74, 3, (1159, 0, 0, 0, 0, [])), (1088, .iconst 0, 1, (0, 0, 0, 0, 0, [])), (1089, .ireturn, 1, (0, 0, 0, 0, 0, [])), (1090, .aload_n 1, 1, (1, 0, 0, 0, 0, [])), (1091, .aload_n 0, 1, (0, 0, 0, 0, 0, [])), (1092, .iload_n 3, 1, (3, 0, 0, 0, 0, [])), (1093, .iconst 1, 1, (0, 0, 0, 1, 0, [])), (1094, .iadd, 1, (0, 0, 0, 0, 0, [])), (1095, .iaload, 1, (0, 0, 0, 0, 0, [])), (1096, .invokevirtual 146, 3, (112, 2, 1, 0, 0, [])), (1099, .aload_n 2, 1, (2, 0, 0, 0, 0, [])), (1100, .aload_n 0, 1, (0, 0, 0, 0, 0, [])), (1101, .iload_n 3, 1, (3, 0, 0, 0, 0, [])), (1102, .iconst 1, 1, (0, 0, 0, 1, 0, [])), (1103, .iadd, 1, (0, 0, 0, 0, 0, [])), (1104, .iaload, 1, (0, 0, 0, 0, 0, [])), (1105, .invokevirtual 149, 3, (212, 2, 1, 0, 0, []))]),
  (1146, [(1108, .if_icmp .eq 51, 3, (1159, 0, 0, 0, 0, [])), (1111, .iconst 0, 1, (0, 0, 0, 0, 0, [])), (1112, .ireturn, 1, (0, 0, 0, 0, 0, [])), (1113, .aload_n 1, 1, (1, 0, 0, 0, 0, [])), (1114, .aload_n 0, 1, (0, 0, 0, 0, 0, [])), (1115, .iload_n 3, 1, (3, 0, 0, 0, 0, [])), (1116, .iconst 1, 1, (0, 0, 0, 1, 0, [])), (1117, .iadd, 1, (0, 0, 0, 0, 0, [])), (1118, .iaload, 1, (0, 0, 0, 0, 0, [])), (1119, .invokevirtual 150, 3, (113, 2, 1, 0, 0, [])), (1122, .aload_n 2, 1, (2, 0, 0, 0, 0, [])), (1123, .aload_n 0, 1, (0, 0, 0, 0, 0, [])), (1124, .iload_n 3, 1, (3, 0, 0, 0, 0, [])), (1125, .iconst 1, 1, (0, 0, 0, 1, 0, [])), (1126, .iadd, 1, (0, 0, 0, 0, 0, [])), (1127, .iaload, 1, (0, 0, 0, 0, 0, [])), (1128, .invokevirtual 153, 3, (213, 2, 1, 0, 0, [])), (1131, .if_icmp .eq 28, 3, (1159, 0, 0, 0, 0, [])), (1134, .iconst 0, 1, (0, 0, 0, 0, 0, [])), (1135, .ireturn, 1, (0, 0, 0, 0, 0, [])), (1136, .aload_n 1, 1, (1, 0, 0, 0, 0, [])), (1137, .aload_n 0, 1, (0, 0, 0, 0, 0, [])), (1138, .iload_n 3, 1, (3, 0, 0, 0, 0, [])), (1139, .iconst 1, 1, (0, 0, 0, 1, 0, [])), (1140, .iadd, 1, (0, 0, 0, 0, 0, [])), (1141, .iaload, 1, (0, 0, 0, 0, 0, [])), (1142, .invokevirtual 154, 3, (114, 2, 1, 0, 0, [])), (1145, .aload_n 2, 1, (2, 0, 0, 0, 0, []))]),
  (1167, [(1146, .aload_n 0, 1, (0, 0, 0, 0, 0, [])), (1147, .iload_n 3, 1, (3, 0, 0, 0, 0, [])), (1148, .iconst 1, 1, (0, 0, 0, 1, 0, [])), (1149, .iadd, 1, (0, 0, 0, 0, 0, [])), (1150, .iaload, 1, (0, 0, 0, 0, 0, [])), (1151, .invokevirtual 157, 3, (216, 2, 1, 0, 0, [])), (1154, .if_icmp .eq 5, 3, (1159, 0, 0, 0, 0, [])), (1157, .iconst 0, 1, (0, 0, 0, 0, 0, [])), (1158, .ireturn, 1, (0, 0, 0, 0, 0, [])), (1159, .iinc 3 4, 3, (3, 0, 0, 4, 0, [])), (1162, .goto (-1144), 3, (18, 0, 0, 0, 0, [])), (1165, .iconst 1, 1, (0, 0, 0, 1, 0, [])), (1166, .ireturn, 1, (0, 0, 0, 0, 0, []))])]
end
section
/-! ===== the methods by number, what links to them ===== -/
def zm_J_bitCount : zv_Mt := (⟨"java/lang/Integer", "bitCount", "(I)I"⟩, prog_12_method_49_code, 1, some .int, 1, 1, 11, 1, zt_J_bitCount)
def zm_J_fill : zv_Mt := (⟨"java/util/Arrays", "fill", "([II)V"⟩, prog_15_method_103_code, 4, none, 2, 0, 13, 1, zt_J_fill)
def zm_X0_init : zv_Mt := (yX0_init, cX0_init, 1, none, 1, 0, 0, 2, zt_X0_init)
def zm_X0_follow : zv_Mt := (yX0_follow, cX0_follow, 4, none, 2, 0, 0, 0, zt_X0_follow)
def zm_X0_takeBack : zv_Mt := (yX0_takeBack, cX0_takeBack, 2, none, 2, 0, 0, 0, zt_X0_takeBack)
def zm_X0_record : zv_Mt := (yX0_record, cX0_record, 3, none, 3, 0, 0, 0, zt_X0_record)
def zm_X0_earlier : zv_Mt := (yX0_earlier, cX0_earlier, 3, some .int, 2, 1, 0, 0, zt_X0_earlier)
def zm_X0_alike : zv_Mt := (yX0_alike, cX0_alike, 4, some .boolean, 3, 1, 0, 0, zt_X0_alike)
def zm_X1_init : zv_Mt := (yX1_init, cX1_init, 1, none, 1, 0, 1, 2, zt_X1_init)
def zm_X1_tryAll : zv_Mt := (yX1_tryAll, cX1_tryAll, 4, none, 2, 0, 1, 0, zt_X1_tryAll)
def zm_X1_restsInOrder : zv_Mt := (yX1_restsInOrder, cX1_restsInOrder, 7, some .boolean, 3, 1, 1, 0, zt_X1_restsInOrder)
def zm_X1_mark : zv_Mt := (yX1_mark, cX1_mark, 2, none, 2, 0, 1, 0, zt_X1_mark)
def zm_X1_isMarked : zv_Mt := (yX1_isMarked, cX1_isMarked, 3, some .boolean, 2, 1, 1, 0, zt_X1_isMarked)
def zm_X1_note : zv_Mt := (yX1_note, cX1_note, 3, none, 2, 0, 1, 0, zt_X1_note)
def zm_X1_goToNextOrder : zv_Mt := (yX1_goToNextOrder, cX1_goToNextOrder, 6, some .boolean, 2, 1, 1, 0, zt_X1_goToNextOrder)
def zm_X1_swap : zv_Mt := (yX1_swap, cX1_swap, 4, none, 3, 0, 1, 0, zt_X1_swap)
def zm_X2_init : zv_Mt := (yX2_init, cX2_init, 2, none, 1, 0, 2, 2, zt_X2_init)
def zm_X2_save : zv_Mt := (yX2_save, cX2_save, 2, none, 2, 0, 2, 0, zt_X2_save)
def zm_X2_latest : zv_Mt := (yX2_latest, cX2_latest, 1, some (.object "HiddenExits$State"), 1, 3, 2, 0, zt_X2_latest)
def zm_X3_init : zv_Mt := (yX3_init, cX3_init, 1, none, 1, 0, 3, 2, zt_X3_init)
def zm_X3_read : zv_Mt := (yX3_read, cX3_read, 4, none, 2, 0, 3, 0, zt_X3_read)
def zm_X3_readTold : zv_Mt := (yX3_readTold, cX3_readTold, 6, none, 2, 0, 3, 0, zt_X3_readTold)
def zm_X3_hasRouter : zv_Mt := (yX3_hasRouter, cX3_hasRouter, 2, some .boolean, 2, 1, 3, 0, zt_X3_hasRouter)
def zm_X3_hasExit : zv_Mt := (yX3_hasExit, cX3_hasExit, 2, some .boolean, 2, 1, 3, 0, zt_X3_hasExit)
def zm_X3_sessionOf : zv_Mt := (yX3_sessionOf, cX3_sessionOf, 4, some .int, 3, 1, 3, 0, zt_X3_sessionOf)
def zm_X3_toldBy : zv_Mt := (yX3_toldBy, cX3_toldBy, 4, some .int, 3, 1, 3, 0, zt_X3_toldBy)
def zm_X3_exitsTo : zv_Mt := (yX3_exitsTo, cX3_exitsTo, 4, some .int, 2, 1, 3, 0, zt_X3_exitsTo)
def zm_X3_sessionCount : zv_Mt := (yX3_sessionCount, cX3_sessionCount, 3, some .int, 1, 1, 3, 0, zt_X3_sessionCount)
def zm_X4_init : zv_Mt := (yX4_init, cX4_init, 1, none, 1, 0, 4, 2, zt_X4_init)
def zm_X4_scan : zv_Mt := (yX4_scan, cX4_scan, 2, some .int, 1, 1, 4, 0, zt_X4_scan)
def zm_X4_scanHead : zv_Mt := (yX4_scanHead, cX4_scanHead, 2, some .boolean, 1, 1, 4, 0, zt_X4_scanHead)
def zm_X4_scanPart : zv_Mt := (yX4_scanPart, cX4_scanPart, 1, some .boolean, 1, 1, 4, 0, zt_X4_scanPart)
def zm_X4_scanLink : zv_Mt := (yX4_scanLink, cX4_scanLink, 3, some .boolean, 1, 1, 4, 0, zt_X4_scanLink)
def zm_X4_scanSession : zv_Mt := (yX4_scanSession, cX4_scanSession, 4, some .boolean, 3, 1, 4, 0, zt_X4_scanSession)
def zm_X4_scanExit : zv_Mt := (yX4_scanExit, cX4_scanExit, 5, some .boolean, 1, 1, 4, 0, zt_X4_scanExit)
def zm_X4_scanPair : zv_Mt := (yX4_scanPair, cX4_scanPair, 4, some .int, 2, 1, 4, 0, zt_X4_scanPair)
def zm_X4_setPair : zv_Mt := (yX4_setPair, cX4_setPair, 5, none, 4, 0, 4, 1, zt_X4_setPair)
def zm_X4_anyFree : zv_Mt := (yX4_anyFree, cX4_anyFree, 3, some .boolean, 2, 1, 4, 0, zt_X4_anyFree)
def zm_X4_hasFree : zv_Mt := (yX4_hasFree, cX4_hasFree, 4, some .boolean, 3, 1, 4, 0, zt_X4_hasFree)
def zm_X4_isFree : zv_Mt := (yX4_isFree, cX4_isFree, 4, some .boolean, 3, 1, 4, 1, zt_X4_isFree)
def zm_X4_sign : zv_Mt := (yX4_sign, cX4_sign, 1, some .int, 1, 1, 4, 0, zt_X4_sign)
def zm_X4_digit : zv_Mt := (yX4_digit, cX4_digit, 4, some .int, 3, 1, 4, 0, zt_X4_digit)
def zm_X5_init : zv_Mt := (yX5_init, cX5_init, 1, none, 1, 0, 5, 2, zt_X5_init)
def zm_X5_note : zv_Mt := (yX5_note, cX5_note, 4, none, 4, 0, 5, 0, zt_X5_note)
def zm_X5_agree : zv_Mt := (yX5_agree, cX5_agree, 7, some .boolean, 3, 1, 5, 0, zt_X5_agree)
def zm_X6_init : zv_Mt := (yX6_init, cX6_init, 2, none, 2, 0, 6, 2, zt_X6_init)
def zm_X6_begin : zv_Mt := (yX6_begin, cX6_begin, 2, none, 2, 0, 6, 0, zt_X6_begin)
def zm_X6_restore : zv_Mt := (yX6_restore, cX6_restore, 2, none, 2, 0, 6, 0, zt_X6_restore)
def zm_X6_copyFrom : zv_Mt := (yX6_copyFrom, cX6_copyFrom, 2, none, 2, 0, 6, 0, zt_X6_copyFrom)
def zm_X6_changeCost : zv_Mt := (yX6_changeCost, cX6_changeCost, 6, none, 4, 0, 6, 0, zt_X6_changeCost)
def zm_X6_changeWeight : zv_Mt := (yX6_changeWeight, cX6_changeWeight, 3, none, 3, 0, 6, 0, zt_X6_changeWeight)
def zm_X6_changeMode : zv_Mt := (yX6_changeMode, cX6_changeMode, 2, none, 2, 0, 6, 0, zt_X6_changeMode)
def zm_X6_forgetPicks : zv_Mt := (yX6_forgetPicks, cX6_forgetPicks, 1, none, 1, 0, 6, 0, zt_X6_forgetPicks)
def zm_X6_measure : zv_Mt := (yX6_measure, cX6_measure, 7, none, 1, 0, 6, 0, zt_X6_measure)
def zm_X6_findNear : zv_Mt := (yX6_findNear, cX6_findNear, 3, none, 1, 0, 6, 0, zt_X6_findNear)
def zm_X6_distance : zv_Mt := (yX6_distance, cX6_distance, 4, some .int, 3, 1, 6, 0, zt_X6_distance)
def zm_X6_stepOne : zv_Mt := (yX6_stepOne, cX6_stepOne, 3, some .boolean, 2, 1, 6, 0, zt_X6_stepOne)
def zm_X6_stepAll : zv_Mt := (yX6_stepAll, cX6_stepAll, 3, some .int, 1, 1, 6, 0, zt_X6_stepAll)
def zm_X6_decide : zv_Mt := (yX6_decide, cX6_decide, 6, some .int, 2, 1, 6, 0, zt_X6_decide)
def zm_X6_listen : zv_Mt := (yX6_listen, cX6_listen, 6, some .int, 2, 1, 6, 0, zt_X6_listen)
def zm_X6_take : zv_Mt := (yX6_take, cX6_take, 8, some .int, 5, 1, 6, 0, zt_X6_take)
def zm_X6_pick : zv_Mt := (yX6_pick, cX6_pick, 4, some .int, 3, 1, 6, 0, zt_X6_pick)
def zm_X6_compare : zv_Mt := (yX6_compare, cX6_compare, 6, some .int, 3, 1, 6, 0, zt_X6_compare)
def zm_X6_smallest : zv_Mt := (yX6_smallest, cX6_smallest, 5, some .int, 2, 1, 6, 1, zt_X6_smallest)
def zm_X6_send : zv_Mt := (yX6_send, cX6_send, 6, some .int, 2, 1, 6, 0, zt_X6_send)
def zm_X6_nextHop : zv_Mt := (yX6_nextHop, cX6_nextHop, 8, some .int, 3, 1, 6, 0, zt_X6_nextHop)
def zm_X6_restNumber : zv_Mt := (yX6_restNumber, cX6_restNumber, 4, some .int, 1, 1, 6, 0, zt_X6_restNumber)
def zm_X7_init : zv_Mt := (yX7_init, cX7_init, 1, none, 1, 0, 7, 2, zt_X7_init)
def zm_X7_copyFrom : zv_Mt := (yX7_copyFrom, cX7_copyFrom, 2, none, 2, 0, 7, 0, zt_X7_copyFrom)
def zm_X7_read : zv_Mt := (yX7_read, cX7_read, 2, none, 2, 0, 7, 0, zt_X7_read)
def zm_X7_forgetChoices : zv_Mt := (yX7_forgetChoices, cX7_forgetChoices, 1, none, 1, 0, 7, 0, zt_X7_forgetChoices)
def zm_X7_costOf : zv_Mt := (yX7_costOf, cX7_costOf, 4, some .int, 3, 1, 7, 0, zt_X7_costOf)
def zm_X7_flip : zv_Mt := (yX7_flip, cX7_flip, 2, none, 2, 0, 7, 0, zt_X7_flip)
def zm_X7_extend : zv_Mt := (yX7_extend, cX7_extend, 2, none, 2, 0, 7, 0, zt_X7_extend)
def zm_X7_firstRoute : zv_Mt := (yX7_firstRoute, cX7_firstRoute, 2, some .int, 2, 1, 7, 0, zt_X7_firstRoute)
def zm_X7_secondRoute : zv_Mt := (yX7_secondRoute, cX7_secondRoute, 2, some .int, 2, 1, 7, 0, zt_X7_secondRoute)
def zm_X7_firstExit : zv_Mt := (yX7_firstExit, cX7_firstExit, 3, some .int, 2, 1, 7, 0, zt_X7_firstExit)
def zm_X7_linkCount : zv_Mt := (yX7_linkCount, cX7_linkCount, 3, some .int, 1, 1, 7, 0, zt_X7_linkCount)
def zm_X7_chosenSet : zv_Mt := (yX7_chosenSet, cX7_chosenSet, 3, some .int, 1, 1, 7, 0, zt_X7_chosenSet)
def zm_X7_chosenExits : zv_Mt := (yX7_chosenExits, cX7_chosenExits, 4, some .int, 1, 1, 7, 0, zt_X7_chosenExits)
def zm_X8_init : zv_Mt := (yX8_init, cX8_init, 2, none, 1, 0, 8, 2, zt_X8_init)
def zm_X8_write : zv_Mt := (yX8_write, cX8_write, 2, some .int, 2, 1, 8, 0, zt_X8_write)
def zm_X8_wipe : zv_Mt := (yX8_wipe, cX8_wipe, 2, some .int, 1, 1, 8, 0, zt_X8_wipe)
def zm_X8_fault : zv_Mt := (yX8_fault, cX8_fault, 2, some .int, 1, 1, 8, 0, zt_X8_fault)
def zm_X8_domain : zv_Mt := (yX8_domain, cX8_domain, 2, some .int, 1, 1, 8, 0, zt_X8_domain)
def zm_X8_link : zv_Mt := (yX8_link, cX8_link, 5, some .int, 4, 1, 8, 0, zt_X8_link)
def zm_X8_session : zv_Mt := (yX8_session, cX8_session, 3, some .int, 3, 1, 8, 0, zt_X8_session)
def zm_X8_exit : zv_Mt := (yX8_exit, cX8_exit, 3, some .int, 3, 1, 8, 0, zt_X8_exit)
def zm_X8_step : zv_Mt := (yX8_step, cX8_step, 2, some .int, 2, 1, 8, 0, zt_X8_step)
def zm_X8_round : zv_Mt := (yX8_round, cX8_round, 1, some .int, 1, 1, 8, 0, zt_X8_round)
def zm_X8_setLink : zv_Mt := (yX8_setLink, cX8_setLink, 5, some .int, 4, 1, 8, 0, zt_X8_setLink)
def zm_X8_turn : zv_Mt := (yX8_turn, cX8_turn, 2, some .int, 2, 1, 8, 0, zt_X8_turn)
def zm_X8_weigh : zv_Mt := (yX8_weigh, cX8_weigh, 4, some .int, 3, 1, 8, 0, zt_X8_weigh)
def zm_X8_add : zv_Mt := (yX8_add, cX8_add, 2, some .int, 2, 1, 8, 0, zt_X8_add)
def zm_X8_setMode : zv_Mt := (yX8_setMode, cX8_setMode, 3, some .int, 2, 1, 8, 0, zt_X8_setMode)
def zm_X8_undo : zv_Mt := (yX8_undo, cX8_undo, 1, some .int, 1, 1, 8, 0, zt_X8_undo)
def zm_X8_choice : zv_Mt := (yX8_choice, cX8_choice, 5, some .int, 4, 1, 8, 0, zt_X8_choice)
def zm_X8_heard : zv_Mt := (yX8_heard, cX8_heard, 2, some .int, 2, 1, 8, 0, zt_X8_heard)
def zm_X8_tells : zv_Mt := (yX8_tells, cX8_tells, 4, some .int, 3, 1, 8, 0, zt_X8_tells)
def zm_X8_mesh : zv_Mt := (yX8_mesh, cX8_mesh, 3, some .int, 2, 1, 8, 0, zt_X8_mesh)
def zm_X8_leaves : zv_Mt := (yX8_leaves, cX8_leaves, 4, some .int, 3, 1, 8, 0, zt_X8_leaves)
def zm_X8_run : zv_Mt := (yX8_run, cX8_run, 3, some .int, 3, 1, 8, 0, zt_X8_run)
def zm_X8_orders : zv_Mt := (yX8_orders, cX8_orders, 2, some .int, 2, 1, 8, 0, zt_X8_orders)
def zm_X8_healed : zv_Mt := (yX8_healed, cX8_healed, 4, some .int, 2, 1, 8, 0, zt_X8_healed)
def zm_X8_judge : zv_Mt := (yX8_judge, cX8_judge, 7, some .int, 3, 1, 8, 0, zt_X8_judge)
def zm_X8_see : zv_Mt := (yX8_see, cX8_see, 4, some .int, 4, 1, 8, 0, zt_X8_see)
def zm_X8_unsee : zv_Mt := (yX8_unsee, cX8_unsee, 2, some .int, 1, 1, 8, 0, zt_X8_unsee)
def zm_X8_which : zv_Mt := (yX8_which, cX8_which, 4, some .int, 1, 1, 8, 0, zt_X8_which)
def zm_X8_share : zv_Mt := (yX8_share, cX8_share, 6, some .int, 3, 1, 8, 0, zt_X8_share)
def zm_X8_lost : zv_Mt := (yX8_lost, cX8_lost, 7, some .int, 3, 1, 8, 0, zt_X8_lost)
def zm_X8_seed : zv_Mt := (yX8_seed, cX8_seed, 5, some .long, 2, 2, 8, 0, zt_X8_seed)
def zm_X8_drawn : zv_Mt := (yX8_drawn, cX8_drawn, 5, some .int, 2, 1, 8, 0, zt_X8_drawn)
def zm_X8_keep : zv_Mt := (yX8_keep, cX8_keep, 2, some .int, 2, 1, 8, 0, zt_X8_keep)
def zm_X8_again : zv_Mt := (yX8_again, cX8_again, 2, some .int, 2, 1, 8, 0, zt_X8_again)
def zm_X8_count : zv_Mt := (yX8_count, cX8_count, 2, some .int, 2, 1, 8, 0, zt_X8_count)
def zm_X8_exitOf : zv_Mt := (yX8_exitOf, cX8_exitOf, 1, some .int, 1, 1, 8, 1, zt_X8_exitOf)
def zm_X8_fromOf : zv_Mt := (yX8_fromOf, cX8_fromOf, 1, some .int, 1, 1, 8, 1, zt_X8_fromOf)
def zm_X8_routeOf : zv_Mt := (yX8_routeOf, cX8_routeOf, 3, some .int, 3, 1, 8, 1, zt_X8_routeOf)
def zm_X8_factorial : zv_Mt := (yX8_factorial, cX8_factorial, 1, some .int, 1, 1, 8, 1, zt_X8_factorial)
def zm_X8_commonDivisor : zv_Mt := (yX8_commonDivisor, cX8_commonDivisor, 6, some .int, 2, 1, 8, 1, zt_X8_commonDivisor)
def zm_X8_part : zv_Mt := (yX8_part, cX8_part, 4, some .int, 3, 1, 8, 1, zt_X8_part)
def zm_X8_restsAnew : zv_Mt := (yX8_restsAnew, cX8_restsAnew, 1, some .boolean, 1, 1, 8, 0, zt_X8_restsAnew)
def zm_X8_gainFactor : zv_Mt := (yX8_gainFactor, cX8_gainFactor, 4, some .int, 3, 1, 8, 0, zt_X8_gainFactor)
def zm_X8_chanceOf : zv_Mt := (yX8_chanceOf, cX8_chanceOf, 5, some .int, 3, 1, 8, 0, zt_X8_chanceOf)
def zm_X8_holds : zv_Mt := (yX8_holds, cX8_holds, 6, some .boolean, 2, 1, 8, 0, zt_X8_holds)
def zm_X8_happens : zv_Mt := (yX8_happens, cX8_happens, 3, some .boolean, 3, 1, 8, 0, zt_X8_happens)
def zm_X8_canBeAnswer : zv_Mt := (yX8_canBeAnswer, cX8_canBeAnswer, 3, some .boolean, 3, 1, 8, 0, zt_X8_canBeAnswer)
def zm_X8_isExit : zv_Mt := (yX8_isExit, cX8_isExit, 2, some .boolean, 2, 1, 8, 1, zt_X8_isExit)
def zm_X9_init : zv_Mt := (yX9_init, cX9_init, 1, none, 1, 0, 9, 2, zt_X9_init)
def zm_X9_in : zv_Mt := (yX9_in, cX9_in, 6, some .boolean, 3, 1, 9, 1, zt_X9_in)
def zm_X9_has : zv_Mt := (yX9_has, cX9_has, 2, some .boolean, 2, 1, 9, 1, zt_X9_has)
def zm_X9_ones : zv_Mt := (yX9_ones, cX9_ones, 3, some .int, 1, 1, 9, 1, zt_X9_ones)
def zm_X9_power : zv_Mt := (yX9_power, cX9_power, 4, some .int, 2, 1, 9, 1, zt_X9_power)
def zm_X9_clearChoices : zv_Mt := (yX9_clearChoices, cX9_clearChoices, 2, none, 1, 0, 9, 1, zt_X9_clearChoices)
def zm_X9_lay : zv_Mt := (yX9_lay, cX9_lay, 3, none, 2, 0, 9, 1, zt_X9_lay)
def zm_X9_noRouter : zv_Mt := (yX9_noRouter, cX9_noRouter, 2, some .boolean, 2, 1, 9, 0, zt_X9_noRouter)
def zm_X9_noExit : zv_Mt := (yX9_noExit, cX9_noExit, 2, some .boolean, 2, 1, 9, 0, zt_X9_noExit)
def zm_X9_pair : zv_Mt := (yX9_pair, cX9_pair, 3, some .int, 3, 1, 9, 1, zt_X9_pair)
def zm_X9_write : zv_Mt := (yX9_write, cX9_write, 2, some .int, 2, 1, 9, 0, zt_X9_write)
def zm_X9_wipe : zv_Mt := (yX9_wipe, cX9_wipe, 2, some .int, 1, 1, 9, 0, zt_X9_wipe)
def zm_X9_figure : zv_Mt := (yX9_figure, cX9_figure, 3, some .int, 3, 1, 9, 0, zt_X9_figure)
def zm_X9_apart : zv_Mt := (yX9_apart, cX9_apart, 5, some .int, 3, 1, 9, 0, zt_X9_apart)
def zm_X9_isAnyApart : zv_Mt := (yX9_isAnyApart, cX9_isAnyApart, 4, some .boolean, 2, 1, 9, 0, zt_X9_isAnyApart)
def zm_X9_readTwo : zv_Mt := (yX9_readTwo, cX9_readTwo, 2, some .boolean, 2, 1, 9, 0, zt_X9_readTwo)
def zm_X9_readLink : zv_Mt := (yX9_readLink, cX9_readLink, 2, some .boolean, 1, 1, 9, 0, zt_X9_readLink)
def zm_X9_readSession : zv_Mt := (yX9_readSession, cX9_readSession, 2, some .boolean, 2, 1, 9, 0, zt_X9_readSession)
def zm_X9_readExit : zv_Mt := (yX9_readExit, cX9_readExit, 4, some .boolean, 1, 1, 9, 0, zt_X9_readExit)
def zm_X9_readPart : zv_Mt := (yX9_readPart, cX9_readPart, 3, some .boolean, 1, 1, 9, 0, zt_X9_readPart)
def zm_X9_readDomain : zv_Mt := (yX9_readDomain, cX9_readDomain, 2, some .int, 1, 1, 9, 0, zt_X9_readDomain)
def zm_X9_fault : zv_Mt := (yX9_fault, cX9_fault, 1, some .int, 1, 1, 9, 0, zt_X9_fault)
def zm_X9_domain : zv_Mt := (yX9_domain, cX9_domain, 1, some .int, 1, 1, 9, 0, zt_X9_domain)
def zm_X9_layCosts : zv_Mt := (yX9_layCosts, cX9_layCosts, 11, none, 2, 0, 9, 0, zt_X9_layCosts)
def zm_X9_link : zv_Mt := (yX9_link, cX9_link, 4, some .int, 4, 1, 9, 0, zt_X9_link)
def zm_X9_session : zv_Mt := (yX9_session, cX9_session, 3, some .int, 3, 1, 9, 0, zt_X9_session)
def zm_X9_exitOf : zv_Mt := (yX9_exitOf, cX9_exitOf, 3, some .int, 3, 1, 9, 1, zt_X9_exitOf)
def zm_X9_exit : zv_Mt := (yX9_exit, cX9_exit, 3, some .int, 3, 1, 9, 0, zt_X9_exit)
def zm_X9_at : zv_Mt := (yX9_at, cX9_at, 2, some .int, 2, 1, 9, 1, zt_X9_at)
def zm_X9_isTold : zv_Mt := (yX9_isTold, cX9_isTold, 6, some .boolean, 4, 1, 9, 1, zt_X9_isTold)
def zm_X9_hear : zv_Mt := (yX9_hear, cX9_hear, 5, none, 4, 0, 9, 0, zt_X9_hear)
def zm_X9_gather : zv_Mt := (yX9_gather, cX9_gather, 8, none, 3, 0, 9, 0, zt_X9_gather)
def zm_X9_weighed : zv_Mt := (yX9_weighed, cX9_weighed, 5, some .int, 5, 1, 9, 0, zt_X9_weighed)
def zm_X9_leave : zv_Mt := (yX9_leave, cX9_leave, 8, some .int, 5, 1, 9, 0, zt_X9_leave)
def zm_X9_leaveByNeighbours : zv_Mt := (yX9_leaveByNeighbours, cX9_leaveByNeighbours, 8, some .int, 3, 1, 9, 0, zt_X9_leaveByNeighbours)
def zm_X9_best : zv_Mt := (yX9_best, cX9_best, 7, some .int, 4, 1, 9, 0, zt_X9_best)
def zm_X9_gathered : zv_Mt := (yX9_gathered, cX9_gathered, 3, some .int, 1, 1, 9, 0, zt_X9_gathered)
def zm_X9_putTaken : zv_Mt := (yX9_putTaken, cX9_putTaken, 3, none, 3, 0, 9, 0, zt_X9_putTaken)
def zm_X9_take : zv_Mt := (yX9_take, cX9_take, 6, none, 3, 0, 9, 0, zt_X9_take)
def zm_X9_putChoices : zv_Mt := (yX9_putChoices, cX9_putChoices, 6, some .boolean, 3, 1, 9, 0, zt_X9_putChoices)
def zm_X9_stepOn : zv_Mt := (yX9_stepOn, cX9_stepOn, 3, some .boolean, 3, 1, 9, 0, zt_X9_stepOn)
def zm_X9_roundOn : zv_Mt := (yX9_roundOn, cX9_roundOn, 5, some .int, 2, 1, 9, 0, zt_X9_roundOn)
def zm_X9_note : zv_Mt := (yX9_note, cX9_note, 2, none, 1, 0, 9, 0, zt_X9_note)
def zm_X9_step : zv_Mt := (yX9_step, cX9_step, 2, some .int, 2, 1, 9, 0, zt_X9_step)
def zm_X9_round : zv_Mt := (yX9_round, cX9_round, 1, some .int, 1, 1, 9, 0, zt_X9_round)
def zm_X9_setLink : zv_Mt := (yX9_setLink, cX9_setLink, 5, some .int, 4, 1, 9, 0, zt_X9_setLink)
def zm_X9_turn : zv_Mt := (yX9_turn, cX9_turn, 2, some .int, 2, 1, 9, 0, zt_X9_turn)
def zm_X9_weigh : zv_Mt := (yX9_weigh, cX9_weigh, 4, some .int, 3, 1, 9, 0, zt_X9_weigh)
def zm_X9_addOn : zv_Mt := (yX9_addOn, cX9_addOn, 3, none, 2, 0, 9, 1, zt_X9_addOn)
def zm_X9_add : zv_Mt := (yX9_add, cX9_add, 2, some .int, 2, 1, 9, 0, zt_X9_add)
def zm_X9_setMode : zv_Mt := (yX9_setMode, cX9_setMode, 3, some .int, 2, 1, 9, 0, zt_X9_setMode)
def zm_X9_undo : zv_Mt := (yX9_undo, cX9_undo, 2, some .int, 1, 1, 9, 0, zt_X9_undo)
def zm_X9_choice : zv_Mt := (yX9_choice, cX9_choice, 4, some .int, 4, 1, 9, 0, zt_X9_choice)
def zm_X9_heard : zv_Mt := (yX9_heard, cX9_heard, 2, some .int, 2, 1, 9, 0, zt_X9_heard)
def zm_X9_tells : zv_Mt := (yX9_tells, cX9_tells, 3, some .int, 3, 1, 9, 0, zt_X9_tells)
def zm_X9_mesh : zv_Mt := (yX9_mesh, cX9_mesh, 4, some .int, 2, 1, 9, 0, zt_X9_mesh)
def zm_X9_leaveFrom : zv_Mt := (yX9_leaveFrom, cX9_leaveFrom, 12, some .int, 3, 1, 9, 0, zt_X9_leaveFrom)
def zm_X9_leaves : zv_Mt := (yX9_leaves, cX9_leaves, 4, some .int, 3, 1, 9, 0, zt_X9_leaves)
def zm_X9_noteState : zv_Mt := (yX9_noteState, cX9_noteState, 4, none, 3, 0, 9, 0, zt_X9_noteState)
def zm_X9_areSame : zv_Mt := (yX9_areSame, cX9_areSame, 5, some .boolean, 3, 1, 9, 0, zt_X9_areSame)
def zm_X9_runOn : zv_Mt := (yX9_runOn, cX9_runOn, 4, none, 2, 0, 9, 0, zt_X9_runOn)
def zm_X9_told : zv_Mt := (yX9_told, cX9_told, 4, some .int, 1, 1, 9, 1, zt_X9_told)
def zm_X9_rests : zv_Mt := (yX9_rests, cX9_rests, 3, some .boolean, 3, 1, 9, 0, zt_X9_rests)
def zm_X9_run : zv_Mt := (yX9_run, cX9_run, 3, some .int, 3, 1, 9, 0, zt_X9_run)
def zm_X9_restsBy : zv_Mt := (yX9_restsBy, cX9_restsBy, 6, some .boolean, 2, 1, 9, 0, zt_X9_restsBy)
def zm_X9_isOrder : zv_Mt := (yX9_isOrder, cX9_isOrder, 4, some .boolean, 2, 1, 9, 0, zt_X9_isOrder)
def zm_X9_orders : zv_Mt := (yX9_orders, cX9_orders, 9, some .int, 2, 1, 9, 0, zt_X9_orders)
def zm_X9_healed : zv_Mt := (yX9_healed, cX9_healed, 4, some .int, 2, 1, 9, 0, zt_X9_healed)
def zm_X9_longPower : zv_Mt := (yX9_longPower, cX9_longPower, 6, some .long, 2, 2, 9, 1, zt_X9_longPower)
def zm_X9_runsToRest : zv_Mt := (yX9_runsToRest, cX9_runsToRest, 1, some .boolean, 1, 1, 9, 0, zt_X9_runsToRest)
def zm_X9_does : zv_Mt := (yX9_does, cX9_does, 7, some .boolean, 2, 1, 9, 0, zt_X9_does)
def zm_X9_judge : zv_Mt := (yX9_judge, cX9_judge, 5, some .int, 3, 1, 9, 0, zt_X9_judge)
def zm_X9_see : zv_Mt := (yX9_see, cX9_see, 4, some .int, 4, 1, 9, 0, zt_X9_see)
def zm_X9_unsee : zv_Mt := (yX9_unsee, cX9_unsee, 2, some .int, 1, 1, 9, 0, zt_X9_unsee)
def zm_X9_agrees : zv_Mt := (yX9_agrees, cX9_agrees, 8, some .boolean, 2, 1, 9, 0, zt_X9_agrees)
def zm_X9_which : zv_Mt := (yX9_which, cX9_which, 3, some .int, 1, 1, 9, 0, zt_X9_which)
def zm_X9_divisor : zv_Mt := (yX9_divisor, cX9_divisor, 5, some .int, 2, 1, 9, 1, zt_X9_divisor)
def zm_X9_fraction : zv_Mt := (yX9_fraction, cX9_fraction, 4, some .int, 3, 1, 9, 1, zt_X9_fraction)
def zm_X9_factorial : zv_Mt := (yX9_factorial, cX9_factorial, 3, some .int, 1, 1, 9, 1, zt_X9_factorial)
def zm_X9_unlikeBy : zv_Mt := (yX9_unlikeBy, cX9_unlikeBy, 5, some .int, 2, 1, 9, 0, zt_X9_unlikeBy)
def zm_X9_share : zv_Mt := (yX9_share, cX9_share, 7, some .int, 3, 1, 9, 0, zt_X9_share)
def zm_X9_lost : zv_Mt := (yX9_lost, cX9_lost, 7, some .int, 3, 1, 9, 0, zt_X9_lost)
def zm_X9_seed : zv_Mt := (yX9_seed, cX9_seed, 5, some .long, 2, 2, 9, 0, zt_X9_seed)
def zm_X9_drawn : zv_Mt := (yX9_drawn, cX9_drawn, 6, some .int, 2, 1, 9, 0, zt_X9_drawn)
def zm_X9_keep : zv_Mt := (yX9_keep, cX9_keep, 3, some .int, 2, 1, 9, 0, zt_X9_keep)
def zm_X9_again : zv_Mt := (yX9_again, cX9_again, 3, some .int, 2, 1, 9, 0, zt_X9_again)
def zm_X9_joined : zv_Mt := (yX9_joined, cX9_joined, 5, some .int, 2, 1, 9, 0, zt_X9_joined)
def zm_X9_withFirst : zv_Mt := (yX9_withFirst, cX9_withFirst, 3, some .int, 1, 1, 9, 0, zt_X9_withFirst)
def zm_X9_count : zv_Mt := (yX9_count, cX9_count, 2, some .int, 2, 1, 9, 0, zt_X9_count)
def zv_ms : Nat → Option zv_Mt := fun k => bif Nat.blt k 217 then (bif Nat.blt k 108 then (bif Nat.blt k 54 then (bif Nat.blt k 27 then (bif Nat.blt k 13 then (bif Nat.blt k 6 then (bif Nat.blt k 3 then (bif Nat.blt k 1 then some zm_J_bitCount else (bif Nat.blt k 2 then some zm_J_fill else some zm_X0_init)) else (bif Nat.blt k 4 then some zm_X0_follow else (bif Nat.blt k 5 then some zm_X0_takeBack else some zm_X0_record))) else (bif Nat.blt k 9 then (bif Nat.blt k 7 then some zm_X0_earlier else (bif Nat.blt k 8 then some zm_X0_alike else some zm_X1_init)) else (bif Nat.blt k 11 then (bif Nat.blt k 10 then some zm_X1_tryAll else some zm_X1_restsInOrder) else (bif Nat.blt k 12 then some zm_X1_mark else some zm_X1_isMarked)))) else (bif Nat.blt k 20 then (bif Nat.blt k 16 then (bif Nat.blt k 14 then some zm_X1_note else (bif Nat.blt k 15 then some zm_X1_goToNextOrder else some zm_X1_swap)) else (bif Nat.blt k 18 then (bif Nat.blt k 17 then some zm_X2_init else some zm_X2_save) else (bif Nat.blt k 19 then some zm_X2_latest else some zm_X3_init))) else (bif Nat.blt k 23 then (bif Nat.blt k 21 then some zm_X3_read else (bif Nat.blt k 22 then some zm_X3_readTold else some zm_X3_hasRouter)) else (bif Nat.blt k 25 then (bif Nat.blt k 24 then some zm_X3_hasExit else some zm_X3_sessionOf) else (bif Nat.blt k 26 then some zm_X3_toldBy else some zm_X3_exitsTo))))) else (bif Nat.blt k 40 then (bif Nat.blt k 33 then (bif Nat.blt k 30 then (bif Nat.blt k 28 then some zm_X3_sessionCount else (bif Nat.blt k 29 then some zm_X4_init else some zm_X4_scan)) else (bif Nat.blt k 31 then some zm_X4_scanHead else (bif Nat.blt k 32 then some zm_X4_scanPart else some zm_X4_scanLink))) else (bif Nat.blt k 36 then (bif Nat.blt k 34 then some zm_X4_scanSession else (bif Nat.blt k 35 then some zm_X4_scanExit else some zm_X4_scanPair)) else (bif Nat.blt k 38 then (bif Nat.blt k 37 then some zm_X4_setPair else some zm_X4_anyFree) else (bif Nat.blt k 39 then some zm_X4_hasFree else some zm_X4_isFree)))) else (bif Nat.blt k 47 then (bif Nat.blt k 43 then (bif Nat.blt k 41 then some zm_X4_sign else (bif Nat.blt k 42 then some zm_X4_digit else some zm_X5_init)) else (bif Nat.blt k 45 then (bif Nat.blt k 44 then some zm_X5_note else some zm_X5_agree) else (bif Nat.blt k 46 then some zm_X6_init else some zm_X6_begin))) else (bif Nat.blt k 50 then (bif Nat.blt k 48 then some zm_X6_restore else (bif Nat.blt k 49 then some zm_X6_copyFrom else some zm_X6_changeCost)) else (bif Nat.blt k 52 then (bif Nat.blt k 51 then some zm_X6_changeWeight else some zm_X6_changeMode) else (bif Nat.blt k 53 then some zm_X6_forgetPicks else some zm_X6_measure)))))) else (bif Nat.blt k 81 then (bif Nat.blt k 67 then (bif Nat.blt k 60 then (bif Nat.blt k 57 then (bif Nat.blt k 55 then some zm_X6_findNear else (bif Nat.blt k 56 then some zm_X6_distance else some zm_X6_stepOne)) else (bif Nat.blt k 58 then some zm_X6_stepAll else (bif Nat.blt k 59 then some zm_X6_decide else some zm_X6_listen))) else (bif Nat.blt k 63 then (bif Nat.blt k 61 then some zm_X6_take else (bif Nat.blt k 62 then some zm_X6_pick else some zm_X6_compare)) else (bif Nat.blt k 65 then (bif Nat.blt k 64 then some zm_X6_smallest else some zm_X6_send) else (bif Nat.blt k 66 then some zm_X6_nextHop else some zm_X6_restNumber)))) else (bif Nat.blt k 74 then (bif Nat.blt k 70 then (bif Nat.blt k 68 then some zm_X7_init else (bif Nat.blt k 69 then some zm_X7_copyFrom else some zm_X7_read)) else (bif Nat.blt k 72 then (bif Nat.blt k 71 then some zm_X7_forgetChoices else some zm_X7_costOf) else (bif Nat.blt k 73 then some zm_X7_flip else some zm_X7_extend))) else (bif Nat.blt k 77 then (bif Nat.blt k 75 then some zm_X7_firstRoute else (bif Nat.blt k 76 then some zm_X7_secondRoute else some zm_X7_firstExit)) else (bif Nat.blt k 79 then (bif Nat.blt k 78 then some zm_X7_linkCount else some zm_X7_chosenSet) else (bif Nat.blt k 80 then some zm_X7_chosenExits else some zm_X8_init))))) else (bif Nat.blt k 94 then (bif Nat.blt k 87 then (bif Nat.blt k 84 then (bif Nat.blt k 82 then some zm_X8_write else (bif Nat.blt k 83 then some zm_X8_wipe else some zm_X8_fault)) else (bif Nat.blt k 85 then some zm_X8_domain else (bif Nat.blt k 86 then some zm_X8_link else some zm_X8_session))) else (bif Nat.blt k 90 then (bif Nat.blt k 88 then some zm_X8_exit else (bif Nat.blt k 89 then some zm_X8_step else some zm_X8_round)) else (bif Nat.blt k 92 then (bif Nat.blt k 91 then some zm_X8_setLink else some zm_X8_turn) else (bif Nat.blt k 93 then some zm_X8_weigh else some zm_X8_add)))) else (bif Nat.blt k 101 then (bif Nat.blt k 97 then (bif Nat.blt k 95 then some zm_X8_setMode else (bif Nat.blt k 96 then some zm_X8_undo else some zm_X8_choice)) else (bif Nat.blt k 99 then (bif Nat.blt k 98 then some zm_X8_heard else some zm_X8_tells) else (bif Nat.blt k 100 then some zm_X8_mesh else some zm_X8_leaves))) else (bif Nat.blt k 104 then (bif Nat.blt k 102 then some zm_X8_run else (bif Nat.blt k 103 then some zm_X8_orders else some zm_X8_healed)) else (bif Nat.blt k 106 then (bif Nat.blt k 105 then some zm_X8_judge else some zm_X8_see) else (bif Nat.blt k 107 then some zm_X8_unsee else some zm_X8_which))))))) else (bif Nat.blt k 162 then (bif Nat.blt k 135 then (bif Nat.blt k 121 then (bif Nat.blt k 114 then (bif Nat.blt k 111 then (bif Nat.blt k 109 then some zm_X8_share else (bif Nat.blt k 110 then some zm_X8_lost else some zm_X8_seed)) else (bif Nat.blt k 112 then some zm_X8_drawn else (bif Nat.blt k 113 then some zm_X8_keep else some zm_X8_again))) else (bif Nat.blt k 117 then (bif Nat.blt k 115 then some zm_X8_count else (bif Nat.blt k 116 then some zm_X8_exitOf else some zm_X8_fromOf)) else (bif Nat.blt k 119 then (bif Nat.blt k 118 then some zm_X8_routeOf else some zm_X8_factorial) else (bif Nat.blt k 120 then some zm_X8_commonDivisor else some zm_X8_part)))) else (bif Nat.blt k 128 then (bif Nat.blt k 124 then (bif Nat.blt k 122 then some zm_X8_restsAnew else (bif Nat.blt k 123 then some zm_X8_gainFactor else some zm_X8_chanceOf)) else (bif Nat.blt k 126 then (bif Nat.blt k 125 then some zm_X8_holds else some zm_X8_happens) else (bif Nat.blt k 127 then some zm_X8_canBeAnswer else some zm_X8_isExit))) else (bif Nat.blt k 131 then (bif Nat.blt k 129 then some zm_X9_init else (bif Nat.blt k 130 then some zm_X9_in else some zm_X9_has)) else (bif Nat.blt k 133 then (bif Nat.blt k 132 then some zm_X9_ones else some zm_X9_power) else (bif Nat.blt k 134 then some zm_X9_clearChoices else some zm_X9_lay))))) else (bif Nat.blt k 148 then (bif Nat.blt k 141 then (bif Nat.blt k 138 then (bif Nat.blt k 136 then some zm_X9_noRouter else (bif Nat.blt k 137 then some zm_X9_noExit else some zm_X9_pair)) else (bif Nat.blt k 139 then some zm_X9_write else (bif Nat.blt k 140 then some zm_X9_wipe else some zm_X9_figure))) else (bif Nat.blt k 144 then (bif Nat.blt k 142 then some zm_X9_apart else (bif Nat.blt k 143 then some zm_X9_isAnyApart else some zm_X9_readTwo)) else (bif Nat.blt k 146 then (bif Nat.blt k 145 then some zm_X9_readLink else some zm_X9_readSession) else (bif Nat.blt k 147 then some zm_X9_readExit else some zm_X9_readPart)))) else (bif Nat.blt k 155 then (bif Nat.blt k 151 then (bif Nat.blt k 149 then some zm_X9_readDomain else (bif Nat.blt k 150 then some zm_X9_fault else some zm_X9_domain)) else (bif Nat.blt k 153 then (bif Nat.blt k 152 then some zm_X9_layCosts else some zm_X9_link) else (bif Nat.blt k 154 then some zm_X9_session else some zm_X9_exitOf))) else (bif Nat.blt k 158 then (bif Nat.blt k 156 then some zm_X9_exit else (bif Nat.blt k 157 then some zm_X9_at else some zm_X9_isTold)) else (bif Nat.blt k 160 then (bif Nat.blt k 159 then some zm_X9_hear else some zm_X9_gather) else (bif Nat.blt k 161 then some zm_X9_weighed else some zm_X9_leave)))))) else (bif Nat.blt k 189 then (bif Nat.blt k 175 then (bif Nat.blt k 168 then (bif Nat.blt k 165 then (bif Nat.blt k 163 then some zm_X9_leaveByNeighbours else (bif Nat.blt k 164 then some zm_X9_best else some zm_X9_gathered)) else (bif Nat.blt k 166 then some zm_X9_putTaken else (bif Nat.blt k 167 then some zm_X9_take else some zm_X9_putChoices))) else (bif Nat.blt k 171 then (bif Nat.blt k 169 then some zm_X9_stepOn else (bif Nat.blt k 170 then some zm_X9_roundOn else some zm_X9_note)) else (bif Nat.blt k 173 then (bif Nat.blt k 172 then some zm_X9_step else some zm_X9_round) else (bif Nat.blt k 174 then some zm_X9_setLink else some zm_X9_turn)))) else (bif Nat.blt k 182 then (bif Nat.blt k 178 then (bif Nat.blt k 176 then some zm_X9_weigh else (bif Nat.blt k 177 then some zm_X9_addOn else some zm_X9_add)) else (bif Nat.blt k 180 then (bif Nat.blt k 179 then some zm_X9_setMode else some zm_X9_undo) else (bif Nat.blt k 181 then some zm_X9_choice else some zm_X9_heard))) else (bif Nat.blt k 185 then (bif Nat.blt k 183 then some zm_X9_tells else (bif Nat.blt k 184 then some zm_X9_mesh else some zm_X9_leaveFrom)) else (bif Nat.blt k 187 then (bif Nat.blt k 186 then some zm_X9_leaves else some zm_X9_noteState) else (bif Nat.blt k 188 then some zm_X9_areSame else some zm_X9_runOn))))) else (bif Nat.blt k 203 then (bif Nat.blt k 196 then (bif Nat.blt k 192 then (bif Nat.blt k 190 then some zm_X9_told else (bif Nat.blt k 191 then some zm_X9_rests else some zm_X9_run)) else (bif Nat.blt k 194 then (bif Nat.blt k 193 then some zm_X9_restsBy else some zm_X9_isOrder) else (bif Nat.blt k 195 then some zm_X9_orders else some zm_X9_healed))) else (bif Nat.blt k 199 then (bif Nat.blt k 197 then some zm_X9_longPower else (bif Nat.blt k 198 then some zm_X9_runsToRest else some zm_X9_does)) else (bif Nat.blt k 201 then (bif Nat.blt k 200 then some zm_X9_judge else some zm_X9_see) else (bif Nat.blt k 202 then some zm_X9_unsee else some zm_X9_agrees)))) else (bif Nat.blt k 210 then (bif Nat.blt k 206 then (bif Nat.blt k 204 then some zm_X9_which else (bif Nat.blt k 205 then some zm_X9_divisor else some zm_X9_fraction)) else (bif Nat.blt k 208 then (bif Nat.blt k 207 then some zm_X9_factorial else some zm_X9_unlikeBy) else (bif Nat.blt k 209 then some zm_X9_share else some zm_X9_lost))) else (bif Nat.blt k 213 then (bif Nat.blt k 211 then some zm_X9_seed else (bif Nat.blt k 212 then some zm_X9_drawn else some zm_X9_keep)) else (bif Nat.blt k 215 then (bif Nat.blt k 214 then some zm_X9_again else some zm_X9_joined) else (bif Nat.blt k 216 then some zm_X9_withFirst else some zm_X9_count)))))))) else none
theorem zmo_J_bitCount : zv_mok zm_J_bitCount := ⟨zgw_of (List.mem_append_right _ (List.mem_append_right _ (List.mem_append_left _ (List.mem_of_getElem? (i := 31) rfl)))) rfl, zgw_of (List.mem_append_left _ (List.mem_of_getElem? (i := 14) (by decide +kernel))) rfl, by decide +kernel, ⟨by decide +kernel, by decide +kernel⟩, rfl, by decide, ⟨zgw_of (List.mem_append_right _ (List.mem_append_right _ (List.mem_append_left _ (List.mem_of_getElem? (i := 30) (by decide +kernel))))) rfl, by decide +kernel⟩, Or.inl rfl⟩
theorem zmo_J_fill : zv_mok zm_J_fill := ⟨zgw_of (List.mem_append_left _ (List.mem_of_getElem? (i := 186) rfl)) rfl, zgw_of (List.mem_append_left _ (List.mem_of_getElem? (i := 7) (by decide +kernel))) rfl, by decide +kernel, ⟨by decide +kernel, by decide +kernel⟩, rfl, by decide, ⟨zgw_of (List.mem_append_left _ (List.mem_of_getElem? (i := 185) (by decide +kernel))) rfl, by decide +kernel⟩, rfl⟩
theorem zmo_X0_init : zv_mok zm_X0_init := ⟨zgw_of (List.mem_append_left _ (List.mem_of_getElem? (i := 227) rfl)) rfl, zgw_of (List.mem_append_left _ (List.mem_of_getElem? (i := 8) (by decide +kernel))) rfl, by decide +kernel, ⟨by decide +kernel, by decide +kernel⟩, rfl, by decide, ⟨zgw_of (List.mem_append_left _ (List.mem_of_getElem? (i := 226) (by decide +kernel))) rfl, rfl, rfl, rfl, by decide +kernel⟩, rfl⟩
theorem zmo_X0_follow : zv_mok zm_X0_follow := ⟨zgw_of (List.mem_append_right _ (List.mem_append_right _ (List.mem_append_left _ (List.mem_of_getElem? (i := 179) rfl)))) rfl, zgw_of (List.mem_append_left _ (List.mem_of_getElem? (i := 8) (by decide +kernel))) rfl, by decide +kernel, ⟨by decide +kernel, by decide +kernel⟩, rfl, by decide, ⟨zgw_of (List.mem_append_right _ (List.mem_append_right _ (List.mem_append_left _ (List.mem_of_getElem? (i := 177) (by decide +kernel))))) rfl, zgw_of (List.mem_append_right _ (List.mem_append_right _ (List.mem_append_left _ (List.mem_of_getElem? (i := 178) (by decide +kernel))))) rfl, by decide, by decide +kernel⟩, rfl⟩
theorem zmo_X0_takeBack : zv_mok zm_X0_takeBack := ⟨zgw_of (List.mem_append_right _ (List.mem_append_right _ (List.mem_append_right _ (List.mem_append_left _ (List.mem_of_getElem? (i := 30) rfl))))) rfl, zgw_of (List.mem_append_left _ (List.mem_of_getElem? (i := 8) (by decide +kernel))) rfl, by decide +kernel, ⟨by decide +kernel, by decide +kernel⟩, rfl, by decide, ⟨zgw_of (List.mem_append_right _ (List.mem_append_right _ (List.mem_append_right _ (List.mem_append_left _ (List.mem_of_getElem? (i := 28) (by decide +kernel)))))) rfl, zgw_of (List.mem_append_right _ (List.mem_append_right _ (List.mem_append_right _ (List.mem_append_left _ (List.mem_of_getElem? (i := 29) (by decide +kernel)))))) rfl, by decide, by decide +kernel⟩, rfl⟩
theorem zmo_X0_record : zv_mok zm_X0_record := ⟨zgw_of (List.mem_append_right _ (List.mem_append_right _ (List.mem_append_left _ (List.mem_of_getElem? (i := 183) rfl)))) rfl, zgw_of (List.mem_append_left _ (List.mem_of_getElem? (i := 8) (by decide +kernel))) rfl, by decide +kernel, ⟨by decide +kernel, by decide +kernel⟩, rfl, by decide, ⟨zgw_of (List.mem_append_right _ (List.mem_append_right _ (List.mem_append_left _ (List.mem_of_getElem? (i := 182) (by decide +kernel))))) rfl, zgw_sel (List.mem_of_getElem? (i := 18) (by decide +kernel)) rfl, by decide, by decide +kernel⟩, rfl⟩
theorem zmo_X0_earlier : zv_mok zm_X0_earlier := ⟨zgw_of (List.mem_append_right _ (List.mem_append_right _ (List.mem_append_left _ (List.mem_of_getElem? (i := 189) rfl)))) rfl, zgw_of (List.mem_append_left _ (List.mem_of_getElem? (i := 8) (by decide +kernel))) rfl, by decide +kernel, ⟨by decide +kernel, by decide +kernel⟩, rfl, by decide, ⟨zgw_of (List.mem_append_right _ (List.mem_append_right _ (List.mem_append_left _ (List.mem_of_getElem? (i := 188) (by decide +kernel))))) rfl, zgw_sel (List.mem_of_getElem? (i := 19) (by decide +kernel)) rfl, by decide, by decide +kernel⟩, Or.inl rfl⟩
theorem zmo_X0_alike : zv_mok zm_X0_alike := ⟨zgw_of (List.mem_append_right _ (List.mem_append_right _ (List.mem_append_left _ (List.mem_of_getElem? (i := 193) rfl)))) rfl, zgw_of (List.mem_append_left _ (List.mem_of_getElem? (i := 8) (by decide +kernel))) rfl, by decide +kernel, ⟨by decide +kernel, by decide +kernel⟩, rfl, by decide, ⟨zgw_of (List.mem_append_right _ (List.mem_append_right _ (List.mem_append_left _ (List.mem_of_getElem? (i := 192) (by decide +kernel))))) rfl, zgw_sel (List.mem_of_getElem? (i := 20) (by decide +kernel)) rfl, by decide, by decide +kernel⟩, Or.inr rfl⟩
theorem zmo_X1_init : zv_mok zm_X1_init := ⟨zgw_of (List.mem_append_right _ (List.mem_append_left _ (List.mem_of_getElem? (i := 9) rfl))) rfl, zgw_of (List.mem_append_left _ (List.mem_of_getElem? (i := 9) (by decide +kernel))) rfl, by decide +kernel, ⟨by decide +kernel, by decide +kernel⟩, rfl, by decide, ⟨zgw_of (List.mem_append_right _ (List.mem_append_left _ (List.mem_of_getElem? (i := 8) (by decide +kernel)))) rfl, rfl, rfl, rfl, by decide +kernel⟩, rfl⟩
theorem zmo_X1_tryAll : zv_mok zm_X1_tryAll := ⟨zgw_of (List.mem_append_right _ (List.mem_append_right _ (List.mem_append_left _ (List.mem_of_getElem? (i := 205) rfl)))) rfl, zgw_of (List.mem_append_left _ (List.mem_of_getElem? (i := 9) (by decide +kernel))) rfl, by decide +kernel, ⟨by decide +kernel, by decide +kernel⟩, rfl, by decide, ⟨zgw_of (List.mem_append_right _ (List.mem_append_right _ (List.mem_append_left _ (List.mem_of_getElem? (i := 203) (by decide +kernel))))) rfl, zgw_of (List.mem_append_right _ (List.mem_append_right _ (List.mem_append_left _ (List.mem_of_getElem? (i := 204) (by decide +kernel))))) rfl, by decide, by decide +kernel⟩, rfl⟩
theorem zmo_X1_restsInOrder : zv_mok zm_X1_restsInOrder := ⟨zgw_of (List.mem_append_right _ (List.mem_append_right _ (List.mem_append_left _ (List.mem_of_getElem? (i := 210) rfl)))) rfl, zgw_of (List.mem_append_left _ (List.mem_of_getElem? (i := 9) (by decide +kernel))) rfl, by decide +kernel, ⟨by decide +kernel, by decide +kernel⟩, rfl, by decide, ⟨zgw_of (List.mem_append_right _ (List.mem_append_right _ (List.mem_append_left _ (List.mem_of_getElem? (i := 209) (by decide +kernel))))) rfl, zgw_sel (List.mem_of_getElem? (i := 21) (by decide +kernel)) rfl, by decide, by decide +kernel⟩, Or.inr rfl⟩
theorem zmo_X1_mark : zv_mok zm_X1_mark := ⟨zgw_of (List.mem_append_right _ (List.mem_append_right _ (List.mem_append_left _ (List.mem_of_getElem? (i := 215) rfl)))) rfl, zgw_of (List.mem_append_left _ (List.mem_of_getElem? (i := 9) (by decide +kernel))) rfl, by decide +kernel, ⟨by decide +kernel, by decide +kernel⟩, rfl, by decide, ⟨zgw_of (List.mem_append_right _ (List.mem_append_right _ (List.mem_append_left _ (List.mem_of_getElem? (i := 214) (by decide +kernel))))) rfl, zgw_sel (List.mem_of_getElem? (i := 22) (by decide +kernel)) rfl, by decide, by decide +kernel⟩, rfl⟩
theorem zmo_X1_isMarked : zv_mok zm_X1_isMarked := ⟨zgw_of (List.mem_append_right _ (List.mem_append_right _ (List.mem_append_left _ (List.mem_of_getElem? (i := 221) rfl)))) rfl, zgw_of (List.mem_append_left _ (List.mem_of_getElem? (i := 9) (by decide +kernel))) rfl, by decide +kernel, ⟨by decide +kernel, by decide +kernel⟩, rfl, by decide, ⟨zgw_of (List.mem_append_right _ (List.mem_append_right _ (List.mem_append_left _ (List.mem_of_getElem? (i := 220) (by decide +kernel))))) rfl, zgw_sel (List.mem_of_getElem? (i := 23) (by decide +kernel)) rfl, by decide, by decide +kernel⟩, Or.inr rfl⟩
theorem zmo_X1_note : zv_mok zm_X1_note := ⟨zgw_of (List.mem_append_right _ (List.mem_append_right _ (List.mem_append_left _ (List.mem_of_getElem? (i := 226) rfl)))) rfl, zgw_of (List.mem_append_left _ (List.mem_of_getElem? (i := 9) (by decide +kernel))) rfl, by decide +kernel, ⟨by decide +kernel, by decide +kernel⟩, rfl, by decide, ⟨zgw_of (List.mem_append_right _ (List.mem_append_right _ (List.mem_append_left _ (List.mem_of_getElem? (i := 225) (by decide +kernel))))) rfl, zgw_sel (List.mem_of_getElem? (i := 24) (by decide +kernel)) rfl, by decide, by decide +kernel⟩, rfl⟩
theorem zmo_X1_goToNextOrder : zv_mok zm_X1_goToNextOrder := ⟨zgw_of (List.mem_append_right _ (List.mem_append_right _ (List.mem_append_left _ (List.mem_of_getElem? (i := 230) rfl)))) rfl, zgw_of (List.mem_append_left _ (List.mem_of_getElem? (i := 9) (by decide +kernel))) rfl, by decide +kernel, ⟨by decide +kernel, by decide +kernel⟩, rfl, by decide, ⟨zgw_of (List.mem_append_right _ (List.mem_append_right _ (List.mem_append_left _ (List.mem_of_getElem? (i := 229) (by decide +kernel))))) rfl, zgw_sel (List.mem_of_getElem? (i := 25) (by decide +kernel)) rfl, by decide, by decide +kernel⟩, Or.inr rfl⟩
theorem zmo_X1_swap : zv_mok zm_X1_swap := ⟨zgw_of (List.mem_append_right _ (List.mem_append_right _ (List.mem_append_left _ (List.mem_of_getElem? (i := 234) rfl)))) rfl, zgw_of (List.mem_append_left _ (List.mem_of_getElem? (i := 9) (by decide +kernel))) rfl, by decide +kernel, ⟨by decide +kernel, by decide +kernel⟩, rfl, by decide, ⟨zgw_of (List.mem_append_right _ (List.mem_append_right _ (List.mem_append_left _ (List.mem_of_getElem? (i := 233) (by decide +kernel))))) rfl, zgw_sel (List.mem_of_getElem? (i := 26) (by decide +kernel)) rfl, by decide, by decide +kernel⟩, rfl⟩
theorem zmo_X2_init : zv_mok zm_X2_init := ⟨zgw_of (List.mem_append_right _ (List.mem_append_left _ (List.mem_of_getElem? (i := 37) rfl))) rfl, zgw_of (List.mem_append_left _ (List.mem_of_getElem? (i := 10) (by decide +kernel))) rfl, by decide +kernel, ⟨by decide +kernel, by decide +kernel⟩, rfl, by decide, ⟨zgw_of (List.mem_append_right _ (List.mem_append_left _ (List.mem_of_getElem? (i := 36) (by decide +kernel)))) rfl, rfl, rfl, rfl, by decide +kernel⟩, rfl⟩
theorem zmo_X2_save : zv_mok zm_X2_save := ⟨zgw_of (List.mem_append_right _ (List.mem_append_left _ (List.mem_of_getElem? (i := 239) rfl))) rfl, zgw_of (List.mem_append_left _ (List.mem_of_getElem? (i := 10) (by decide +kernel))) rfl, by decide +kernel, ⟨by decide +kernel, by decide +kernel⟩, rfl, by decide, ⟨zgw_of (List.mem_append_right _ (List.mem_append_left _ (List.mem_of_getElem? (i := 237) (by decide +kernel)))) rfl, zgw_of (List.mem_append_right _ (List.mem_append_left _ (List.mem_of_getElem? (i := 238) (by decide +kernel)))) rfl, by decide, by decide +kernel⟩, rfl⟩
theorem zmo_X2_latest : zv_mok zm_X2_latest := ⟨zgw_of (List.mem_append_right _ (List.mem_append_right _ (List.mem_append_left _ (List.mem_of_getElem? (i := 106) rfl)))) rfl, zgw_of (List.mem_append_left _ (List.mem_of_getElem? (i := 10) (by decide +kernel))) rfl, by decide +kernel, ⟨by decide +kernel, by decide +kernel⟩, rfl, by decide, ⟨zgw_of (List.mem_append_right _ (List.mem_append_right _ (List.mem_append_left _ (List.mem_of_getElem? (i := 104) (by decide +kernel))))) rfl, zgw_of (List.mem_append_right _ (List.mem_append_right _ (List.mem_append_left _ (List.mem_of_getElem? (i := 105) (by decide +kernel))))) rfl, by decide, by decide +kernel⟩, ⟨_, rfl⟩⟩
theorem zmo_X3_init : zv_mok zm_X3_init := ⟨zgw_of (List.mem_append_left _ (List.mem_of_getElem? (i := 84) rfl)) rfl, zgw_of (List.mem_append_left _ (List.mem_of_getElem? (i := 3) (by decide +kernel))) rfl, by decide +kernel, ⟨by decide +kernel, by decide +kernel⟩, rfl, by decide, ⟨zgw_of (List.mem_append_left _ (List.mem_of_getElem? (i := 83) (by decide +kernel))) rfl, rfl, rfl, rfl, by decide +kernel⟩, rfl⟩
theorem zmo_X3_read : zv_mok zm_X3_read := ⟨zgw_of (List.mem_append_right _ (List.mem_append_left _ (List.mem_of_getElem? (i := 180) rfl))) rfl, zgw_of (List.mem_append_left _ (List.mem_of_getElem? (i := 3) (by decide +kernel))) rfl, by decide +kernel, ⟨by decide +kernel, by decide +kernel⟩, rfl, by decide, ⟨zgw_of (List.mem_append_right _ (List.mem_append_left _ (List.mem_of_getElem? (i := 178) (by decide +kernel)))) rfl, zgw_of (List.mem_append_right _ (List.mem_append_left _ (List.mem_of_getElem? (i := 179) (by decide +kernel)))) rfl, by decide, by decide +kernel⟩, rfl⟩
theorem zmo_X3_readTold : zv_mok zm_X3_readTold := ⟨zgw_of (List.mem_append_right _ (List.mem_append_left _ (List.mem_of_getElem? (i := 187) rfl))) rfl, zgw_of (List.mem_append_left _ (List.mem_of_getElem? (i := 3) (by decide +kernel))) rfl, by decide +kernel, ⟨by decide +kernel, by decide +kernel⟩, rfl, by decide, ⟨zgw_of (List.mem_append_right _ (List.mem_append_left _ (List.mem_of_getElem? (i := 186) (by decide +kernel)))) rfl, zgw_sel (List.mem_of_getElem? (i := 13) (by decide +kernel)) rfl, by decide, by decide +kernel⟩, rfl⟩
theorem zmo_X3_hasRouter : zv_mok zm_X3_hasRouter := ⟨zgw_of (List.mem_append_right _ (List.mem_append_left _ (List.mem_of_getElem? (i := 213) rfl))) rfl, zgw_of (List.mem_append_left _ (List.mem_of_getElem? (i := 3) (by decide +kernel))) rfl, by decide +kernel, ⟨by decide +kernel, by decide +kernel⟩, rfl, by decide, ⟨zgw_of (List.mem_append_right _ (List.mem_append_left _ (List.mem_of_getElem? (i := 211) (by decide +kernel)))) rfl, zgw_of (List.mem_append_right _ (List.mem_append_left _ (List.mem_of_getElem? (i := 212) (by decide +kernel)))) rfl, by decide, by decide +kernel⟩, Or.inr rfl⟩
theorem zmo_X3_hasExit : zv_mok zm_X3_hasExit := ⟨zgw_of (List.mem_append_right _ (List.mem_append_left _ (List.mem_of_getElem? (i := 231) rfl))) rfl, zgw_of (List.mem_append_left _ (List.mem_of_getElem? (i := 3) (by decide +kernel))) rfl, by decide +kernel, ⟨by decide +kernel, by decide +kernel⟩, rfl, by decide, ⟨zgw_of (List.mem_append_right _ (List.mem_append_left _ (List.mem_of_getElem? (i := 229) (by decide +kernel)))) rfl, zgw_of (List.mem_append_right _ (List.mem_append_left _ (List.mem_of_getElem? (i := 230) (by decide +kernel)))) rfl, by decide, by decide +kernel⟩, Or.inr rfl⟩
theorem zmo_X3_sessionOf : zv_mok zm_X3_sessionOf := ⟨zgw_of (List.mem_append_right _ (List.mem_append_left _ (List.mem_of_getElem? (i := 191) rfl))) rfl, zgw_of (List.mem_append_left _ (List.mem_of_getElem? (i := 3) (by decide +kernel))) rfl, by decide +kernel, ⟨by decide +kernel, by decide +kernel⟩, rfl, by decide, ⟨zgw_of (List.mem_append_right _ (List.mem_append_left _ (List.mem_of_getElem? (i := 189) (by decide +kernel)))) rfl, zgw_of (List.mem_append_right _ (List.mem_append_left _ (List.mem_of_getElem? (i := 190) (by decide +kernel)))) rfl, by decide, by decide +kernel⟩, Or.inl rfl⟩
theorem zmo_X3_toldBy : zv_mok zm_X3_toldBy := ⟨zgw_of (List.mem_append_right _ (List.mem_append_right _ (List.mem_append_left _ (List.mem_of_getElem? (i := 24) rfl)))) rfl, zgw_of (List.mem_append_left _ (List.mem_of_getElem? (i := 3) (by decide +kernel))) rfl, by decide +kernel, ⟨by decide +kernel, by decide +kernel⟩, rfl, by decide, ⟨zgw_of (List.mem_append_right _ (List.mem_append_right _ (List.mem_append_left _ (List.mem_of_getElem? (i := 22) (by decide +kernel))))) rfl, zgw_of (List.mem_append_right _ (List.mem_append_right _ (List.mem_append_left _ (List.mem_of_getElem? (i := 23) (by decide +kernel))))) rfl, by decide, by decide +kernel⟩, Or.inl rfl⟩
theorem zmo_X3_exitsTo : zv_mok zm_X3_exitsTo := ⟨zgw_of (List.mem_append_right _ (List.mem_append_right _ (List.mem_append_left _ (List.mem_of_getElem? (i := 49) rfl)))) rfl, zgw_of (List.mem_append_left _ (List.mem_of_getElem? (i := 3) (by decide +kernel))) rfl, by decide +kernel, ⟨by decide +kernel, by decide +kernel⟩, rfl, by decide, ⟨zgw_of (List.mem_append_right _ (List.mem_append_right _ (List.mem_append_left _ (List.mem_of_getElem? (i := 47) (by decide +kernel))))) rfl, zgw_of (List.mem_append_right _ (List.mem_append_right _ (List.mem_append_left _ (List.mem_of_getElem? (i := 48) (by decide +kernel))))) rfl, by decide, by decide +kernel⟩, Or.inl rfl⟩
theorem zmo_X3_sessionCount : zv_mok zm_X3_sessionCount := ⟨zgw_of (List.mem_append_right _ (List.mem_append_right _ (List.mem_append_right _ (List.mem_append_left _ (List.mem_of_getElem? (i := 118) rfl))))) rfl, zgw_of (List.mem_append_left _ (List.mem_of_getElem? (i := 3) (by decide +kernel))) rfl, by decide +kernel, ⟨by decide +kernel, by decide +kernel⟩, rfl, by decide, ⟨zgw_of (List.mem_append_right _ (List.mem_append_right _ (List.mem_append_right _ (List.mem_append_left _ (List.mem_of_getElem? (i := 116) (by decide +kernel)))))) rfl, zgw_of (List.mem_append_right _ (List.mem_append_right _ (List.mem_append_right _ (List.mem_append_left _ (List.mem_of_getElem? (i := 117) (by decide +kernel)))))) rfl, by decide, by decide +kernel⟩, Or.inl rfl⟩
theorem zmo_X4_init : zv_mok zm_X4_init := ⟨zgw_of (List.mem_append_left _ (List.mem_of_getElem? (i := 27) rfl)) rfl, zgw_of (List.mem_append_left _ (List.mem_of_getElem? (i := 2) (by decide +kernel))) rfl, by decide +kernel, ⟨by decide +kernel, by decide +kernel⟩, rfl, by decide, ⟨zgw_of (List.mem_append_left _ (List.mem_of_getElem? (i := 26) (by decide +kernel))) rfl, rfl, rfl, rfl, by decide +kernel⟩, rfl⟩
theorem zmo_X4_scan : zv_mok zm_X4_scan := ⟨zgw_of (List.mem_append_right _ (List.mem_append_left _ (List.mem_of_getElem? (i := 125) rfl))) rfl, zgw_of (List.mem_append_left _ (List.mem_of_getElem? (i := 2) (by decide +kernel))) rfl, by decide +kernel, ⟨by decide +kernel, by decide +kernel⟩, rfl, by decide, ⟨zgw_of (List.mem_append_right _ (List.mem_append_left _ (List.mem_of_getElem? (i := 123) (by decide +kernel)))) rfl, zgw_of (List.mem_append_right _ (List.mem_append_left _ (List.mem_of_getElem? (i := 124) (by decide +kernel)))) rfl, by decide, by decide +kernel⟩, Or.inl rfl⟩
theorem zmo_X4_scanHead : zv_mok zm_X4_scanHead := ⟨zgw_of (List.mem_append_right _ (List.mem_append_left _ (List.mem_of_getElem? (i := 130) rfl))) rfl, zgw_of (List.mem_append_left _ (List.mem_of_getElem? (i := 2) (by decide +kernel))) rfl, by decide +kernel, ⟨by decide +kernel, by decide +kernel⟩, rfl, by decide, ⟨zgw_of (List.mem_append_right _ (List.mem_append_left _ (List.mem_of_getElem? (i := 129) (by decide +kernel)))) rfl, zgw_sel (List.mem_of_getElem? (i := 3) (by decide +kernel)) rfl, by decide, by decide +kernel⟩, Or.inr rfl⟩
theorem zmo_X4_scanPart : zv_mok zm_X4_scanPart := ⟨zgw_of (List.mem_append_right _ (List.mem_append_left _ (List.mem_of_getElem? (i := 142) rfl))) rfl, zgw_of (List.mem_append_left _ (List.mem_of_getElem? (i := 2) (by decide +kernel))) rfl, by decide +kernel, ⟨by decide +kernel, by decide +kernel⟩, rfl, by decide, ⟨zgw_of (List.mem_append_right _ (List.mem_append_left _ (List.mem_of_getElem? (i := 141) (by decide +kernel)))) rfl, zgw_sel (List.mem_of_getElem? (i := 6) (by decide +kernel)) rfl, by decide, by decide +kernel⟩, Or.inr rfl⟩
theorem zmo_X4_scanLink : zv_mok zm_X4_scanLink := ⟨zgw_of (List.mem_append_right _ (List.mem_append_left _ (List.mem_of_getElem? (i := 146) rfl))) rfl, zgw_of (List.mem_append_left _ (List.mem_of_getElem? (i := 2) (by decide +kernel))) rfl, by decide +kernel, ⟨by decide +kernel, by decide +kernel⟩, rfl, by decide, ⟨zgw_of (List.mem_append_right _ (List.mem_append_left _ (List.mem_of_getElem? (i := 145) (by decide +kernel)))) rfl, zgw_sel (List.mem_of_getElem? (i := 7) (by decide +kernel)) rfl, by decide, by decide +kernel⟩, Or.inr rfl⟩
theorem zmo_X4_scanSession : zv_mok zm_X4_scanSession := ⟨zgw_of (List.mem_append_right _ (List.mem_append_left _ (List.mem_of_getElem? (i := 168) rfl))) rfl, zgw_of (List.mem_append_left _ (List.mem_of_getElem? (i := 2) (by decide +kernel))) rfl, by decide +kernel, ⟨by decide +kernel, by decide +kernel⟩, rfl, by decide, ⟨zgw_of (List.mem_append_right _ (List.mem_append_left _ (List.mem_of_getElem? (i := 167) (by decide +kernel)))) rfl, zgw_sel (List.mem_of_getElem? (i := 11) (by decide +kernel)) rfl, by decide, by decide +kernel⟩, Or.inr rfl⟩
theorem zmo_X4_scanExit : zv_mok zm_X4_scanExit := ⟨zgw_of (List.mem_append_right _ (List.mem_append_left _ (List.mem_of_getElem? (i := 172) rfl))) rfl, zgw_of (List.mem_append_left _ (List.mem_of_getElem? (i := 2) (by decide +kernel))) rfl, by decide +kernel, ⟨by decide +kernel, by decide +kernel⟩, rfl, by decide, ⟨zgw_of (List.mem_append_right _ (List.mem_append_left _ (List.mem_of_getElem? (i := 171) (by decide +kernel)))) rfl, zgw_sel (List.mem_of_getElem? (i := 12) (by decide +kernel)) rfl, by decide, by decide +kernel⟩, Or.inr rfl⟩
theorem zmo_X4_scanPair : zv_mok zm_X4_scanPair := ⟨zgw_of (List.mem_append_right _ (List.mem_append_left _ (List.mem_of_getElem? (i := 150) rfl))) rfl, zgw_of (List.mem_append_left _ (List.mem_of_getElem? (i := 2) (by decide +kernel))) rfl, by decide +kernel, ⟨by decide +kernel, by decide +kernel⟩, rfl, by decide, ⟨zgw_of (List.mem_append_right _ (List.mem_append_left _ (List.mem_of_getElem? (i := 149) (by decide +kernel)))) rfl, zgw_sel (List.mem_of_getElem? (i := 8) (by decide +kernel)) rfl, by decide, by decide +kernel⟩, Or.inl rfl⟩
theorem zmo_X4_setPair : zv_mok zm_X4_setPair := ⟨zgw_of (List.mem_append_right _ (List.mem_append_left _ (List.mem_of_getElem? (i := 164) rfl))) rfl, zgw_of (List.mem_append_left _ (List.mem_of_getElem? (i := 2) (by decide +kernel))) rfl, by decide +kernel, ⟨by decide +kernel, by decide +kernel⟩, rfl, by decide, ⟨zgw_of (List.mem_append_right _ (List.mem_append_left _ (List.mem_of_getElem? (i := 163) (by decide +kernel)))) rfl, by decide +kernel⟩, rfl⟩
theorem zmo_X4_anyFree : zv_mok zm_X4_anyFree := ⟨zgw_of (List.mem_append_right _ (List.mem_append_left _ (List.mem_of_getElem? (i := 154) rfl))) rfl, zgw_of (List.mem_append_left _ (List.mem_of_getElem? (i := 2) (by decide +kernel))) rfl, by decide +kernel, ⟨by decide +kernel, by decide +kernel⟩, rfl, by decide, ⟨zgw_of (List.mem_append_right _ (List.mem_append_left _ (List.mem_of_getElem? (i := 153) (by decide +kernel)))) rfl, zgw_sel (List.mem_of_getElem? (i := 9) (by decide +kernel)) rfl, by decide, by decide +kernel⟩, Or.inr rfl⟩
theorem zmo_X4_hasFree : zv_mok zm_X4_hasFree := ⟨zgw_of (List.mem_append_right _ (List.mem_append_left _ (List.mem_of_getElem? (i := 158) rfl))) rfl, zgw_of (List.mem_append_left _ (List.mem_of_getElem? (i := 2) (by decide +kernel))) rfl, by decide +kernel, ⟨by decide +kernel, by decide +kernel⟩, rfl, by decide, ⟨zgw_of (List.mem_append_right _ (List.mem_append_left _ (List.mem_of_getElem? (i := 157) (by decide +kernel)))) rfl, zgw_sel (List.mem_of_getElem? (i := 10) (by decide +kernel)) rfl, by decide, by decide +kernel⟩, Or.inr rfl⟩
theorem zmo_X4_isFree : zv_mok zm_X4_isFree := ⟨zgw_of (List.mem_append_right _ (List.mem_append_left _ (List.mem_of_getElem? (i := 161) rfl))) rfl, zgw_of (List.mem_append_left _ (List.mem_of_getElem? (i := 2) (by decide +kernel))) rfl, by decide +kernel, ⟨by decide +kernel, by decide +kernel⟩, rfl, by decide, ⟨zgw_of (List.mem_append_right _ (List.mem_append_left _ (List.mem_of_getElem? (i := 160) (by decide +kernel)))) rfl, by decide +kernel⟩, Or.inr rfl⟩
theorem zmo_X4_sign : zv_mok zm_X4_sign := ⟨zgw_of (List.mem_append_right _ (List.mem_append_left _ (List.mem_of_getElem? (i := 134) rfl))) rfl, zgw_of (List.mem_append_left _ (List.mem_of_getElem? (i := 2) (by decide +kernel))) rfl, by decide +kernel, ⟨by decide +kernel, by decide +kernel⟩, rfl, by decide, ⟨zgw_of (List.mem_append_right _ (List.mem_append_left _ (List.mem_of_getElem? (i := 133) (by decide +kernel)))) rfl, zgw_sel (List.mem_of_getElem? (i := 4) (by decide +kernel)) rfl, by decide, by decide +kernel⟩, Or.inl rfl⟩
theorem zmo_X4_digit : zv_mok zm_X4_digit := ⟨zgw_of (List.mem_append_right _ (List.mem_append_left _ (List.mem_of_getElem? (i := 138) rfl))) rfl, zgw_of (List.mem_append_left _ (List.mem_of_getElem? (i := 2) (by decide +kernel))) rfl, by decide +kernel, ⟨by decide +kernel, by decide +kernel⟩, rfl, by decide, ⟨zgw_of (List.mem_append_right _ (List.mem_append_left _ (List.mem_of_getElem? (i := 137) (by decide +kernel)))) rfl, zgw_sel (List.mem_of_getElem? (i := 5) (by decide +kernel)) rfl, by decide, by decide +kernel⟩, Or.inl rfl⟩
theorem zmo_X5_init : zv_mok zm_X5_init := ⟨zgw_of (List.mem_append_right _ (List.mem_append_left _ (List.mem_of_getElem? (i := 59) rfl))) rfl, zgw_of (List.mem_append_left _ (List.mem_of_getElem? (i := 11) (by decide +kernel))) rfl, by decide +kernel, ⟨by decide +kernel, by decide +kernel⟩, rfl, by decide, ⟨zgw_of (List.mem_append_right _ (List.mem_append_left _ (List.mem_of_getElem? (i := 58) (by decide +kernel)))) rfl, rfl, rfl, rfl, by decide +kernel⟩, rfl⟩
theorem zmo_X5_note : zv_mok zm_X5_note := ⟨zgw_of (List.mem_append_right _ (List.mem_append_right _ (List.mem_append_right _ (List.mem_append_left _ (List.mem_of_getElem? (i := 38) rfl))))) rfl, zgw_of (List.mem_append_left _ (List.mem_of_getElem? (i := 11) (by decide +kernel))) rfl, by decide +kernel, ⟨by decide +kernel, by decide +kernel⟩, rfl, by decide, ⟨zgw_of (List.mem_append_right _ (List.mem_append_right _ (List.mem_append_right _ (List.mem_append_left _ (List.mem_of_getElem? (i := 36) (by decide +kernel)))))) rfl, zgw_of (List.mem_append_right _ (List.mem_append_right _ (List.mem_append_right _ (List.mem_append_left _ (List.mem_of_getElem? (i := 37) (by decide +kernel)))))) rfl, by decide, by decide +kernel⟩, rfl⟩
theorem zmo_X5_agree : zv_mok zm_X5_agree := ⟨zgw_of (List.mem_append_right _ (List.mem_append_right _ (List.mem_append_right _ (List.mem_append_left _ (List.mem_of_getElem? (i := 50) rfl))))) rfl, zgw_of (List.mem_append_left _ (List.mem_of_getElem? (i := 11) (by decide +kernel))) rfl, by decide +kernel, ⟨by decide +kernel, by decide +kernel⟩, rfl, by decide, ⟨zgw_of (List.mem_append_right _ (List.mem_append_right _ (List.mem_append_right _ (List.mem_append_left _ (List.mem_of_getElem? (i := 48) (by decide +kernel)))))) rfl, zgw_of (List.mem_append_right _ (List.mem_append_right _ (List.mem_append_right _ (List.mem_append_left _ (List.mem_of_getElem? (i := 49) (by decide +kernel)))))) rfl, by decide, by decide +kernel⟩, Or.inr rfl⟩
theorem zmo_X6_init : zv_mok zm_X6_init := ⟨zgw_of (List.mem_append_left _ (List.mem_of_getElem? (i := 126) rfl)) rfl, zgw_of (List.mem_append_left _ (List.mem_of_getElem? (i := 4) (by decide +kernel))) rfl, by decide +kernel, ⟨by decide +kernel, by decide +kernel⟩, rfl, by decide, ⟨zgw_of (List.mem_append_left _ (List.mem_of_getElem? (i := 125) (by decide +kernel))) rfl, rfl, rfl, rfl, by decide +kernel⟩, rfl⟩
theorem zmo_X6_begin : zv_mok zm_X6_begin := ⟨zgw_of (List.mem_append_right _ (List.mem_append_left _ (List.mem_of_getElem? (i := 195) rfl))) rfl, zgw_of (List.mem_append_left _ (List.mem_of_getElem? (i := 4) (by decide +kernel))) rfl, by decide +kernel, ⟨by decide +kernel, by decide +kernel⟩, rfl, by decide, ⟨zgw_of (List.mem_append_right _ (List.mem_append_left _ (List.mem_of_getElem? (i := 193) (by decide +kernel)))) rfl, zgw_of (List.mem_append_right _ (List.mem_append_left _ (List.mem_of_getElem? (i := 194) (by decide +kernel)))) rfl, by decide, by decide +kernel⟩, rfl⟩
theorem zmo_X6_restore : zv_mok zm_X6_restore := ⟨zgw_of (List.mem_append_right _ (List.mem_append_right _ (List.mem_append_left _ (List.mem_of_getElem? (i := 113) rfl)))) rfl, zgw_of (List.mem_append_left _ (List.mem_of_getElem? (i := 4) (by decide +kernel))) rfl, by decide +kernel, ⟨by decide +kernel, by decide +kernel⟩, rfl, by decide, ⟨zgw_of (List.mem_append_right _ (List.mem_append_right _ (List.mem_append_left _ (List.mem_of_getElem? (i := 111) (by decide +kernel))))) rfl, zgw_of (List.mem_append_right _ (List.mem_append_right _ (List.mem_append_left _ (List.mem_of_getElem? (i := 112) (by decide +kernel))))) rfl, by decide, by decide +kernel⟩, rfl⟩
theorem zmo_X6_copyFrom : zv_mok zm_X6_copyFrom := ⟨zgw_of (List.mem_append_right _ (List.mem_append_right _ (List.mem_append_left _ (List.mem_of_getElem? (i := 174) rfl)))) rfl, zgw_of (List.mem_append_left _ (List.mem_of_getElem? (i := 4) (by decide +kernel))) rfl, by decide +kernel, ⟨by decide +kernel, by decide +kernel⟩, rfl, by decide, ⟨zgw_of (List.mem_append_right _ (List.mem_append_right _ (List.mem_append_left _ (List.mem_of_getElem? (i := 172) (by decide +kernel))))) rfl, zgw_of (List.mem_append_right _ (List.mem_append_right _ (List.mem_append_left _ (List.mem_of_getElem? (i := 173) (by decide +kernel))))) rfl, by decide, by decide +kernel⟩, rfl⟩
theorem zmo_X6_changeCost : zv_mok zm_X6_changeCost := ⟨zgw_of (List.mem_append_right _ (List.mem_append_right _ (List.mem_append_left _ (List.mem_of_getElem? (i := 66) rfl)))) rfl, zgw_of (List.mem_append_left _ (List.mem_of_getElem? (i := 4) (by decide +kernel))) rfl, by decide +kernel, ⟨by decide +kernel, by decide +kernel⟩, rfl, by decide, ⟨zgw_of (List.mem_append_right _ (List.mem_append_right _ (List.mem_append_left _ (List.mem_of_getElem? (i := 64) (by decide +kernel))))) rfl, zgw_of (List.mem_append_right _ (List.mem_append_right _ (List.mem_append_left _ (List.mem_of_getElem? (i := 65) (by decide +kernel))))) rfl, by decide, by decide +kernel⟩, rfl⟩
theorem zmo_X6_changeWeight : zv_mok zm_X6_changeWeight := ⟨zgw_of (List.mem_append_right _ (List.mem_append_right _ (List.mem_append_left _ (List.mem_of_getElem? (i := 82) rfl)))) rfl, zgw_of (List.mem_append_left _ (List.mem_of_getElem? (i := 4) (by decide +kernel))) rfl, by decide +kernel, ⟨by decide +kernel, by decide +kernel⟩, rfl, by decide, ⟨zgw_of (List.mem_append_right _ (List.mem_append_right _ (List.mem_append_left _ (List.mem_of_getElem? (i := 80) (by decide +kernel))))) rfl, zgw_of (List.mem_append_right _ (List.mem_append_right _ (List.mem_append_left _ (List.mem_of_getElem? (i := 81) (by decide +kernel))))) rfl, by decide, by decide +kernel⟩, rfl⟩
theorem zmo_X6_changeMode : zv_mok zm_X6_changeMode := ⟨zgw_of (List.mem_append_right _ (List.mem_append_right _ (List.mem_append_left _ (List.mem_of_getElem? (i := 98) rfl)))) rfl, zgw_of (List.mem_append_left _ (List.mem_of_getElem? (i := 4) (by decide +kernel))) rfl, by decide +kernel, ⟨by decide +kernel, by decide +kernel⟩, rfl, by decide, ⟨zgw_of (List.mem_append_right _ (List.mem_append_right _ (List.mem_append_left _ (List.mem_of_getElem? (i := 96) (by decide +kernel))))) rfl, zgw_of (List.mem_append_right _ (List.mem_append_right _ (List.mem_append_left _ (List.mem_of_getElem? (i := 97) (by decide +kernel))))) rfl, by decide, by decide +kernel⟩, rfl⟩
theorem zmo_X6_forgetPicks : zv_mok zm_X6_forgetPicks := ⟨zgw_of (List.mem_append_left _ (List.mem_of_getElem? (i := 183) rfl)) rfl, zgw_of (List.mem_append_left _ (List.mem_of_getElem? (i := 4) (by decide +kernel))) rfl, by decide +kernel, ⟨by decide +kernel, by decide +kernel⟩, rfl, by decide, ⟨zgw_of (List.mem_append_left _ (List.mem_of_getElem? (i := 182) (by decide +kernel))) rfl, zgw_sel (List.mem_of_getElem? (i := 2) (by decide +kernel)) rfl, by decide, by decide +kernel⟩, rfl⟩
theorem zmo_X6_measure : zv_mok zm_X6_measure := ⟨zgw_of (List.mem_append_left _ (List.mem_of_getElem? (i := 168) rfl)) rfl, zgw_of (List.mem_append_left _ (List.mem_of_getElem? (i := 4) (by decide +kernel))) rfl, by decide +kernel, ⟨by decide +kernel, by decide +kernel⟩, rfl, by decide, ⟨zgw_of (List.mem_append_left _ (List.mem_of_getElem? (i := 167) (by decide +kernel))) rfl, zgw_sel (List.mem_of_getElem? (i := 0) (by decide +kernel)) rfl, by decide, by decide +kernel⟩, rfl⟩
theorem zmo_X6_findNear : zv_mok zm_X6_findNear := ⟨zgw_of (List.mem_append_left _ (List.mem_of_getElem? (i := 175) rfl)) rfl, zgw_of (List.mem_append_left _ (List.mem_of_getElem? (i := 4) (by decide +kernel))) rfl, by decide +kernel, ⟨by decide +kernel, by decide +kernel⟩, rfl, by decide, ⟨zgw_of (List.mem_append_left _ (List.mem_of_getElem? (i := 174) (by decide +kernel))) rfl, zgw_sel (List.mem_of_getElem? (i := 1) (by decide +kernel)) rfl, by decide, by decide +kernel⟩, rfl⟩
theorem zmo_X6_distance : zv_mok zm_X6_distance := ⟨zgw_of (List.mem_append_left _ (List.mem_of_getElem? (i := 179) rfl)) rfl, zgw_of (List.mem_append_left _ (List.mem_of_getElem? (i := 4) (by decide +kernel))) rfl, by decide +kernel, ⟨by decide +kernel, by decide +kernel⟩, rfl, by decide, ⟨zgw_of (List.mem_append_left _ (List.mem_of_getElem? (i := 177) (by decide +kernel))) rfl, zgw_of (List.mem_append_left _ (List.mem_of_getElem? (i := 178) (by decide +kernel))) rfl, by decide, by decide +kernel⟩, Or.inl rfl⟩
theorem zmo_X6_stepOne : zv_mok zm_X6_stepOne := ⟨zgw_of (List.mem_append_right _ (List.mem_append_right _ (List.mem_append_left _ (List.mem_of_getElem? (i := 8) rfl)))) rfl, zgw_of (List.mem_append_left _ (List.mem_of_getElem? (i := 4) (by decide +kernel))) rfl, by decide +kernel, ⟨by decide +kernel, by decide +kernel⟩, rfl, by decide, ⟨zgw_of (List.mem_append_right _ (List.mem_append_right _ (List.mem_append_left _ (List.mem_of_getElem? (i := 6) (by decide +kernel))))) rfl, zgw_of (List.mem_append_right _ (List.mem_append_right _ (List.mem_append_left _ (List.mem_of_getElem? (i := 7) (by decide +kernel))))) rfl, by decide, by decide +kernel⟩, Or.inr rfl⟩
theorem zmo_X6_stepAll : zv_mok zm_X6_stepAll := ⟨zgw_of (List.mem_append_right _ (List.mem_append_right _ (List.mem_append_left _ (List.mem_of_getElem? (i := 57) rfl)))) rfl, zgw_of (List.mem_append_left _ (List.mem_of_getElem? (i := 4) (by decide +kernel))) rfl, by decide +kernel, ⟨by decide +kernel, by decide +kernel⟩, rfl, by decide, ⟨zgw_of (List.mem_append_right _ (List.mem_append_right _ (List.mem_append_left _ (List.mem_of_getElem? (i := 55) (by decide +kernel))))) rfl, zgw_of (List.mem_append_right _ (List.mem_append_right _ (List.mem_append_left _ (List.mem_of_getElem? (i := 56) (by decide +kernel))))) rfl, by decide, by decide +kernel⟩, Or.inl rfl⟩
theorem zmo_X6_decide : zv_mok zm_X6_decide := ⟨zgw_of (List.mem_append_right _ (List.mem_append_right _ (List.mem_append_left _ (List.mem_of_getElem? (i := 13) rfl)))) rfl, zgw_of (List.mem_append_left _ (List.mem_of_getElem? (i := 4) (by decide +kernel))) rfl, by decide +kernel, ⟨by decide +kernel, by decide +kernel⟩, rfl, by decide, ⟨zgw_of (List.mem_append_right _ (List.mem_append_right _ (List.mem_append_left _ (List.mem_of_getElem? (i := 12) (by decide +kernel))))) rfl, zgw_sel (List.mem_of_getElem? (i := 14) (by decide +kernel)) rfl, by decide, by decide +kernel⟩, Or.inl rfl⟩
theorem zmo_X6_listen : zv_mok zm_X6_listen := ⟨zgw_of (List.mem_append_right _ (List.mem_append_right _ (List.mem_append_left _ (List.mem_of_getElem? (i := 17) rfl)))) rfl, zgw_of (List.mem_append_left _ (List.mem_of_getElem? (i := 4) (by decide +kernel))) rfl, by decide +kernel, ⟨by decide +kernel, by decide +kernel⟩, rfl, by decide, ⟨zgw_of (List.mem_append_right _ (List.mem_append_right _ (List.mem_append_left _ (List.mem_of_getElem? (i := 15) (by decide +kernel))))) rfl, zgw_of (List.mem_append_right _ (List.mem_append_right _ (List.mem_append_left _ (List.mem_of_getElem? (i := 16) (by decide +kernel))))) rfl, by decide, by decide +kernel⟩, Or.inl rfl⟩
theorem zmo_X6_take : zv_mok zm_X6_take := ⟨zgw_of (List.mem_append_right _ (List.mem_append_right _ (List.mem_append_left _ (List.mem_of_getElem? (i := 28) rfl)))) rfl, zgw_of (List.mem_append_left _ (List.mem_of_getElem? (i := 4) (by decide +kernel))) rfl, by decide +kernel, ⟨by decide +kernel, by decide +kernel⟩, rfl, by decide, ⟨zgw_of (List.mem_append_right _ (List.mem_append_right _ (List.mem_append_left _ (List.mem_of_getElem? (i := 27) (by decide +kernel))))) rfl, zgw_sel (List.mem_of_getElem? (i := 15) (by decide +kernel)) rfl, by decide, by decide +kernel⟩, Or.inl rfl⟩
theorem zmo_X6_pick : zv_mok zm_X6_pick := ⟨zgw_of (List.mem_append_right _ (List.mem_append_right _ (List.mem_append_left _ (List.mem_of_getElem? (i := 38) rfl)))) rfl, zgw_of (List.mem_append_left _ (List.mem_of_getElem? (i := 4) (by decide +kernel))) rfl, by decide +kernel, ⟨by decide +kernel, by decide +kernel⟩, rfl, by decide, ⟨zgw_of (List.mem_append_right _ (List.mem_append_right _ (List.mem_append_left _ (List.mem_of_getElem? (i := 36) (by decide +kernel))))) rfl, zgw_of (List.mem_append_right _ (List.mem_append_right _ (List.mem_append_left _ (List.mem_of_getElem? (i := 37) (by decide +kernel))))) rfl, by decide, by decide +kernel⟩, Or.inl rfl⟩
theorem zmo_X6_compare : zv_mok zm_X6_compare := ⟨zgw_of (List.mem_append_right _ (List.mem_append_right _ (List.mem_append_left _ (List.mem_of_getElem? (i := 42) rfl)))) rfl, zgw_of (List.mem_append_left _ (List.mem_of_getElem? (i := 4) (by decide +kernel))) rfl, by decide +kernel, ⟨by decide +kernel, by decide +kernel⟩, rfl, by decide, ⟨zgw_of (List.mem_append_right _ (List.mem_append_right _ (List.mem_append_left _ (List.mem_of_getElem? (i := 41) (by decide +kernel))))) rfl, zgw_sel (List.mem_of_getElem? (i := 16) (by decide +kernel)) rfl, by decide, by decide +kernel⟩, Or.inl rfl⟩
theorem zmo_X6_smallest : zv_mok zm_X6_smallest := ⟨zgw_of (List.mem_append_right _ (List.mem_append_right _ (List.mem_append_left _ (List.mem_of_getElem? (i := 45) rfl)))) rfl, zgw_of (List.mem_append_left _ (List.mem_of_getElem? (i := 4) (by decide +kernel))) rfl, by decide +kernel, ⟨by decide +kernel, by decide +kernel⟩, rfl, by decide, ⟨zgw_of (List.mem_append_right _ (List.mem_append_right _ (List.mem_append_left _ (List.mem_of_getElem? (i := 44) (by decide +kernel))))) rfl, by decide +kernel⟩, Or.inl rfl⟩
theorem zmo_X6_send : zv_mok zm_X6_send := ⟨zgw_of (List.mem_append_right _ (List.mem_append_right _ (List.mem_append_left _ (List.mem_of_getElem? (i := 155) rfl)))) rfl, zgw_of (List.mem_append_left _ (List.mem_of_getElem? (i := 4) (by decide +kernel))) rfl, by decide +kernel, ⟨by decide +kernel, by decide +kernel⟩, rfl, by decide, ⟨zgw_of (List.mem_append_right _ (List.mem_append_right _ (List.mem_append_left _ (List.mem_of_getElem? (i := 153) (by decide +kernel))))) rfl, zgw_of (List.mem_append_right _ (List.mem_append_right _ (List.mem_append_left _ (List.mem_of_getElem? (i := 154) (by decide +kernel))))) rfl, by decide, by decide +kernel⟩, Or.inl rfl⟩
theorem zmo_X6_nextHop : zv_mok zm_X6_nextHop := ⟨zgw_of (List.mem_append_right _ (List.mem_append_right _ (List.mem_append_left _ (List.mem_of_getElem? (i := 165) rfl)))) rfl, zgw_of (List.mem_append_left _ (List.mem_of_getElem? (i := 4) (by decide +kernel))) rfl, by decide +kernel, ⟨by decide +kernel, by decide +kernel⟩, rfl, by decide, ⟨zgw_of (List.mem_append_right _ (List.mem_append_right _ (List.mem_append_left _ (List.mem_of_getElem? (i := 164) (by decide +kernel))))) rfl, zgw_sel (List.mem_of_getElem? (i := 17) (by decide +kernel)) rfl, by decide, by decide +kernel⟩, Or.inl rfl⟩
theorem zmo_X6_restNumber : zv_mok zm_X6_restNumber := ⟨zgw_of (List.mem_append_right _ (List.mem_append_right _ (List.mem_append_left _ (List.mem_of_getElem? (i := 197) rfl)))) rfl, zgw_of (List.mem_append_left _ (List.mem_of_getElem? (i := 4) (by decide +kernel))) rfl, by decide +kernel, ⟨by decide +kernel, by decide +kernel⟩, rfl, by decide, ⟨zgw_of (List.mem_append_right _ (List.mem_append_right _ (List.mem_append_left _ (List.mem_of_getElem? (i := 195) (by decide +kernel))))) rfl, zgw_of (List.mem_append_right _ (List.mem_append_right _ (List.mem_append_left _ (List.mem_of_getElem? (i := 196) (by decide +kernel))))) rfl, by decide, by decide +kernel⟩, Or.inl rfl⟩
theorem zmo_X7_init : zv_mok zm_X7_init := ⟨zgw_of (List.mem_append_left _ (List.mem_of_getElem? (i := 132) rfl)) rfl, zgw_of (List.mem_append_left _ (List.mem_of_getElem? (i := 5) (by decide +kernel))) rfl, by decide +kernel, ⟨by decide +kernel, by decide +kernel⟩, rfl, by decide, ⟨zgw_of (List.mem_append_left _ (List.mem_of_getElem? (i := 131) (by decide +kernel))) rfl, rfl, rfl, rfl, by decide +kernel⟩, rfl⟩
theorem zmo_X7_copyFrom : zv_mok zm_X7_copyFrom := ⟨zgw_of (List.mem_append_right _ (List.mem_append_right _ (List.mem_append_left _ (List.mem_of_getElem? (i := 3) rfl)))) rfl, zgw_of (List.mem_append_left _ (List.mem_of_getElem? (i := 5) (by decide +kernel))) rfl, by decide +kernel, ⟨by decide +kernel, by decide +kernel⟩, rfl, by decide, ⟨zgw_of (List.mem_append_right _ (List.mem_append_right _ (List.mem_append_left _ (List.mem_of_getElem? (i := 1) (by decide +kernel))))) rfl, zgw_of (List.mem_append_right _ (List.mem_append_right _ (List.mem_append_left _ (List.mem_of_getElem? (i := 2) (by decide +kernel))))) rfl, by decide, by decide +kernel⟩, rfl⟩
theorem zmo_X7_read : zv_mok zm_X7_read := ⟨zgw_of (List.mem_append_right _ (List.mem_append_left _ (List.mem_of_getElem? (i := 199) rfl))) rfl, zgw_of (List.mem_append_left _ (List.mem_of_getElem? (i := 5) (by decide +kernel))) rfl, by decide +kernel, ⟨by decide +kernel, by decide +kernel⟩, rfl, by decide, ⟨zgw_of (List.mem_append_right _ (List.mem_append_left _ (List.mem_of_getElem? (i := 197) (by decide +kernel)))) rfl, zgw_of (List.mem_append_right _ (List.mem_append_left _ (List.mem_of_getElem? (i := 198) (by decide +kernel)))) rfl, by decide, by decide +kernel⟩, rfl⟩
theorem zmo_X7_forgetChoices : zv_mok zm_X7_forgetChoices := ⟨zgw_of (List.mem_append_right _ (List.mem_append_left _ (List.mem_of_getElem? (i := 204) rfl))) rfl, zgw_of (List.mem_append_left _ (List.mem_of_getElem? (i := 5) (by decide +kernel))) rfl, by decide +kernel, ⟨by decide +kernel, by decide +kernel⟩, rfl, by decide, ⟨zgw_of (List.mem_append_right _ (List.mem_append_left _ (List.mem_of_getElem? (i := 202) (by decide +kernel)))) rfl, zgw_of (List.mem_append_right _ (List.mem_append_left _ (List.mem_of_getElem? (i := 203) (by decide +kernel)))) rfl, by decide, by decide +kernel⟩, rfl⟩
theorem zmo_X7_costOf : zv_mok zm_X7_costOf := ⟨zgw_of (List.mem_append_right _ (List.mem_append_left _ (List.mem_of_getElem? (i := 217) rfl))) rfl, zgw_of (List.mem_append_left _ (List.mem_of_getElem? (i := 5) (by decide +kernel))) rfl, by decide +kernel, ⟨by decide +kernel, by decide +kernel⟩, rfl, by decide, ⟨zgw_of (List.mem_append_right _ (List.mem_append_left _ (List.mem_of_getElem? (i := 215) (by decide +kernel)))) rfl, zgw_of (List.mem_append_right _ (List.mem_append_left _ (List.mem_of_getElem? (i := 216) (by decide +kernel)))) rfl, by decide, by decide +kernel⟩, Or.inl rfl⟩
theorem zmo_X7_flip : zv_mok zm_X7_flip := ⟨zgw_of (List.mem_append_right _ (List.mem_append_right _ (List.mem_append_left _ (List.mem_of_getElem? (i := 74) rfl)))) rfl, zgw_of (List.mem_append_left _ (List.mem_of_getElem? (i := 5) (by decide +kernel))) rfl, by decide +kernel, ⟨by decide +kernel, by decide +kernel⟩, rfl, by decide, ⟨zgw_of (List.mem_append_right _ (List.mem_append_right _ (List.mem_append_left _ (List.mem_of_getElem? (i := 72) (by decide +kernel))))) rfl, zgw_of (List.mem_append_right _ (List.mem_append_right _ (List.mem_append_left _ (List.mem_of_getElem? (i := 73) (by decide +kernel))))) rfl, by decide, by decide +kernel⟩, rfl⟩
theorem zmo_X7_extend : zv_mok zm_X7_extend := ⟨zgw_of (List.mem_append_right _ (List.mem_append_right _ (List.mem_append_left _ (List.mem_of_getElem? (i := 90) rfl)))) rfl, zgw_of (List.mem_append_left _ (List.mem_of_getElem? (i := 5) (by decide +kernel))) rfl, by decide +kernel, ⟨by decide +kernel, by decide +kernel⟩, rfl, by decide, ⟨zgw_of (List.mem_append_right _ (List.mem_append_right _ (List.mem_append_left _ (List.mem_of_getElem? (i := 88) (by decide +kernel))))) rfl, zgw_of (List.mem_append_right _ (List.mem_append_right _ (List.mem_append_left _ (List.mem_of_getElem? (i := 89) (by decide +kernel))))) rfl, by decide, by decide +kernel⟩, rfl⟩
theorem zmo_X7_firstRoute : zv_mok zm_X7_firstRoute := ⟨zgw_of (List.mem_append_right _ (List.mem_append_right _ (List.mem_append_left _ (List.mem_of_getElem? (i := 122) rfl)))) rfl, zgw_of (List.mem_append_left _ (List.mem_of_getElem? (i := 5) (by decide +kernel))) rfl, by decide +kernel, ⟨by decide +kernel, by decide +kernel⟩, rfl, by decide, ⟨zgw_of (List.mem_append_right _ (List.mem_append_right _ (List.mem_append_left _ (List.mem_of_getElem? (i := 120) (by decide +kernel))))) rfl, zgw_of (List.mem_append_right _ (List.mem_append_right _ (List.mem_append_left _ (List.mem_of_getElem? (i := 121) (by decide +kernel))))) rfl, by decide, by decide +kernel⟩, Or.inl rfl⟩
theorem zmo_X7_secondRoute : zv_mok zm_X7_secondRoute := ⟨zgw_of (List.mem_append_right _ (List.mem_append_right _ (List.mem_append_left _ (List.mem_of_getElem? (i := 126) rfl)))) rfl, zgw_of (List.mem_append_left _ (List.mem_of_getElem? (i := 5) (by decide +kernel))) rfl, by decide +kernel, ⟨by decide +kernel, by decide +kernel⟩, rfl, by decide, ⟨zgw_of (List.mem_append_right _ (List.mem_append_right _ (List.mem_append_left _ (List.mem_of_getElem? (i := 124) (by decide +kernel))))) rfl, zgw_of (List.mem_append_right _ (List.mem_append_right _ (List.mem_append_left _ (List.mem_of_getElem? (i := 125) (by decide +kernel))))) rfl, by decide, by decide +kernel⟩, Or.inl rfl⟩
theorem zmo_X7_firstExit : zv_mok zm_X7_firstExit := ⟨zgw_of (List.mem_append_right _ (List.mem_append_right _ (List.mem_append_left _ (List.mem_of_getElem? (i := 159) rfl)))) rfl, zgw_of (List.mem_append_left _ (List.mem_of_getElem? (i := 5) (by decide +kernel))) rfl, by decide +kernel, ⟨by decide +kernel, by decide +kernel⟩, rfl, by decide, ⟨zgw_of (List.mem_append_right _ (List.mem_append_right _ (List.mem_append_left _ (List.mem_of_getElem? (i := 157) (by decide +kernel))))) rfl, zgw_of (List.mem_append_right _ (List.mem_append_right _ (List.mem_append_left _ (List.mem_of_getElem? (i := 158) (by decide +kernel))))) rfl, by decide, by decide +kernel⟩, Or.inl rfl⟩
theorem zmo_X7_linkCount : zv_mok zm_X7_linkCount := ⟨zgw_of (List.mem_append_right _ (List.mem_append_right _ (List.mem_append_right _ (List.mem_append_left _ (List.mem_of_getElem? (i := 114) rfl))))) rfl, zgw_of (List.mem_append_left _ (List.mem_of_getElem? (i := 5) (by decide +kernel))) rfl, by decide +kernel, ⟨by decide +kernel, by decide +kernel⟩, rfl, by decide, ⟨zgw_of (List.mem_append_right _ (List.mem_append_right _ (List.mem_append_right _ (List.mem_append_left _ (List.mem_of_getElem? (i := 112) (by decide +kernel)))))) rfl, zgw_of (List.mem_append_right _ (List.mem_append_right _ (List.mem_append_right _ (List.mem_append_left _ (List.mem_of_getElem? (i := 113) (by decide +kernel)))))) rfl, by decide, by decide +kernel⟩, Or.inl rfl⟩
theorem zmo_X7_chosenSet : zv_mok zm_X7_chosenSet := ⟨zgw_of (List.mem_append_right _ (List.mem_append_right _ (List.mem_append_right _ (List.mem_append_left _ (List.mem_of_getElem? (i := 122) rfl))))) rfl, zgw_of (List.mem_append_left _ (List.mem_of_getElem? (i := 5) (by decide +kernel))) rfl, by decide +kernel, ⟨by decide +kernel, by decide +kernel⟩, rfl, by decide, ⟨zgw_of (List.mem_append_right _ (List.mem_append_right _ (List.mem_append_right _ (List.mem_append_left _ (List.mem_of_getElem? (i := 120) (by decide +kernel)))))) rfl, zgw_of (List.mem_append_right _ (List.mem_append_right _ (List.mem_append_right _ (List.mem_append_left _ (List.mem_of_getElem? (i := 121) (by decide +kernel)))))) rfl, by decide, by decide +kernel⟩, Or.inl rfl⟩
theorem zmo_X7_chosenExits : zv_mok zm_X7_chosenExits := ⟨zgw_of (List.mem_append_right _ (List.mem_append_right _ (List.mem_append_right _ (List.mem_append_left _ (List.mem_of_getElem? (i := 60) rfl))))) rfl, zgw_of (List.mem_append_left _ (List.mem_of_getElem? (i := 5) (by decide +kernel))) rfl, by decide +kernel, ⟨by decide +kernel, by decide +kernel⟩, rfl, by decide, ⟨zgw_of (List.mem_append_right _ (List.mem_append_right _ (List.mem_append_right _ (List.mem_append_left _ (List.mem_of_getElem? (i := 58) (by decide +kernel)))))) rfl, zgw_of (List.mem_append_right _ (List.mem_append_right _ (List.mem_append_right _ (List.mem_append_left _ (List.mem_of_getElem? (i := 59) (by decide +kernel)))))) rfl, by decide, by decide +kernel⟩, Or.inl rfl⟩
theorem zmo_X8_init : zv_mok zm_X8_init := ⟨zgw_of (List.mem_append_left _ (List.mem_of_getElem? (i := 19) rfl)) rfl, zgw_of (List.mem_append_left _ (List.mem_of_getElem? (i := 1) (by decide +kernel))) rfl, by decide +kernel, ⟨by decide +kernel, by decide +kernel⟩, rfl, by decide, ⟨zgw_of (List.mem_append_left _ (List.mem_of_getElem? (i := 18) (by decide +kernel))) rfl, rfl, rfl, rfl, by decide +kernel⟩, rfl⟩
theorem zmo_X8_write : zv_mok zm_X8_write := ⟨zgw_of (List.mem_append_right _ (List.mem_append_left _ (List.mem_of_getElem? (i := 113) rfl))) rfl, zgw_of (List.mem_append_left _ (List.mem_of_getElem? (i := 1) (by decide +kernel))) rfl, by decide +kernel, ⟨by decide +kernel, by decide +kernel⟩, rfl, by decide, ⟨zgw_of (List.mem_append_right _ (List.mem_append_left _ (List.mem_of_getElem? (i := 111) (by decide +kernel)))) rfl, zgw_of (List.mem_append_right _ (List.mem_append_left _ (List.mem_of_getElem? (i := 112) (by decide +kernel)))) rfl, by decide, by decide +kernel⟩, Or.inl rfl⟩
theorem zmo_X8_wipe : zv_mok zm_X8_wipe := ⟨zgw_of (List.mem_append_right _ (List.mem_append_left _ (List.mem_of_getElem? (i := 117) rfl))) rfl, zgw_of (List.mem_append_left _ (List.mem_of_getElem? (i := 1) (by decide +kernel))) rfl, by decide +kernel, ⟨by decide +kernel, by decide +kernel⟩, rfl, by decide, ⟨zgw_of (List.mem_append_right _ (List.mem_append_left _ (List.mem_of_getElem? (i := 115) (by decide +kernel)))) rfl, zgw_of (List.mem_append_right _ (List.mem_append_left _ (List.mem_of_getElem? (i := 116) (by decide +kernel)))) rfl, by decide, by decide +kernel⟩, Or.inl rfl⟩
theorem zmo_X8_fault : zv_mok zm_X8_fault := ⟨zgw_of (List.mem_append_right _ (List.mem_append_left _ (List.mem_of_getElem? (i := 121) rfl))) rfl, zgw_of (List.mem_append_left _ (List.mem_of_getElem? (i := 1) (by decide +kernel))) rfl, by decide +kernel, ⟨by decide +kernel, by decide +kernel⟩, rfl, by decide, ⟨zgw_of (List.mem_append_right _ (List.mem_append_left _ (List.mem_of_getElem? (i := 119) (by decide +kernel)))) rfl, zgw_of (List.mem_append_right _ (List.mem_append_left _ (List.mem_of_getElem? (i := 120) (by decide +kernel)))) rfl, by decide, by decide +kernel⟩, Or.inl rfl⟩
theorem zmo_X8_domain : zv_mok zm_X8_domain := ⟨zgw_of (List.mem_append_right _ (List.mem_append_left _ (List.mem_of_getElem? (i := 176) rfl))) rfl, zgw_of (List.mem_append_left _ (List.mem_of_getElem? (i := 1) (by decide +kernel))) rfl, by decide +kernel, ⟨by decide +kernel, by decide +kernel⟩, rfl, by decide, ⟨zgw_of (List.mem_append_right _ (List.mem_append_left _ (List.mem_of_getElem? (i := 174) (by decide +kernel)))) rfl, zgw_of (List.mem_append_right _ (List.mem_append_left _ (List.mem_of_getElem? (i := 175) (by decide +kernel)))) rfl, by decide, by decide +kernel⟩, Or.inl rfl⟩
theorem zmo_X8_link : zv_mok zm_X8_link := ⟨zgw_of (List.mem_append_right _ (List.mem_append_left _ (List.mem_of_getElem? (i := 209) rfl))) rfl, zgw_of (List.mem_append_left _ (List.mem_of_getElem? (i := 1) (by decide +kernel))) rfl, by decide +kernel, ⟨by decide +kernel, by decide +kernel⟩, rfl, by decide, ⟨zgw_of (List.mem_append_right _ (List.mem_append_left _ (List.mem_of_getElem? (i := 207) (by decide +kernel)))) rfl, zgw_of (List.mem_append_right _ (List.mem_append_left _ (List.mem_of_getElem? (i := 208) (by decide +kernel)))) rfl, by decide, by decide +kernel⟩, Or.inl rfl⟩
theorem zmo_X8_session : zv_mok zm_X8_session := ⟨zgw_of (List.mem_append_right _ (List.mem_append_left _ (List.mem_of_getElem? (i := 222) rfl))) rfl, zgw_of (List.mem_append_left _ (List.mem_of_getElem? (i := 1) (by decide +kernel))) rfl, by decide +kernel, ⟨by decide +kernel, by decide +kernel⟩, rfl, by decide, ⟨zgw_of (List.mem_append_right _ (List.mem_append_left _ (List.mem_of_getElem? (i := 220) (by decide +kernel)))) rfl, zgw_of (List.mem_append_right _ (List.mem_append_left _ (List.mem_of_getElem? (i := 221) (by decide +kernel)))) rfl, by decide, by decide +kernel⟩, Or.inl rfl⟩
theorem zmo_X8_exit : zv_mok zm_X8_exit := ⟨zgw_of (List.mem_append_right _ (List.mem_append_left _ (List.mem_of_getElem? (i := 227) rfl))) rfl, zgw_of (List.mem_append_left _ (List.mem_of_getElem? (i := 1) (by decide +kernel))) rfl, by decide +kernel, ⟨by decide +kernel, by decide +kernel⟩, rfl, by decide, ⟨zgw_of (List.mem_append_right _ (List.mem_append_left _ (List.mem_of_getElem? (i := 225) (by decide +kernel)))) rfl, zgw_of (List.mem_append_right _ (List.mem_append_left _ (List.mem_of_getElem? (i := 226) (by decide +kernel)))) rfl, by decide, by decide +kernel⟩, Or.inl rfl⟩
theorem zmo_X8_step : zv_mok zm_X8_step := ⟨zgw_of (List.mem_append_right _ (List.mem_append_left _ (List.mem_of_getElem? (i := 235) rfl))) rfl, zgw_of (List.mem_append_left _ (List.mem_of_getElem? (i := 1) (by decide +kernel))) rfl, by decide +kernel, ⟨by decide +kernel, by decide +kernel⟩, rfl, by decide, ⟨zgw_of (List.mem_append_right _ (List.mem_append_left _ (List.mem_of_getElem? (i := 233) (by decide +kernel)))) rfl, zgw_of (List.mem_append_right _ (List.mem_append_left _ (List.mem_of_getElem? (i := 234) (by decide +kernel)))) rfl, by decide, by decide +kernel⟩, Or.inl rfl⟩
theorem zmo_X8_round : zv_mok zm_X8_round := ⟨zgw_of (List.mem_append_right _ (List.mem_append_right _ (List.mem_append_left _ (List.mem_of_getElem? (i := 53) rfl)))) rfl, zgw_of (List.mem_append_left _ (List.mem_of_getElem? (i := 1) (by decide +kernel))) rfl, by decide +kernel, ⟨by decide +kernel, by decide +kernel⟩, rfl, by decide, ⟨zgw_of (List.mem_append_right _ (List.mem_append_right _ (List.mem_append_left _ (List.mem_of_getElem? (i := 51) (by decide +kernel))))) rfl, zgw_of (List.mem_append_right _ (List.mem_append_right _ (List.mem_append_left _ (List.mem_of_getElem? (i := 52) (by decide +kernel))))) rfl, by decide, by decide +kernel⟩, Or.inl rfl⟩
theorem zmo_X8_setLink : zv_mok zm_X8_setLink := ⟨zgw_of (List.mem_append_right _ (List.mem_append_right _ (List.mem_append_left _ (List.mem_of_getElem? (i := 62) rfl)))) rfl, zgw_of (List.mem_append_left _ (List.mem_of_getElem? (i := 1) (by decide +kernel))) rfl, by decide +kernel, ⟨by decide +kernel, by decide +kernel⟩, rfl, by decide, ⟨zgw_of (List.mem_append_right _ (List.mem_append_right _ (List.mem_append_left _ (List.mem_of_getElem? (i := 60) (by decide +kernel))))) rfl, zgw_of (List.mem_append_right _ (List.mem_append_right _ (List.mem_append_left _ (List.mem_of_getElem? (i := 61) (by decide +kernel))))) rfl, by decide, by decide +kernel⟩, Or.inl rfl⟩
theorem zmo_X8_turn : zv_mok zm_X8_turn := ⟨zgw_of (List.mem_append_right _ (List.mem_append_right _ (List.mem_append_left _ (List.mem_of_getElem? (i := 70) rfl)))) rfl, zgw_of (List.mem_append_left _ (List.mem_of_getElem? (i := 1) (by decide +kernel))) rfl, by decide +kernel, ⟨by decide +kernel, by decide +kernel⟩, rfl, by decide, ⟨zgw_of (List.mem_append_right _ (List.mem_append_right _ (List.mem_append_left _ (List.mem_of_getElem? (i := 68) (by decide +kernel))))) rfl, zgw_of (List.mem_append_right _ (List.mem_append_right _ (List.mem_append_left _ (List.mem_of_getElem? (i := 69) (by decide +kernel))))) rfl, by decide, by decide +kernel⟩, Or.inl rfl⟩
theorem zmo_X8_weigh : zv_mok zm_X8_weigh := ⟨zgw_of (List.mem_append_right _ (List.mem_append_right _ (List.mem_append_left _ (List.mem_of_getElem? (i := 78) rfl)))) rfl, zgw_of (List.mem_append_left _ (List.mem_of_getElem? (i := 1) (by decide +kernel))) rfl, by decide +kernel, ⟨by decide +kernel, by decide +kernel⟩, rfl, by decide, ⟨zgw_of (List.mem_append_right _ (List.mem_append_right _ (List.mem_append_left _ (List.mem_of_getElem? (i := 76) (by decide +kernel))))) rfl, zgw_of (List.mem_append_right _ (List.mem_append_right _ (List.mem_append_left _ (List.mem_of_getElem? (i := 77) (by decide +kernel))))) rfl, by decide, by decide +kernel⟩, Or.inl rfl⟩
theorem zmo_X8_add : zv_mok zm_X8_add := ⟨zgw_of (List.mem_append_right _ (List.mem_append_right _ (List.mem_append_left _ (List.mem_of_getElem? (i := 86) rfl)))) rfl, zgw_of (List.mem_append_left _ (List.mem_of_getElem? (i := 1) (by decide +kernel))) rfl, by decide +kernel, ⟨by decide +kernel, by decide +kernel⟩, rfl, by decide, ⟨zgw_of (List.mem_append_right _ (List.mem_append_right _ (List.mem_append_left _ (List.mem_of_getElem? (i := 84) (by decide +kernel))))) rfl, zgw_of (List.mem_append_right _ (List.mem_append_right _ (List.mem_append_left _ (List.mem_of_getElem? (i := 85) (by decide +kernel))))) rfl, by decide, by decide +kernel⟩, Or.inl rfl⟩
theorem zmo_X8_setMode : zv_mok zm_X8_setMode := ⟨zgw_of (List.mem_append_right _ (List.mem_append_right _ (List.mem_append_left _ (List.mem_of_getElem? (i := 94) rfl)))) rfl, zgw_of (List.mem_append_left _ (List.mem_of_getElem? (i := 1) (by decide +kernel))) rfl, by decide +kernel, ⟨by decide +kernel, by decide +kernel⟩, rfl, by decide, ⟨zgw_of (List.mem_append_right _ (List.mem_append_right _ (List.mem_append_left _ (List.mem_of_getElem? (i := 92) (by decide +kernel))))) rfl, zgw_of (List.mem_append_right _ (List.mem_append_right _ (List.mem_append_left _ (List.mem_of_getElem? (i := 93) (by decide +kernel))))) rfl, by decide, by decide +kernel⟩, Or.inl rfl⟩
theorem zmo_X8_undo : zv_mok zm_X8_undo := ⟨zgw_of (List.mem_append_right _ (List.mem_append_right _ (List.mem_append_left _ (List.mem_of_getElem? (i := 102) rfl)))) rfl, zgw_of (List.mem_append_left _ (List.mem_of_getElem? (i := 1) (by decide +kernel))) rfl, by decide +kernel, ⟨by decide +kernel, by decide +kernel⟩, rfl, by decide, ⟨zgw_of (List.mem_append_right _ (List.mem_append_right _ (List.mem_append_left _ (List.mem_of_getElem? (i := 100) (by decide +kernel))))) rfl, zgw_of (List.mem_append_right _ (List.mem_append_right _ (List.mem_append_left _ (List.mem_of_getElem? (i := 101) (by decide +kernel))))) rfl, by decide, by decide +kernel⟩, Or.inl rfl⟩
theorem zmo_X8_choice : zv_mok zm_X8_choice := ⟨zgw_of (List.mem_append_right _ (List.mem_append_right _ (List.mem_append_left _ (List.mem_of_getElem? (i := 118) rfl)))) rfl, zgw_of (List.mem_append_left _ (List.mem_of_getElem? (i := 1) (by decide +kernel))) rfl, by decide +kernel, ⟨by decide +kernel, by decide +kernel⟩, rfl, by decide, ⟨zgw_of (List.mem_append_right _ (List.mem_append_right _ (List.mem_append_left _ (List.mem_of_getElem? (i := 116) (by decide +kernel))))) rfl, zgw_of (List.mem_append_right _ (List.mem_append_right _ (List.mem_append_left _ (List.mem_of_getElem? (i := 117) (by decide +kernel))))) rfl, by decide, by decide +kernel⟩, Or.inl rfl⟩
theorem zmo_X8_heard : zv_mok zm_X8_heard := ⟨zgw_of (List.mem_append_right _ (List.mem_append_right _ (List.mem_append_left _ (List.mem_of_getElem? (i := 136) rfl)))) rfl, zgw_of (List.mem_append_left _ (List.mem_of_getElem? (i := 1) (by decide +kernel))) rfl, by decide +kernel, ⟨by decide +kernel, by decide +kernel⟩, rfl, by decide, ⟨zgw_of (List.mem_append_right _ (List.mem_append_right _ (List.mem_append_left _ (List.mem_of_getElem? (i := 134) (by decide +kernel))))) rfl, zgw_of (List.mem_append_right _ (List.mem_append_right _ (List.mem_append_left _ (List.mem_of_getElem? (i := 135) (by decide +kernel))))) rfl, by decide, by decide +kernel⟩, Or.inl rfl⟩
theorem zmo_X8_tells : zv_mok zm_X8_tells := ⟨zgw_of (List.mem_append_right _ (List.mem_append_right _ (List.mem_append_left _ (List.mem_of_getElem? (i := 141) rfl)))) rfl, zgw_of (List.mem_append_left _ (List.mem_of_getElem? (i := 1) (by decide +kernel))) rfl, by decide +kernel, ⟨by decide +kernel, by decide +kernel⟩, rfl, by decide, ⟨zgw_of (List.mem_append_right _ (List.mem_append_right _ (List.mem_append_left _ (List.mem_of_getElem? (i := 139) (by decide +kernel))))) rfl, zgw_of (List.mem_append_right _ (List.mem_append_right _ (List.mem_append_left _ (List.mem_of_getElem? (i := 140) (by decide +kernel))))) rfl, by decide, by decide +kernel⟩, Or.inl rfl⟩
theorem zmo_X8_mesh : zv_mok zm_X8_mesh := ⟨zgw_of (List.mem_append_right _ (List.mem_append_right _ (List.mem_append_left _ (List.mem_of_getElem? (i := 146) rfl)))) rfl, zgw_of (List.mem_append_left _ (List.mem_of_getElem? (i := 1) (by decide +kernel))) rfl, by decide +kernel, ⟨by decide +kernel, by decide +kernel⟩, rfl, by decide, ⟨zgw_of (List.mem_append_right _ (List.mem_append_right _ (List.mem_append_left _ (List.mem_of_getElem? (i := 144) (by decide +kernel))))) rfl, zgw_of (List.mem_append_right _ (List.mem_append_right _ (List.mem_append_left _ (List.mem_of_getElem? (i := 145) (by decide +kernel))))) rfl, by decide, by decide +kernel⟩, Or.inl rfl⟩
theorem zmo_X8_leaves : zv_mok zm_X8_leaves := ⟨zgw_of (List.mem_append_right _ (List.mem_append_right _ (List.mem_append_left _ (List.mem_of_getElem? (i := 151) rfl)))) rfl, zgw_of (List.mem_append_left _ (List.mem_of_getElem? (i := 1) (by decide +kernel))) rfl, by decide +kernel, ⟨by decide +kernel, by decide +kernel⟩, rfl, by decide, ⟨zgw_of (List.mem_append_right _ (List.mem_append_right _ (List.mem_append_left _ (List.mem_of_getElem? (i := 149) (by decide +kernel))))) rfl, zgw_of (List.mem_append_right _ (List.mem_append_right _ (List.mem_append_left _ (List.mem_of_getElem? (i := 150) (by decide +kernel))))) rfl, by decide, by decide +kernel⟩, Or.inl rfl⟩
theorem zmo_X8_run : zv_mok zm_X8_run := ⟨zgw_of (List.mem_append_right _ (List.mem_append_right _ (List.mem_append_left _ (List.mem_of_getElem? (i := 170) rfl)))) rfl, zgw_of (List.mem_append_left _ (List.mem_of_getElem? (i := 1) (by decide +kernel))) rfl, by decide +kernel, ⟨by decide +kernel, by decide +kernel⟩, rfl, by decide, ⟨zgw_of (List.mem_append_right _ (List.mem_append_right _ (List.mem_append_left _ (List.mem_of_getElem? (i := 168) (by decide +kernel))))) rfl, zgw_of (List.mem_append_right _ (List.mem_append_right _ (List.mem_append_left _ (List.mem_of_getElem? (i := 169) (by decide +kernel))))) rfl, by decide, by decide +kernel⟩, Or.inl rfl⟩
theorem zmo_X8_orders : zv_mok zm_X8_orders := ⟨zgw_of (List.mem_append_right _ (List.mem_append_right _ (List.mem_append_left _ (List.mem_of_getElem? (i := 201) rfl)))) rfl, zgw_of (List.mem_append_left _ (List.mem_of_getElem? (i := 1) (by decide +kernel))) rfl, by decide +kernel, ⟨by decide +kernel, by decide +kernel⟩, rfl, by decide, ⟨zgw_of (List.mem_append_right _ (List.mem_append_right _ (List.mem_append_left _ (List.mem_of_getElem? (i := 199) (by decide +kernel))))) rfl, zgw_of (List.mem_append_right _ (List.mem_append_right _ (List.mem_append_left _ (List.mem_of_getElem? (i := 200) (by decide +kernel))))) rfl, by decide, by decide +kernel⟩, Or.inl rfl⟩
theorem zmo_X8_healed : zv_mok zm_X8_healed := ⟨zgw_of (List.mem_append_right _ (List.mem_append_right _ (List.mem_append_left _ (List.mem_of_getElem? (i := 238) rfl)))) rfl, zgw_of (List.mem_append_left _ (List.mem_of_getElem? (i := 1) (by decide +kernel))) rfl, by decide +kernel, ⟨by decide +kernel, by decide +kernel⟩, rfl, by decide, ⟨zgw_of (List.mem_append_right _ (List.mem_append_right _ (List.mem_append_left _ (List.mem_of_getElem? (i := 236) (by decide +kernel))))) rfl, zgw_of (List.mem_append_right _ (List.mem_append_right _ (List.mem_append_left _ (List.mem_of_getElem? (i := 237) (by decide +kernel))))) rfl, by decide, by decide +kernel⟩, Or.inl rfl⟩
theorem zmo_X8_judge : zv_mok zm_X8_judge := ⟨zgw_of (List.mem_append_right _ (List.mem_append_right _ (List.mem_append_right _ (List.mem_append_left _ (List.mem_of_getElem? (i := 7) rfl))))) rfl, zgw_of (List.mem_append_left _ (List.mem_of_getElem? (i := 1) (by decide +kernel))) rfl, by decide +kernel, ⟨by decide +kernel, by decide +kernel⟩, rfl, by decide, ⟨zgw_of (List.mem_append_right _ (List.mem_append_right _ (List.mem_append_right _ (List.mem_append_left _ (List.mem_of_getElem? (i := 5) (by decide +kernel)))))) rfl, zgw_of (List.mem_append_right _ (List.mem_append_right _ (List.mem_append_right _ (List.mem_append_left _ (List.mem_of_getElem? (i := 6) (by decide +kernel)))))) rfl, by decide, by decide +kernel⟩, Or.inl rfl⟩
theorem zmo_X8_see : zv_mok zm_X8_see := ⟨zgw_of (List.mem_append_right _ (List.mem_append_right _ (List.mem_append_right _ (List.mem_append_left _ (List.mem_of_getElem? (i := 34) rfl))))) rfl, zgw_of (List.mem_append_left _ (List.mem_of_getElem? (i := 1) (by decide +kernel))) rfl, by decide +kernel, ⟨by decide +kernel, by decide +kernel⟩, rfl, by decide, ⟨zgw_of (List.mem_append_right _ (List.mem_append_right _ (List.mem_append_right _ (List.mem_append_left _ (List.mem_of_getElem? (i := 32) (by decide +kernel)))))) rfl, zgw_of (List.mem_append_right _ (List.mem_append_right _ (List.mem_append_right _ (List.mem_append_left _ (List.mem_of_getElem? (i := 33) (by decide +kernel)))))) rfl, by decide, by decide +kernel⟩, Or.inl rfl⟩
theorem zmo_X8_unsee : zv_mok zm_X8_unsee := ⟨zgw_of (List.mem_append_right _ (List.mem_append_right _ (List.mem_append_right _ (List.mem_append_left _ (List.mem_of_getElem? (i := 42) rfl))))) rfl, zgw_of (List.mem_append_left _ (List.mem_of_getElem? (i := 1) (by decide +kernel))) rfl, by decide +kernel, ⟨by decide +kernel, by decide +kernel⟩, rfl, by decide, ⟨zgw_of (List.mem_append_right _ (List.mem_append_right _ (List.mem_append_right _ (List.mem_append_left _ (List.mem_of_getElem? (i := 40) (by decide +kernel)))))) rfl, zgw_of (List.mem_append_right _ (List.mem_append_right _ (List.mem_append_right _ (List.mem_append_left _ (List.mem_of_getElem? (i := 41) (by decide +kernel)))))) rfl, by decide, by decide +kernel⟩, Or.inl rfl⟩
theorem zmo_X8_which : zv_mok zm_X8_which := ⟨zgw_of (List.mem_append_right _ (List.mem_append_right _ (List.mem_append_right _ (List.mem_append_left _ (List.mem_of_getElem? (i := 46) rfl))))) rfl, zgw_of (List.mem_append_left _ (List.mem_of_getElem? (i := 1) (by decide +kernel))) rfl, by decide +kernel, ⟨by decide +kernel, by decide +kernel⟩, rfl, by decide, ⟨zgw_of (List.mem_append_right _ (List.mem_append_right _ (List.mem_append_right _ (List.mem_append_left _ (List.mem_of_getElem? (i := 44) (by decide +kernel)))))) rfl, zgw_of (List.mem_append_right _ (List.mem_append_right _ (List.mem_append_right _ (List.mem_append_left _ (List.mem_of_getElem? (i := 45) (by decide +kernel)))))) rfl, by decide, by decide +kernel⟩, Or.inl rfl⟩
theorem zmo_X8_share : zv_mok zm_X8_share := ⟨zgw_of (List.mem_append_right _ (List.mem_append_right _ (List.mem_append_right _ (List.mem_append_left _ (List.mem_of_getElem? (i := 56) rfl))))) rfl, zgw_of (List.mem_append_left _ (List.mem_of_getElem? (i := 1) (by decide +kernel))) rfl, by decide +kernel, ⟨by decide +kernel, by decide +kernel⟩, rfl, by decide, ⟨zgw_of (List.mem_append_right _ (List.mem_append_right _ (List.mem_append_right _ (List.mem_append_left _ (List.mem_of_getElem? (i := 54) (by decide +kernel)))))) rfl, zgw_of (List.mem_append_right _ (List.mem_append_right _ (List.mem_append_right _ (List.mem_append_left _ (List.mem_of_getElem? (i := 55) (by decide +kernel)))))) rfl, by decide, by decide +kernel⟩, Or.inl rfl⟩
theorem zmo_X8_lost : zv_mok zm_X8_lost := ⟨zgw_of (List.mem_append_right _ (List.mem_append_right _ (List.mem_append_right _ (List.mem_append_left _ (List.mem_of_getElem? (i := 83) rfl))))) rfl, zgw_of (List.mem_append_left _ (List.mem_of_getElem? (i := 1) (by decide +kernel))) rfl, by decide +kernel, ⟨by decide +kernel, by decide +kernel⟩, rfl, by decide, ⟨zgw_of (List.mem_append_right _ (List.mem_append_right _ (List.mem_append_right _ (List.mem_append_left _ (List.mem_of_getElem? (i := 81) (by decide +kernel)))))) rfl, zgw_of (List.mem_append_right _ (List.mem_append_right _ (List.mem_append_right _ (List.mem_append_left _ (List.mem_of_getElem? (i := 82) (by decide +kernel)))))) rfl, by decide, by decide +kernel⟩, Or.inl rfl⟩
theorem zmo_X8_seed : zv_mok zm_X8_seed := ⟨zgw_of (List.mem_append_right _ (List.mem_append_right _ (List.mem_append_right _ (List.mem_append_left _ (List.mem_of_getElem? (i := 91) rfl))))) rfl, zgw_of (List.mem_append_left _ (List.mem_of_getElem? (i := 1) (by decide +kernel))) rfl, by decide +kernel, ⟨by decide +kernel, by decide +kernel⟩, rfl, by decide, ⟨zgw_of (List.mem_append_right _ (List.mem_append_right _ (List.mem_append_right _ (List.mem_append_left _ (List.mem_of_getElem? (i := 89) (by decide +kernel)))))) rfl, zgw_of (List.mem_append_right _ (List.mem_append_right _ (List.mem_append_right _ (List.mem_append_left _ (List.mem_of_getElem? (i := 90) (by decide +kernel)))))) rfl, by decide, by decide +kernel⟩, rfl⟩
theorem zmo_X8_drawn : zv_mok zm_X8_drawn := ⟨zgw_of (List.mem_append_right _ (List.mem_append_right _ (List.mem_append_right _ (List.mem_append_left _ (List.mem_of_getElem? (i := 95) rfl))))) rfl, zgw_of (List.mem_append_left _ (List.mem_of_getElem? (i := 1) (by decide +kernel))) rfl, by decide +kernel, ⟨by decide +kernel, by decide +kernel⟩, rfl, by decide, ⟨zgw_of (List.mem_append_right _ (List.mem_append_right _ (List.mem_append_right _ (List.mem_append_left _ (List.mem_of_getElem? (i := 93) (by decide +kernel)))))) rfl, zgw_of (List.mem_append_right _ (List.mem_append_right _ (List.mem_append_right _ (List.mem_append_left _ (List.mem_of_getElem? (i := 94) (by decide +kernel)))))) rfl, by decide, by decide +kernel⟩, Or.inl rfl⟩
theorem zmo_X8_keep : zv_mok zm_X8_keep := ⟨zgw_of (List.mem_append_right _ (List.mem_append_right _ (List.mem_append_right _ (List.mem_append_left _ (List.mem_of_getElem? (i := 101) rfl))))) rfl, zgw_of (List.mem_append_left _ (List.mem_of_getElem? (i := 1) (by decide +kernel))) rfl, by decide +kernel, ⟨by decide +kernel, by decide +kernel⟩, rfl, by decide, ⟨zgw_of (List.mem_append_right _ (List.mem_append_right _ (List.mem_append_right _ (List.mem_append_left _ (List.mem_of_getElem? (i := 99) (by decide +kernel)))))) rfl, zgw_of (List.mem_append_right _ (List.mem_append_right _ (List.mem_append_right _ (List.mem_append_left _ (List.mem_of_getElem? (i := 100) (by decide +kernel)))))) rfl, by decide, by decide +kernel⟩, Or.inl rfl⟩
theorem zmo_X8_again : zv_mok zm_X8_again := ⟨zgw_of (List.mem_append_right _ (List.mem_append_right _ (List.mem_append_right _ (List.mem_append_left _ (List.mem_of_getElem? (i := 106) rfl))))) rfl, zgw_of (List.mem_append_left _ (List.mem_of_getElem? (i := 1) (by decide +kernel))) rfl, by decide +kernel, ⟨by decide +kernel, by decide +kernel⟩, rfl, by decide, ⟨zgw_of (List.mem_append_right _ (List.mem_append_right _ (List.mem_append_right _ (List.mem_append_left _ (List.mem_of_getElem? (i := 104) (by decide +kernel)))))) rfl, zgw_of (List.mem_append_right _ (List.mem_append_right _ (List.mem_append_right _ (List.mem_append_left _ (List.mem_of_getElem? (i := 105) (by decide +kernel)))))) rfl, by decide, by decide +kernel⟩, Or.inl rfl⟩
theorem zmo_X8_count : zv_mok zm_X8_count := ⟨zgw_of (List.mem_append_right _ (List.mem_append_right _ (List.mem_append_right _ (List.mem_append_left _ (List.mem_of_getElem? (i := 110) rfl))))) rfl, zgw_of (List.mem_append_left _ (List.mem_of_getElem? (i := 1) (by decide +kernel))) rfl, by decide +kernel, ⟨by decide +kernel, by decide +kernel⟩, rfl, by decide, ⟨zgw_of (List.mem_append_right _ (List.mem_append_right _ (List.mem_append_right _ (List.mem_append_left _ (List.mem_of_getElem? (i := 108) (by decide +kernel)))))) rfl, zgw_of (List.mem_append_right _ (List.mem_append_right _ (List.mem_append_right _ (List.mem_append_left _ (List.mem_of_getElem? (i := 109) (by decide +kernel)))))) rfl, by decide, by decide +kernel⟩, Or.inl rfl⟩
theorem zmo_X8_exitOf : zv_mok zm_X8_exitOf := ⟨zgw_of (List.mem_append_right _ (List.mem_append_right _ (List.mem_append_left _ (List.mem_of_getElem? (i := 129) rfl)))) rfl, zgw_of (List.mem_append_left _ (List.mem_of_getElem? (i := 1) (by decide +kernel))) rfl, by decide +kernel, ⟨by decide +kernel, by decide +kernel⟩, rfl, by decide, ⟨zgw_of (List.mem_append_right _ (List.mem_append_right _ (List.mem_append_left _ (List.mem_of_getElem? (i := 128) (by decide +kernel))))) rfl, by decide +kernel⟩, Or.inl rfl⟩
theorem zmo_X8_fromOf : zv_mok zm_X8_fromOf := ⟨zgw_of (List.mem_append_right _ (List.mem_append_right _ (List.mem_append_left _ (List.mem_of_getElem? (i := 132) rfl)))) rfl, zgw_of (List.mem_append_left _ (List.mem_of_getElem? (i := 1) (by decide +kernel))) rfl, by decide +kernel, ⟨by decide +kernel, by decide +kernel⟩, rfl, by decide, ⟨zgw_of (List.mem_append_right _ (List.mem_append_right _ (List.mem_append_left _ (List.mem_of_getElem? (i := 131) (by decide +kernel))))) rfl, by decide +kernel⟩, Or.inl rfl⟩
theorem zmo_X8_routeOf : zv_mok zm_X8_routeOf := ⟨zgw_of (List.mem_append_right _ (List.mem_append_right _ (List.mem_append_left _ (List.mem_of_getElem? (i := 20) rfl)))) rfl, zgw_of (List.mem_append_left _ (List.mem_of_getElem? (i := 1) (by decide +kernel))) rfl, by decide +kernel, ⟨by decide +kernel, by decide +kernel⟩, rfl, by decide, ⟨zgw_of (List.mem_append_right _ (List.mem_append_right _ (List.mem_append_left _ (List.mem_of_getElem? (i := 19) (by decide +kernel))))) rfl, by decide +kernel⟩, Or.inl rfl⟩
theorem zmo_X8_factorial : zv_mok zm_X8_factorial := ⟨zgw_of (List.mem_append_right _ (List.mem_append_right _ (List.mem_append_right _ (List.mem_append_left _ (List.mem_of_getElem? (i := 68) rfl))))) rfl, zgw_of (List.mem_append_left _ (List.mem_of_getElem? (i := 1) (by decide +kernel))) rfl, by decide +kernel, ⟨by decide +kernel, by decide +kernel⟩, rfl, by decide, ⟨zgw_of (List.mem_append_right _ (List.mem_append_right _ (List.mem_append_right _ (List.mem_append_left _ (List.mem_of_getElem? (i := 67) (by decide +kernel)))))) rfl, by decide +kernel⟩, Or.inl rfl⟩
theorem zmo_X8_commonDivisor : zv_mok zm_X8_commonDivisor := ⟨zgw_of (List.mem_append_right _ (List.mem_append_right _ (List.mem_append_right _ (List.mem_append_left _ (List.mem_of_getElem? (i := 79) rfl))))) rfl, zgw_of (List.mem_append_left _ (List.mem_of_getElem? (i := 1) (by decide +kernel))) rfl, by decide +kernel, ⟨by decide +kernel, by decide +kernel⟩, rfl, by decide, ⟨zgw_of (List.mem_append_right _ (List.mem_append_right _ (List.mem_append_right _ (List.mem_append_left _ (List.mem_of_getElem? (i := 78) (by decide +kernel)))))) rfl, by decide +kernel⟩, Or.inl rfl⟩
theorem zmo_X8_part : zv_mok zm_X8_part := ⟨zgw_of (List.mem_append_right _ (List.mem_append_right _ (List.mem_append_right _ (List.mem_append_left _ (List.mem_of_getElem? (i := 73) rfl))))) rfl, zgw_of (List.mem_append_left _ (List.mem_of_getElem? (i := 1) (by decide +kernel))) rfl, by decide +kernel, ⟨by decide +kernel, by decide +kernel⟩, rfl, by decide, ⟨zgw_of (List.mem_append_right _ (List.mem_append_right _ (List.mem_append_right _ (List.mem_append_left _ (List.mem_of_getElem? (i := 72) (by decide +kernel)))))) rfl, by decide +kernel⟩, Or.inl rfl⟩
theorem zmo_X8_restsAnew : zv_mok zm_X8_restsAnew := ⟨zgw_of (List.mem_append_right _ (List.mem_append_right _ (List.mem_append_right _ (List.mem_append_left _ (List.mem_of_getElem? (i := 3) rfl))))) rfl, zgw_of (List.mem_append_left _ (List.mem_of_getElem? (i := 1) (by decide +kernel))) rfl, by decide +kernel, ⟨by decide +kernel, by decide +kernel⟩, rfl, by decide, ⟨zgw_of (List.mem_append_right _ (List.mem_append_right _ (List.mem_append_right _ (List.mem_append_left _ (List.mem_of_getElem? (i := 2) (by decide +kernel)))))) rfl, zgw_sel (List.mem_of_getElem? (i := 27) (by decide +kernel)) rfl, by decide, by decide +kernel⟩, Or.inr rfl⟩
theorem zmo_X8_gainFactor : zv_mok zm_X8_gainFactor := ⟨zgw_of (List.mem_append_right _ (List.mem_append_right _ (List.mem_append_right _ (List.mem_append_left _ (List.mem_of_getElem? (i := 65) rfl))))) rfl, zgw_of (List.mem_append_left _ (List.mem_of_getElem? (i := 1) (by decide +kernel))) rfl, by decide +kernel, ⟨by decide +kernel, by decide +kernel⟩, rfl, by decide, ⟨zgw_of (List.mem_append_right _ (List.mem_append_right _ (List.mem_append_right _ (List.mem_append_left _ (List.mem_of_getElem? (i := 64) (by decide +kernel)))))) rfl, zgw_sel (List.mem_of_getElem? (i := 31) (by decide +kernel)) rfl, by decide, by decide +kernel⟩, Or.inl rfl⟩
theorem zmo_X8_chanceOf : zv_mok zm_X8_chanceOf := ⟨zgw_of (List.mem_append_right _ (List.mem_append_right _ (List.mem_append_right _ (List.mem_append_left _ (List.mem_of_getElem? (i := 87) rfl))))) rfl, zgw_of (List.mem_append_left _ (List.mem_of_getElem? (i := 1) (by decide +kernel))) rfl, by decide +kernel, ⟨by decide +kernel, by decide +kernel⟩, rfl, by decide, ⟨zgw_of (List.mem_append_right _ (List.mem_append_right _ (List.mem_append_right _ (List.mem_append_left _ (List.mem_of_getElem? (i := 86) (by decide +kernel)))))) rfl, zgw_sel (List.mem_of_getElem? (i := 32) (by decide +kernel)) rfl, by decide, by decide +kernel⟩, Or.inl rfl⟩
theorem zmo_X8_holds : zv_mok zm_X8_holds := ⟨zgw_of (List.mem_append_right _ (List.mem_append_right _ (List.mem_append_right _ (List.mem_append_left _ (List.mem_of_getElem? (i := 14) rfl))))) rfl, zgw_of (List.mem_append_left _ (List.mem_of_getElem? (i := 1) (by decide +kernel))) rfl, by decide +kernel, ⟨by decide +kernel, by decide +kernel⟩, rfl, by decide, ⟨zgw_of (List.mem_append_right _ (List.mem_append_right _ (List.mem_append_right _ (List.mem_append_left _ (List.mem_of_getElem? (i := 13) (by decide +kernel)))))) rfl, zgw_sel (List.mem_of_getElem? (i := 28) (by decide +kernel)) rfl, by decide, by decide +kernel⟩, Or.inr rfl⟩
theorem zmo_X8_happens : zv_mok zm_X8_happens := ⟨zgw_of (List.mem_append_right _ (List.mem_append_right _ (List.mem_append_right _ (List.mem_append_left _ (List.mem_of_getElem? (i := 18) rfl))))) rfl, zgw_of (List.mem_append_left _ (List.mem_of_getElem? (i := 1) (by decide +kernel))) rfl, by decide +kernel, ⟨by decide +kernel, by decide +kernel⟩, rfl, by decide, ⟨zgw_of (List.mem_append_right _ (List.mem_append_right _ (List.mem_append_right _ (List.mem_append_left _ (List.mem_of_getElem? (i := 17) (by decide +kernel)))))) rfl, zgw_sel (List.mem_of_getElem? (i := 29) (by decide +kernel)) rfl, by decide, by decide +kernel⟩, Or.inr rfl⟩
theorem zmo_X8_canBeAnswer : zv_mok zm_X8_canBeAnswer := ⟨zgw_of (List.mem_append_right _ (List.mem_append_right _ (List.mem_append_right _ (List.mem_append_left _ (List.mem_of_getElem? (i := 22) rfl))))) rfl, zgw_of (List.mem_append_left _ (List.mem_of_getElem? (i := 1) (by decide +kernel))) rfl, by decide +kernel, ⟨by decide +kernel, by decide +kernel⟩, rfl, by decide, ⟨zgw_of (List.mem_append_right _ (List.mem_append_right _ (List.mem_append_right _ (List.mem_append_left _ (List.mem_of_getElem? (i := 21) (by decide +kernel)))))) rfl, zgw_sel (List.mem_of_getElem? (i := 30) (by decide +kernel)) rfl, by decide, by decide +kernel⟩, Or.inr rfl⟩
theorem zmo_X8_isExit : zv_mok zm_X8_isExit := ⟨zgw_of (List.mem_append_right _ (List.mem_append_right _ (List.mem_append_right _ (List.mem_append_left _ (List.mem_of_getElem? (i := 26) rfl))))) rfl, zgw_of (List.mem_append_left _ (List.mem_of_getElem? (i := 1) (by decide +kernel))) rfl, by decide +kernel, ⟨by decide +kernel, by decide +kernel⟩, rfl, by decide, ⟨zgw_of (List.mem_append_right _ (List.mem_append_right _ (List.mem_append_right _ (List.mem_append_left _ (List.mem_of_getElem? (i := 25) (by decide +kernel)))))) rfl, by decide +kernel⟩, Or.inr rfl⟩
theorem zmo_X9_init : zv_mok zm_X9_init := ⟨zgw_of (List.mem_append_right _ (List.mem_append_right _ (List.mem_append_right _ (List.mem_append_left _ (List.mem_of_getElem? (i := 127) rfl))))) rfl, zgw_of (List.mem_append_left _ (List.mem_of_getElem? (i := 12) (by decide +kernel))) rfl, by decide +kernel, ⟨by decide +kernel, by decide +kernel⟩, rfl, by decide, ⟨zgw_of (List.mem_append_right _ (List.mem_append_right _ (List.mem_append_right _ (List.mem_append_left _ (List.mem_of_getElem? (i := 126) (by decide +kernel)))))) rfl, rfl, rfl, rfl, by decide +kernel⟩, rfl⟩
theorem zmo_X9_in : zv_mok zm_X9_in := ⟨zgw_of (List.mem_append_right _ (List.mem_append_right _ (List.mem_append_right _ (List.mem_append_left _ (List.mem_of_getElem? (i := 236) rfl))))) rfl, zgw_of (List.mem_append_left _ (List.mem_of_getElem? (i := 12) (by decide +kernel))) rfl, by decide +kernel, ⟨by decide +kernel, by decide +kernel⟩, rfl, by decide, ⟨zgw_of (List.mem_append_right _ (List.mem_append_right _ (List.mem_append_right _ (List.mem_append_left _ (List.mem_of_getElem? (i := 235) (by decide +kernel)))))) rfl, by decide +kernel⟩, Or.inr rfl⟩
theorem zmo_X9_has : zv_mok zm_X9_has := ⟨zgw_of (List.mem_append_right _ (List.mem_append_right _ (List.mem_append_right _ (List.mem_append_right _ (List.mem_append_left _ (List.mem_of_getElem? (i := 101) rfl)))))) rfl, zgw_of (List.mem_append_left _ (List.mem_of_getElem? (i := 12) (by decide +kernel))) rfl, by decide +kernel, ⟨by decide +kernel, by decide +kernel⟩, rfl, by decide, ⟨zgw_of (List.mem_append_right _ (List.mem_append_right _ (List.mem_append_right _ (List.mem_append_right _ (List.mem_append_left _ (List.mem_of_getElem? (i := 100) (by decide +kernel))))))) rfl, by decide +kernel⟩, Or.inr rfl⟩
theorem zmo_X9_ones : zv_mok zm_X9_ones := ⟨zgw_of (List.mem_append_right _ (List.mem_append_right _ (List.mem_append_right _ (List.mem_append_right _ (List.mem_append_left _ (List.mem_of_getElem? (i := 108) rfl)))))) rfl, zgw_of (List.mem_append_left _ (List.mem_of_getElem? (i := 12) (by decide +kernel))) rfl, by decide +kernel, ⟨by decide +kernel, by decide +kernel⟩, rfl, by decide, ⟨zgw_of (List.mem_append_right _ (List.mem_append_right _ (List.mem_append_right _ (List.mem_append_right _ (List.mem_append_left _ (List.mem_of_getElem? (i := 107) (by decide +kernel))))))) rfl, by decide +kernel⟩, Or.inl rfl⟩
theorem zmo_X9_power : zv_mok zm_X9_power := ⟨zgw_of (List.mem_append_right _ (List.mem_append_right _ (List.mem_append_right _ (List.mem_append_right _ (List.mem_append_left _ (List.mem_of_getElem? (i := 231) rfl)))))) rfl, zgw_of (List.mem_append_left _ (List.mem_of_getElem? (i := 12) (by decide +kernel))) rfl, by decide +kernel, ⟨by decide +kernel, by decide +kernel⟩, rfl, by decide, ⟨zgw_of (List.mem_append_right _ (List.mem_append_right _ (List.mem_append_right _ (List.mem_append_right _ (List.mem_append_left _ (List.mem_of_getElem? (i := 230) (by decide +kernel))))))) rfl, by decide +kernel⟩, Or.inl rfl⟩
theorem zmo_X9_clearChoices : zv_mok zm_X9_clearChoices := ⟨zgw_of (List.mem_append_right _ (List.mem_append_right _ (List.mem_append_right _ (List.mem_append_left _ (List.mem_of_getElem? (i := 131) rfl))))) rfl, zgw_of (List.mem_append_left _ (List.mem_of_getElem? (i := 12) (by decide +kernel))) rfl, by decide +kernel, ⟨by decide +kernel, by decide +kernel⟩, rfl, by decide, ⟨zgw_of (List.mem_append_right _ (List.mem_append_right _ (List.mem_append_right _ (List.mem_append_left _ (List.mem_of_getElem? (i := 130) (by decide +kernel)))))) rfl, by decide +kernel⟩, rfl⟩
theorem zmo_X9_lay : zv_mok zm_X9_lay := ⟨zgw_of (List.mem_append_right _ (List.mem_append_right _ (List.mem_append_right _ (List.mem_append_right _ (List.mem_append_left _ (List.mem_of_getElem? (i := 50) rfl)))))) rfl, zgw_of (List.mem_append_left _ (List.mem_of_getElem? (i := 12) (by decide +kernel))) rfl, by decide +kernel, ⟨by decide +kernel, by decide +kernel⟩, rfl, by decide, ⟨zgw_of (List.mem_append_right _ (List.mem_append_right _ (List.mem_append_right _ (List.mem_append_right _ (List.mem_append_left _ (List.mem_of_getElem? (i := 49) (by decide +kernel))))))) rfl, by decide +kernel⟩, rfl⟩
theorem zmo_X9_noRouter : zv_mok zm_X9_noRouter := ⟨zgw_of (List.mem_append_right _ (List.mem_append_right _ (List.mem_append_right _ (List.mem_append_right _ (List.mem_append_left _ (List.mem_of_getElem? (i := 58) rfl)))))) rfl, zgw_of (List.mem_append_left _ (List.mem_of_getElem? (i := 12) (by decide +kernel))) rfl, by decide +kernel, ⟨by decide +kernel, by decide +kernel⟩, rfl, by decide, ⟨zgw_of (List.mem_append_right _ (List.mem_append_right _ (List.mem_append_right _ (List.mem_append_right _ (List.mem_append_left _ (List.mem_of_getElem? (i := 57) (by decide +kernel))))))) rfl, zgw_sel (List.mem_of_getElem? (i := 42) (by decide +kernel)) rfl, by decide, by decide +kernel⟩, Or.inr rfl⟩
theorem zmo_X9_noExit : zv_mok zm_X9_noExit := ⟨zgw_of (List.mem_append_right _ (List.mem_append_right _ (List.mem_append_right _ (List.mem_append_right _ (List.mem_append_left _ (List.mem_of_getElem? (i := 74) rfl)))))) rfl, zgw_of (List.mem_append_left _ (List.mem_of_getElem? (i := 12) (by decide +kernel))) rfl, by decide +kernel, ⟨by decide +kernel, by decide +kernel⟩, rfl, by decide, ⟨zgw_of (List.mem_append_right _ (List.mem_append_right _ (List.mem_append_right _ (List.mem_append_right _ (List.mem_append_left _ (List.mem_of_getElem? (i := 73) (by decide +kernel))))))) rfl, zgw_sel (List.mem_of_getElem? (i := 44) (by decide +kernel)) rfl, by decide, by decide +kernel⟩, Or.inr rfl⟩
theorem zmo_X9_pair : zv_mok zm_X9_pair := ⟨zgw_of (List.mem_append_right _ (List.mem_append_right _ (List.mem_append_right _ (List.mem_append_right _ (List.mem_append_left _ (List.mem_of_getElem? (i := 27) rfl)))))) rfl, zgw_of (List.mem_append_left _ (List.mem_of_getElem? (i := 12) (by decide +kernel))) rfl, by decide +kernel, ⟨by decide +kernel, by decide +kernel⟩, rfl, by decide, ⟨zgw_of (List.mem_append_right _ (List.mem_append_right _ (List.mem_append_right _ (List.mem_append_right _ (List.mem_append_left _ (List.mem_of_getElem? (i := 26) (by decide +kernel))))))) rfl, by decide +kernel⟩, Or.inl rfl⟩
theorem zmo_X9_write : zv_mok zm_X9_write := ⟨zgw_of (List.mem_append_right _ (List.mem_append_right _ (List.mem_append_right _ (List.mem_append_left _ (List.mem_of_getElem? (i := 232) rfl))))) rfl, zgw_of (List.mem_append_left _ (List.mem_of_getElem? (i := 12) (by decide +kernel))) rfl, by decide +kernel, ⟨by decide +kernel, by decide +kernel⟩, rfl, by decide, ⟨zgw_of (List.mem_append_right _ (List.mem_append_right _ (List.mem_append_right _ (List.mem_append_left _ (List.mem_of_getElem? (i := 230) (by decide +kernel)))))) rfl, zgw_of (List.mem_append_right _ (List.mem_append_right _ (List.mem_append_right _ (List.mem_append_left _ (List.mem_of_getElem? (i := 231) (by decide +kernel)))))) rfl, by decide, by decide +kernel⟩, Or.inl rfl⟩
theorem zmo_X9_wipe : zv_mok zm_X9_wipe := ⟨zgw_of (List.mem_append_right _ (List.mem_append_right _ (List.mem_append_right _ (List.mem_append_right _ (List.mem_append_left _ (List.mem_of_getElem? (i := 0) rfl)))))) rfl, zgw_of (List.mem_append_left _ (List.mem_of_getElem? (i := 12) (by decide +kernel))) rfl, by decide +kernel, ⟨by decide +kernel, by decide +kernel⟩, rfl, by decide, ⟨zgw_of (List.mem_append_right _ (List.mem_append_right _ (List.mem_append_right _ (List.mem_append_left _ (List.mem_of_getElem? (i := 238) (by decide +kernel)))))) rfl, zgw_of (List.mem_append_right _ (List.mem_append_right _ (List.mem_append_right _ (List.mem_append_left _ (List.mem_of_getElem? (i := 239) (by decide +kernel)))))) rfl, by decide, by decide +kernel⟩, Or.inl rfl⟩
theorem zmo_X9_figure : zv_mok zm_X9_figure := ⟨zgw_of (List.mem_append_right _ (List.mem_append_right _ (List.mem_append_right _ (List.mem_append_right _ (List.mem_append_left _ (List.mem_of_getElem? (i := 12) rfl)))))) rfl, zgw_of (List.mem_append_left _ (List.mem_of_getElem? (i := 12) (by decide +kernel))) rfl, by decide +kernel, ⟨by decide +kernel, by decide +kernel⟩, rfl, by decide, ⟨zgw_of (List.mem_append_right _ (List.mem_append_right _ (List.mem_append_right _ (List.mem_append_right _ (List.mem_append_left _ (List.mem_of_getElem? (i := 11) (by decide +kernel))))))) rfl, zgw_sel (List.mem_of_getElem? (i := 34) (by decide +kernel)) rfl, by decide, by decide +kernel⟩, Or.inl rfl⟩
theorem zmo_X9_apart : zv_mok zm_X9_apart := ⟨zgw_of (List.mem_append_right _ (List.mem_append_right _ (List.mem_append_right _ (List.mem_append_right _ (List.mem_append_left _ (List.mem_of_getElem? (i := 24) rfl)))))) rfl, zgw_of (List.mem_append_left _ (List.mem_of_getElem? (i := 12) (by decide +kernel))) rfl, by decide +kernel, ⟨by decide +kernel, by decide +kernel⟩, rfl, by decide, ⟨zgw_of (List.mem_append_right _ (List.mem_append_right _ (List.mem_append_right _ (List.mem_append_right _ (List.mem_append_left _ (List.mem_of_getElem? (i := 23) (by decide +kernel))))))) rfl, zgw_sel (List.mem_of_getElem? (i := 37) (by decide +kernel)) rfl, by decide, by decide +kernel⟩, Or.inl rfl⟩
theorem zmo_X9_isAnyApart : zv_mok zm_X9_isAnyApart := ⟨zgw_of (List.mem_append_right _ (List.mem_append_right _ (List.mem_append_right _ (List.mem_append_right _ (List.mem_append_left _ (List.mem_of_getElem? (i := 20) rfl)))))) rfl, zgw_of (List.mem_append_left _ (List.mem_of_getElem? (i := 12) (by decide +kernel))) rfl, by decide +kernel, ⟨by decide +kernel, by decide +kernel⟩, rfl, by decide, ⟨zgw_of (List.mem_append_right _ (List.mem_append_right _ (List.mem_append_right _ (List.mem_append_right _ (List.mem_append_left _ (List.mem_of_getElem? (i := 19) (by decide +kernel))))))) rfl, zgw_sel (List.mem_of_getElem? (i := 36) (by decide +kernel)) rfl, by decide, by decide +kernel⟩, Or.inr rfl⟩
theorem zmo_X9_readTwo : zv_mok zm_X9_readTwo := ⟨zgw_of (List.mem_append_right _ (List.mem_append_right _ (List.mem_append_right _ (List.mem_append_right _ (List.mem_append_left _ (List.mem_of_getElem? (i := 35) rfl)))))) rfl, zgw_of (List.mem_append_left _ (List.mem_of_getElem? (i := 12) (by decide +kernel))) rfl, by decide +kernel, ⟨by decide +kernel, by decide +kernel⟩, rfl, by decide, ⟨zgw_of (List.mem_append_right _ (List.mem_append_right _ (List.mem_append_right _ (List.mem_append_right _ (List.mem_append_left _ (List.mem_of_getElem? (i := 34) (by decide +kernel))))))) rfl, zgw_sel (List.mem_of_getElem? (i := 39) (by decide +kernel)) rfl, by decide, by decide +kernel⟩, Or.inr rfl⟩
theorem zmo_X9_readLink : zv_mok zm_X9_readLink := ⟨zgw_of (List.mem_append_right _ (List.mem_append_right _ (List.mem_append_right _ (List.mem_append_right _ (List.mem_append_left _ (List.mem_of_getElem? (i := 31) rfl)))))) rfl, zgw_of (List.mem_append_left _ (List.mem_of_getElem? (i := 12) (by decide +kernel))) rfl, by decide +kernel, ⟨by decide +kernel, by decide +kernel⟩, rfl, by decide, ⟨zgw_of (List.mem_append_right _ (List.mem_append_right _ (List.mem_append_right _ (List.mem_append_right _ (List.mem_append_left _ (List.mem_of_getElem? (i := 30) (by decide +kernel))))))) rfl, zgw_sel (List.mem_of_getElem? (i := 38) (by decide +kernel)) rfl, by decide, by decide +kernel⟩, Or.inr rfl⟩
theorem zmo_X9_readSession : zv_mok zm_X9_readSession := ⟨zgw_of (List.mem_append_right _ (List.mem_append_right _ (List.mem_append_right _ (List.mem_append_right _ (List.mem_append_left _ (List.mem_of_getElem? (i := 43) rfl)))))) rfl, zgw_of (List.mem_append_left _ (List.mem_of_getElem? (i := 12) (by decide +kernel))) rfl, by decide +kernel, ⟨by decide +kernel, by decide +kernel⟩, rfl, by decide, ⟨zgw_of (List.mem_append_right _ (List.mem_append_right _ (List.mem_append_right _ (List.mem_append_right _ (List.mem_append_left _ (List.mem_of_getElem? (i := 42) (by decide +kernel))))))) rfl, zgw_sel (List.mem_of_getElem? (i := 41) (by decide +kernel)) rfl, by decide, by decide +kernel⟩, Or.inr rfl⟩
theorem zmo_X9_readExit : zv_mok zm_X9_readExit := ⟨zgw_of (List.mem_append_right _ (List.mem_append_right _ (List.mem_append_right _ (List.mem_append_right _ (List.mem_append_left _ (List.mem_of_getElem? (i := 39) rfl)))))) rfl, zgw_of (List.mem_append_left _ (List.mem_of_getElem? (i := 12) (by decide +kernel))) rfl, by decide +kernel, ⟨by decide +kernel, by decide +kernel⟩, rfl, by decide, ⟨zgw_of (List.mem_append_right _ (List.mem_append_right _ (List.mem_append_right _ (List.mem_append_right _ (List.mem_append_left _ (List.mem_of_getElem? (i := 38) (by decide +kernel))))))) rfl, zgw_sel (List.mem_of_getElem? (i := 40) (by decide +kernel)) rfl, by decide, by decide +kernel⟩, Or.inr rfl⟩
theorem zmo_X9_readPart : zv_mok zm_X9_readPart := ⟨zgw_of (List.mem_append_right _ (List.mem_append_right _ (List.mem_append_right _ (List.mem_append_right _ (List.mem_append_left _ (List.mem_of_getElem? (i := 16) rfl)))))) rfl, zgw_of (List.mem_append_left _ (List.mem_of_getElem? (i := 12) (by decide +kernel))) rfl, by decide +kernel, ⟨by decide +kernel, by decide +kernel⟩, rfl, by decide, ⟨zgw_of (List.mem_append_right _ (List.mem_append_right _ (List.mem_append_right _ (List.mem_append_right _ (List.mem_append_left _ (List.mem_of_getElem? (i := 15) (by decide +kernel))))))) rfl, zgw_sel (List.mem_of_getElem? (i := 35) (by decide +kernel)) rfl, by decide, by decide +kernel⟩, Or.inr rfl⟩
theorem zmo_X9_readDomain : zv_mok zm_X9_readDomain := ⟨zgw_of (List.mem_append_right _ (List.mem_append_right _ (List.mem_append_right _ (List.mem_append_right _ (List.mem_append_left _ (List.mem_of_getElem? (i := 8) rfl)))))) rfl, zgw_of (List.mem_append_left _ (List.mem_of_getElem? (i := 12) (by decide +kernel))) rfl, by decide +kernel, ⟨by decide +kernel, by decide +kernel⟩, rfl, by decide, ⟨zgw_of (List.mem_append_right _ (List.mem_append_right _ (List.mem_append_right _ (List.mem_append_right _ (List.mem_append_left _ (List.mem_of_getElem? (i := 7) (by decide +kernel))))))) rfl, zgw_sel (List.mem_of_getElem? (i := 33) (by decide +kernel)) rfl, by decide, by decide +kernel⟩, Or.inl rfl⟩
theorem zmo_X9_fault : zv_mok zm_X9_fault := ⟨zgw_of (List.mem_append_right _ (List.mem_append_right _ (List.mem_append_right _ (List.mem_append_right _ (List.mem_append_left _ (List.mem_of_getElem? (i := 4) rfl)))))) rfl, zgw_of (List.mem_append_left _ (List.mem_of_getElem? (i := 12) (by decide +kernel))) rfl, by decide +kernel, ⟨by decide +kernel, by decide +kernel⟩, rfl, by decide, ⟨zgw_of (List.mem_append_right _ (List.mem_append_right _ (List.mem_append_right _ (List.mem_append_right _ (List.mem_append_left _ (List.mem_of_getElem? (i := 2) (by decide +kernel))))))) rfl, zgw_of (List.mem_append_right _ (List.mem_append_right _ (List.mem_append_right _ (List.mem_append_right _ (List.mem_append_left _ (List.mem_of_getElem? (i := 3) (by decide +kernel))))))) rfl, by decide, by decide +kernel⟩, Or.inl rfl⟩
theorem zmo_X9_domain : zv_mok zm_X9_domain := ⟨zgw_of (List.mem_append_right _ (List.mem_append_right _ (List.mem_append_right _ (List.mem_append_right _ (List.mem_append_left _ (List.mem_of_getElem? (i := 47) rfl)))))) rfl, zgw_of (List.mem_append_left _ (List.mem_of_getElem? (i := 12) (by decide +kernel))) rfl, by decide +kernel, ⟨by decide +kernel, by decide +kernel⟩, rfl, by decide, ⟨zgw_of (List.mem_append_right _ (List.mem_append_right _ (List.mem_append_right _ (List.mem_append_right _ (List.mem_append_left _ (List.mem_of_getElem? (i := 45) (by decide +kernel))))))) rfl, zgw_of (List.mem_append_right _ (List.mem_append_right _ (List.mem_append_right _ (List.mem_append_right _ (List.mem_append_left _ (List.mem_of_getElem? (i := 46) (by decide +kernel))))))) rfl, by decide, by decide +kernel⟩, Or.inl rfl⟩
theorem zmo_X9_layCosts : zv_mok zm_X9_layCosts := ⟨zgw_of (List.mem_append_right _ (List.mem_append_right _ (List.mem_append_right _ (List.mem_append_right _ (List.mem_append_left _ (List.mem_of_getElem? (i := 62) rfl)))))) rfl, zgw_of (List.mem_append_left _ (List.mem_of_getElem? (i := 12) (by decide +kernel))) rfl, by decide +kernel, ⟨by decide +kernel, by decide +kernel⟩, rfl, by decide, ⟨zgw_of (List.mem_append_right _ (List.mem_append_right _ (List.mem_append_right _ (List.mem_append_right _ (List.mem_append_left _ (List.mem_of_getElem? (i := 61) (by decide +kernel))))))) rfl, zgw_sel (List.mem_of_getElem? (i := 43) (by decide +kernel)) rfl, by decide, by decide +kernel⟩, rfl⟩
theorem zmo_X9_link : zv_mok zm_X9_link := ⟨zgw_of (List.mem_append_right _ (List.mem_append_right _ (List.mem_append_right _ (List.mem_append_right _ (List.mem_append_left _ (List.mem_of_getElem? (i := 54) rfl)))))) rfl, zgw_of (List.mem_append_left _ (List.mem_of_getElem? (i := 12) (by decide +kernel))) rfl, by decide +kernel, ⟨by decide +kernel, by decide +kernel⟩, rfl, by decide, ⟨zgw_of (List.mem_append_right _ (List.mem_append_right _ (List.mem_append_right _ (List.mem_append_right _ (List.mem_append_left _ (List.mem_of_getElem? (i := 52) (by decide +kernel))))))) rfl, zgw_of (List.mem_append_right _ (List.mem_append_right _ (List.mem_append_right _ (List.mem_append_right _ (List.mem_append_left _ (List.mem_of_getElem? (i := 53) (by decide +kernel))))))) rfl, by decide, by decide +kernel⟩, Or.inl rfl⟩
theorem zmo_X9_session : zv_mok zm_X9_session := ⟨zgw_of (List.mem_append_right _ (List.mem_append_right _ (List.mem_append_right _ (List.mem_append_right _ (List.mem_append_left _ (List.mem_of_getElem? (i := 66) rfl)))))) rfl, zgw_of (List.mem_append_left _ (List.mem_of_getElem? (i := 12) (by decide +kernel))) rfl, by decide +kernel, ⟨by decide +kernel, by decide +kernel⟩, rfl, by decide, ⟨zgw_of (List.mem_append_right _ (List.mem_append_right _ (List.mem_append_right _ (List.mem_append_right _ (List.mem_append_left _ (List.mem_of_getElem? (i := 64) (by decide +kernel))))))) rfl, zgw_of (List.mem_append_right _ (List.mem_append_right _ (List.mem_append_right _ (List.mem_append_right _ (List.mem_append_left _ (List.mem_of_getElem? (i := 65) (by decide +kernel))))))) rfl, by decide, by decide +kernel⟩, Or.inl rfl⟩
theorem zmo_X9_exitOf : zv_mok zm_X9_exitOf := ⟨zgw_of (List.mem_append_right _ (List.mem_append_right _ (List.mem_append_right _ (List.mem_append_right _ (List.mem_append_left _ (List.mem_of_getElem? (i := 78) rfl)))))) rfl, zgw_of (List.mem_append_left _ (List.mem_of_getElem? (i := 12) (by decide +kernel))) rfl, by decide +kernel, ⟨by decide +kernel, by decide +kernel⟩, rfl, by decide, ⟨zgw_of (List.mem_append_right _ (List.mem_append_right _ (List.mem_append_right _ (List.mem_append_right _ (List.mem_append_left _ (List.mem_of_getElem? (i := 77) (by decide +kernel))))))) rfl, by decide +kernel⟩, Or.inl rfl⟩
theorem zmo_X9_exit : zv_mok zm_X9_exit := ⟨zgw_of (List.mem_append_right _ (List.mem_append_right _ (List.mem_append_right _ (List.mem_append_right _ (List.mem_append_left _ (List.mem_of_getElem? (i := 70) rfl)))))) rfl, zgw_of (List.mem_append_left _ (List.mem_of_getElem? (i := 12) (by decide +kernel))) rfl, by decide +kernel, ⟨by decide +kernel, by decide +kernel⟩, rfl, by decide, ⟨zgw_of (List.mem_append_right _ (List.mem_append_right _ (List.mem_append_right _ (List.mem_append_right _ (List.mem_append_left _ (List.mem_of_getElem? (i := 68) (by decide +kernel))))))) rfl, zgw_of (List.mem_append_right _ (List.mem_append_right _ (List.mem_append_right _ (List.mem_append_right _ (List.mem_append_left _ (List.mem_of_getElem? (i := 69) (by decide +kernel))))))) rfl, by decide, by decide +kernel⟩, Or.inl rfl⟩
theorem zmo_X9_at : zv_mok zm_X9_at := ⟨zgw_of (List.mem_append_right _ (List.mem_append_right _ (List.mem_append_right _ (List.mem_append_right _ (List.mem_append_left _ (List.mem_of_getElem? (i := 111) rfl)))))) rfl, zgw_of (List.mem_append_left _ (List.mem_of_getElem? (i := 12) (by decide +kernel))) rfl, by decide +kernel, ⟨by decide +kernel, by decide +kernel⟩, rfl, by decide, ⟨zgw_of (List.mem_append_right _ (List.mem_append_right _ (List.mem_append_right _ (List.mem_append_right _ (List.mem_append_left _ (List.mem_of_getElem? (i := 110) (by decide +kernel))))))) rfl, by decide +kernel⟩, Or.inl rfl⟩
theorem zmo_X9_isTold : zv_mok zm_X9_isTold := ⟨zgw_of (List.mem_append_right _ (List.mem_append_right _ (List.mem_append_right _ (List.mem_append_right _ (List.mem_append_left _ (List.mem_of_getElem? (i := 114) rfl)))))) rfl, zgw_of (List.mem_append_left _ (List.mem_of_getElem? (i := 12) (by decide +kernel))) rfl, by decide +kernel, ⟨by decide +kernel, by decide +kernel⟩, rfl, by decide, ⟨zgw_of (List.mem_append_right _ (List.mem_append_right _ (List.mem_append_right _ (List.mem_append_right _ (List.mem_append_left _ (List.mem_of_getElem? (i := 113) (by decide +kernel))))))) rfl, by decide +kernel⟩, Or.inr rfl⟩
theorem zmo_X9_hear : zv_mok zm_X9_hear := ⟨zgw_of (List.mem_append_right _ (List.mem_append_right _ (List.mem_append_right _ (List.mem_append_right _ (List.mem_append_left _ (List.mem_of_getElem? (i := 105) rfl)))))) rfl, zgw_of (List.mem_append_left _ (List.mem_of_getElem? (i := 12) (by decide +kernel))) rfl, by decide +kernel, ⟨by decide +kernel, by decide +kernel⟩, rfl, by decide, ⟨zgw_of (List.mem_append_right _ (List.mem_append_right _ (List.mem_append_right _ (List.mem_append_right _ (List.mem_append_left _ (List.mem_of_getElem? (i := 104) (by decide +kernel))))))) rfl, zgw_sel (List.mem_of_getElem? (i := 49) (by decide +kernel)) rfl, by decide, by decide +kernel⟩, rfl⟩
theorem zmo_X9_gather : zv_mok zm_X9_gather := ⟨zgw_of (List.mem_append_right _ (List.mem_append_right _ (List.mem_append_right _ (List.mem_append_right _ (List.mem_append_left _ (List.mem_of_getElem? (i := 98) rfl)))))) rfl, zgw_of (List.mem_append_left _ (List.mem_of_getElem? (i := 12) (by decide +kernel))) rfl, by decide +kernel, ⟨by decide +kernel, by decide +kernel⟩, rfl, by decide, ⟨zgw_of (List.mem_append_right _ (List.mem_append_right _ (List.mem_append_right _ (List.mem_append_right _ (List.mem_append_left _ (List.mem_of_getElem? (i := 97) (by decide +kernel))))))) rfl, zgw_sel (List.mem_of_getElem? (i := 48) (by decide +kernel)) rfl, by decide, by decide +kernel⟩, rfl⟩
theorem zmo_X9_weighed : zv_mok zm_X9_weighed := ⟨zgw_of (List.mem_append_right _ (List.mem_append_right _ (List.mem_append_right _ (List.mem_append_right _ (List.mem_append_left _ (List.mem_of_getElem? (i := 130) rfl)))))) rfl, zgw_of (List.mem_append_left _ (List.mem_of_getElem? (i := 12) (by decide +kernel))) rfl, by decide +kernel, ⟨by decide +kernel, by decide +kernel⟩, rfl, by decide, ⟨zgw_of (List.mem_append_right _ (List.mem_append_right _ (List.mem_append_right _ (List.mem_append_right _ (List.mem_append_left _ (List.mem_of_getElem? (i := 129) (by decide +kernel))))))) rfl, zgw_sel (List.mem_of_getElem? (i := 53) (by decide +kernel)) rfl, by decide, by decide +kernel⟩, Or.inl rfl⟩
theorem zmo_X9_leave : zv_mok zm_X9_leave := ⟨zgw_of (List.mem_append_right _ (List.mem_append_right _ (List.mem_append_right _ (List.mem_append_right _ (List.mem_append_left _ (List.mem_of_getElem? (i := 126) rfl)))))) rfl, zgw_of (List.mem_append_left _ (List.mem_of_getElem? (i := 12) (by decide +kernel))) rfl, by decide +kernel, ⟨by decide +kernel, by decide +kernel⟩, rfl, by decide, ⟨zgw_of (List.mem_append_right _ (List.mem_append_right _ (List.mem_append_right _ (List.mem_append_right _ (List.mem_append_left _ (List.mem_of_getElem? (i := 125) (by decide +kernel))))))) rfl, zgw_sel (List.mem_of_getElem? (i := 52) (by decide +kernel)) rfl, by decide, by decide +kernel⟩, Or.inl rfl⟩
theorem zmo_X9_leaveByNeighbours : zv_mok zm_X9_leaveByNeighbours := ⟨zgw_of (List.mem_append_right _ (List.mem_append_right _ (List.mem_append_right _ (List.mem_append_right _ (List.mem_append_left _ (List.mem_of_getElem? (i := 134) rfl)))))) rfl, zgw_of (List.mem_append_left _ (List.mem_of_getElem? (i := 12) (by decide +kernel))) rfl, by decide +kernel, ⟨by decide +kernel, by decide +kernel⟩, rfl, by decide, ⟨zgw_of (List.mem_append_right _ (List.mem_append_right _ (List.mem_append_right _ (List.mem_append_right _ (List.mem_append_left _ (List.mem_of_getElem? (i := 133) (by decide +kernel))))))) rfl, zgw_sel (List.mem_of_getElem? (i := 54) (by decide +kernel)) rfl, by decide, by decide +kernel⟩, Or.inl rfl⟩
theorem zmo_X9_best : zv_mok zm_X9_best := ⟨zgw_of (List.mem_append_right _ (List.mem_append_right _ (List.mem_append_right _ (List.mem_append_right _ (List.mem_append_left _ (List.mem_of_getElem? (i := 122) rfl)))))) rfl, zgw_of (List.mem_append_left _ (List.mem_of_getElem? (i := 12) (by decide +kernel))) rfl, by decide +kernel, ⟨by decide +kernel, by decide +kernel⟩, rfl, by decide, ⟨zgw_of (List.mem_append_right _ (List.mem_append_right _ (List.mem_append_right _ (List.mem_append_right _ (List.mem_append_left _ (List.mem_of_getElem? (i := 121) (by decide +kernel))))))) rfl, zgw_sel (List.mem_of_getElem? (i := 51) (by decide +kernel)) rfl, by decide, by decide +kernel⟩, Or.inl rfl⟩
theorem zmo_X9_gathered : zv_mok zm_X9_gathered := ⟨zgw_of (List.mem_append_right _ (List.mem_append_right _ (List.mem_append_right _ (List.mem_append_right _ (List.mem_append_left _ (List.mem_of_getElem? (i := 118) rfl)))))) rfl, zgw_of (List.mem_append_left _ (List.mem_of_getElem? (i := 12) (by decide +kernel))) rfl, by decide +kernel, ⟨by decide +kernel, by decide +kernel⟩, rfl, by decide, ⟨zgw_of (List.mem_append_right _ (List.mem_append_right _ (List.mem_append_right _ (List.mem_append_right _ (List.mem_append_left _ (List.mem_of_getElem? (i := 117) (by decide +kernel))))))) rfl, zgw_sel (List.mem_of_getElem? (i := 50) (by decide +kernel)) rfl, by decide, by decide +kernel⟩, Or.inl rfl⟩
theorem zmo_X9_putTaken : zv_mok zm_X9_putTaken := ⟨zgw_of (List.mem_append_right _ (List.mem_append_right _ (List.mem_append_right _ (List.mem_append_right _ (List.mem_append_left _ (List.mem_of_getElem? (i := 138) rfl)))))) rfl, zgw_of (List.mem_append_left _ (List.mem_of_getElem? (i := 12) (by decide +kernel))) rfl, by decide +kernel, ⟨by decide +kernel, by decide +kernel⟩, rfl, by decide, ⟨zgw_of (List.mem_append_right _ (List.mem_append_right _ (List.mem_append_right _ (List.mem_append_right _ (List.mem_append_left _ (List.mem_of_getElem? (i := 137) (by decide +kernel))))))) rfl, zgw_sel (List.mem_of_getElem? (i := 55) (by decide +kernel)) rfl, by decide, by decide +kernel⟩, rfl⟩
theorem zmo_X9_take : zv_mok zm_X9_take := ⟨zgw_of (List.mem_append_right _ (List.mem_append_right _ (List.mem_append_right _ (List.mem_append_right _ (List.mem_append_left _ (List.mem_of_getElem? (i := 94) rfl)))))) rfl, zgw_of (List.mem_append_left _ (List.mem_of_getElem? (i := 12) (by decide +kernel))) rfl, by decide +kernel, ⟨by decide +kernel, by decide +kernel⟩, rfl, by decide, ⟨zgw_of (List.mem_append_right _ (List.mem_append_right _ (List.mem_append_right _ (List.mem_append_right _ (List.mem_append_left _ (List.mem_of_getElem? (i := 93) (by decide +kernel))))))) rfl, zgw_sel (List.mem_of_getElem? (i := 47) (by decide +kernel)) rfl, by decide, by decide +kernel⟩, rfl⟩
theorem zmo_X9_putChoices : zv_mok zm_X9_putChoices := ⟨zgw_of (List.mem_append_right _ (List.mem_append_right _ (List.mem_append_right _ (List.mem_append_right _ (List.mem_append_left _ (List.mem_of_getElem? (i := 142) rfl)))))) rfl, zgw_of (List.mem_append_left _ (List.mem_of_getElem? (i := 12) (by decide +kernel))) rfl, by decide +kernel, ⟨by decide +kernel, by decide +kernel⟩, rfl, by decide, ⟨zgw_of (List.mem_append_right _ (List.mem_append_right _ (List.mem_append_right _ (List.mem_append_right _ (List.mem_append_left _ (List.mem_of_getElem? (i := 141) (by decide +kernel))))))) rfl, zgw_sel (List.mem_of_getElem? (i := 56) (by decide +kernel)) rfl, by decide, by decide +kernel⟩, Or.inr rfl⟩
theorem zmo_X9_stepOn : zv_mok zm_X9_stepOn := ⟨zgw_of (List.mem_append_right _ (List.mem_append_right _ (List.mem_append_right _ (List.mem_append_right _ (List.mem_append_left _ (List.mem_of_getElem? (i := 90) rfl)))))) rfl, zgw_of (List.mem_append_left _ (List.mem_of_getElem? (i := 12) (by decide +kernel))) rfl, by decide +kernel, ⟨by decide +kernel, by decide +kernel⟩, rfl, by decide, ⟨zgw_of (List.mem_append_right _ (List.mem_append_right _ (List.mem_append_right _ (List.mem_append_right _ (List.mem_append_left _ (List.mem_of_getElem? (i := 89) (by decide +kernel))))))) rfl, zgw_sel (List.mem_of_getElem? (i := 46) (by decide +kernel)) rfl, by decide, by decide +kernel⟩, Or.inr rfl⟩
theorem zmo_X9_roundOn : zv_mok zm_X9_roundOn := ⟨zgw_of (List.mem_append_right _ (List.mem_append_right _ (List.mem_append_right _ (List.mem_append_right _ (List.mem_append_left _ (List.mem_of_getElem? (i := 150) rfl)))))) rfl, zgw_of (List.mem_append_left _ (List.mem_of_getElem? (i := 12) (by decide +kernel))) rfl, by decide +kernel, ⟨by decide +kernel, by decide +kernel⟩, rfl, by decide, ⟨zgw_of (List.mem_append_right _ (List.mem_append_right _ (List.mem_append_right _ (List.mem_append_right _ (List.mem_append_left _ (List.mem_of_getElem? (i := 149) (by decide +kernel))))))) rfl, zgw_sel (List.mem_of_getElem? (i := 57) (by decide +kernel)) rfl, by decide, by decide +kernel⟩, Or.inl rfl⟩
theorem zmo_X9_note : zv_mok zm_X9_note := ⟨zgw_of (List.mem_append_right _ (List.mem_append_right _ (List.mem_append_right _ (List.mem_append_right _ (List.mem_append_left _ (List.mem_of_getElem? (i := 86) rfl)))))) rfl, zgw_of (List.mem_append_left _ (List.mem_of_getElem? (i := 12) (by decide +kernel))) rfl, by decide +kernel, ⟨by decide +kernel, by decide +kernel⟩, rfl, by decide, ⟨zgw_of (List.mem_append_right _ (List.mem_append_right _ (List.mem_append_right _ (List.mem_append_right _ (List.mem_append_left _ (List.mem_of_getElem? (i := 85) (by decide +kernel))))))) rfl, zgw_sel (List.mem_of_getElem? (i := 45) (by decide +kernel)) rfl, by decide, by decide +kernel⟩, rfl⟩
theorem zmo_X9_step : zv_mok zm_X9_step := ⟨zgw_of (List.mem_append_right _ (List.mem_append_right _ (List.mem_append_right _ (List.mem_append_right _ (List.mem_append_left _ (List.mem_of_getElem? (i := 82) rfl)))))) rfl, zgw_of (List.mem_append_left _ (List.mem_of_getElem? (i := 12) (by decide +kernel))) rfl, by decide +kernel, ⟨by decide +kernel, by decide +kernel⟩, rfl, by decide, ⟨zgw_of (List.mem_append_right _ (List.mem_append_right _ (List.mem_append_right _ (List.mem_append_right _ (List.mem_append_left _ (List.mem_of_getElem? (i := 80) (by decide +kernel))))))) rfl, zgw_of (List.mem_append_right _ (List.mem_append_right _ (List.mem_append_right _ (List.mem_append_right _ (List.mem_append_left _ (List.mem_of_getElem? (i := 81) (by decide +kernel))))))) rfl, by decide, by decide +kernel⟩, Or.inl rfl⟩
theorem zmo_X9_round : zv_mok zm_X9_round := ⟨zgw_of (List.mem_append_right _ (List.mem_append_right _ (List.mem_append_right _ (List.mem_append_right _ (List.mem_append_left _ (List.mem_of_getElem? (i := 146) rfl)))))) rfl, zgw_of (List.mem_append_left _ (List.mem_of_getElem? (i := 12) (by decide +kernel))) rfl, by decide +kernel, ⟨by decide +kernel, by decide +kernel⟩, rfl, by decide, ⟨zgw_of (List.mem_append_right _ (List.mem_append_right _ (List.mem_append_right _ (List.mem_append_right _ (List.mem_append_left _ (List.mem_of_getElem? (i := 144) (by decide +kernel))))))) rfl, zgw_of (List.mem_append_right _ (List.mem_append_right _ (List.mem_append_right _ (List.mem_append_right _ (List.mem_append_left _ (List.mem_of_getElem? (i := 145) (by decide +kernel))))))) rfl, by decide, by decide +kernel⟩, Or.inl rfl⟩
theorem zmo_X9_setLink : zv_mok zm_X9_setLink := ⟨zgw_of (List.mem_append_right _ (List.mem_append_right _ (List.mem_append_right _ (List.mem_append_right _ (List.mem_append_left _ (List.mem_of_getElem? (i := 154) rfl)))))) rfl, zgw_of (List.mem_append_left _ (List.mem_of_getElem? (i := 12) (by decide +kernel))) rfl, by decide +kernel, ⟨by decide +kernel, by decide +kernel⟩, rfl, by decide, ⟨zgw_of (List.mem_append_right _ (List.mem_append_right _ (List.mem_append_right _ (List.mem_append_right _ (List.mem_append_left _ (List.mem_of_getElem? (i := 152) (by decide +kernel))))))) rfl, zgw_of (List.mem_append_right _ (List.mem_append_right _ (List.mem_append_right _ (List.mem_append_right _ (List.mem_append_left _ (List.mem_of_getElem? (i := 153) (by decide +kernel))))))) rfl, by decide, by decide +kernel⟩, Or.inl rfl⟩
theorem zmo_X9_turn : zv_mok zm_X9_turn := ⟨zgw_of (List.mem_append_right _ (List.mem_append_right _ (List.mem_append_right _ (List.mem_append_right _ (List.mem_append_left _ (List.mem_of_getElem? (i := 159) rfl)))))) rfl, zgw_of (List.mem_append_left _ (List.mem_of_getElem? (i := 12) (by decide +kernel))) rfl, by decide +kernel, ⟨by decide +kernel, by decide +kernel⟩, rfl, by decide, ⟨zgw_of (List.mem_append_right _ (List.mem_append_right _ (List.mem_append_right _ (List.mem_append_right _ (List.mem_append_left _ (List.mem_of_getElem? (i := 157) (by decide +kernel))))))) rfl, zgw_of (List.mem_append_right _ (List.mem_append_right _ (List.mem_append_right _ (List.mem_append_right _ (List.mem_append_left _ (List.mem_of_getElem? (i := 158) (by decide +kernel))))))) rfl, by decide, by decide +kernel⟩, Or.inl rfl⟩
theorem zmo_X9_weigh : zv_mok zm_X9_weigh := ⟨zgw_of (List.mem_append_right _ (List.mem_append_right _ (List.mem_append_right _ (List.mem_append_right _ (List.mem_append_left _ (List.mem_of_getElem? (i := 163) rfl)))))) rfl, zgw_of (List.mem_append_left _ (List.mem_of_getElem? (i := 12) (by decide +kernel))) rfl, by decide +kernel, ⟨by decide +kernel, by decide +kernel⟩, rfl, by decide, ⟨zgw_of (List.mem_append_right _ (List.mem_append_right _ (List.mem_append_right _ (List.mem_append_right _ (List.mem_append_left _ (List.mem_of_getElem? (i := 161) (by decide +kernel))))))) rfl, zgw_of (List.mem_append_right _ (List.mem_append_right _ (List.mem_append_right _ (List.mem_append_right _ (List.mem_append_left _ (List.mem_of_getElem? (i := 162) (by decide +kernel))))))) rfl, by decide, by decide +kernel⟩, Or.inl rfl⟩
theorem zmo_X9_addOn : zv_mok zm_X9_addOn := ⟨zgw_of (List.mem_append_right _ (List.mem_append_right _ (List.mem_append_right _ (List.mem_append_right _ (List.mem_append_left _ (List.mem_of_getElem? (i := 171) rfl)))))) rfl, zgw_of (List.mem_append_left _ (List.mem_of_getElem? (i := 12) (by decide +kernel))) rfl, by decide +kernel, ⟨by decide +kernel, by decide +kernel⟩, rfl, by decide, ⟨zgw_of (List.mem_append_right _ (List.mem_append_right _ (List.mem_append_right _ (List.mem_append_right _ (List.mem_append_left _ (List.mem_of_getElem? (i := 170) (by decide +kernel))))))) rfl, by decide +kernel⟩, rfl⟩
theorem zmo_X9_add : zv_mok zm_X9_add := ⟨zgw_of (List.mem_append_right _ (List.mem_append_right _ (List.mem_append_right _ (List.mem_append_right _ (List.mem_append_left _ (List.mem_of_getElem? (i := 168) rfl)))))) rfl, zgw_of (List.mem_append_left _ (List.mem_of_getElem? (i := 12) (by decide +kernel))) rfl, by decide +kernel, ⟨by decide +kernel, by decide +kernel⟩, rfl, by decide, ⟨zgw_of (List.mem_append_right _ (List.mem_append_right _ (List.mem_append_right _ (List.mem_append_right _ (List.mem_append_left _ (List.mem_of_getElem? (i := 166) (by decide +kernel))))))) rfl, zgw_of (List.mem_append_right _ (List.mem_append_right _ (List.mem_append_right _ (List.mem_append_right _ (List.mem_append_left _ (List.mem_of_getElem? (i := 167) (by decide +kernel))))))) rfl, by decide, by decide +kernel⟩, Or.inl rfl⟩
theorem zmo_X9_setMode : zv_mok zm_X9_setMode := ⟨zgw_of (List.mem_append_right _ (List.mem_append_right _ (List.mem_append_right _ (List.mem_append_right _ (List.mem_append_left _ (List.mem_of_getElem? (i := 175) rfl)))))) rfl, zgw_of (List.mem_append_left _ (List.mem_of_getElem? (i := 12) (by decide +kernel))) rfl, by decide +kernel, ⟨by decide +kernel, by decide +kernel⟩, rfl, by decide, ⟨zgw_of (List.mem_append_right _ (List.mem_append_right _ (List.mem_append_right _ (List.mem_append_right _ (List.mem_append_left _ (List.mem_of_getElem? (i := 173) (by decide +kernel))))))) rfl, zgw_of (List.mem_append_right _ (List.mem_append_right _ (List.mem_append_right _ (List.mem_append_right _ (List.mem_append_left _ (List.mem_of_getElem? (i := 174) (by decide +kernel))))))) rfl, by decide, by decide +kernel⟩, Or.inl rfl⟩
theorem zmo_X9_undo : zv_mok zm_X9_undo := ⟨zgw_of (List.mem_append_right _ (List.mem_append_right _ (List.mem_append_right _ (List.mem_append_right _ (List.mem_append_left _ (List.mem_of_getElem? (i := 180) rfl)))))) rfl, zgw_of (List.mem_append_left _ (List.mem_of_getElem? (i := 12) (by decide +kernel))) rfl, by decide +kernel, ⟨by decide +kernel, by decide +kernel⟩, rfl, by decide, ⟨zgw_of (List.mem_append_right _ (List.mem_append_right _ (List.mem_append_right _ (List.mem_append_right _ (List.mem_append_left _ (List.mem_of_getElem? (i := 178) (by decide +kernel))))))) rfl, zgw_of (List.mem_append_right _ (List.mem_append_right _ (List.mem_append_right _ (List.mem_append_right _ (List.mem_append_left _ (List.mem_of_getElem? (i := 179) (by decide +kernel))))))) rfl, by decide, by decide +kernel⟩, Or.inl rfl⟩
theorem zmo_X9_choice : zv_mok zm_X9_choice := ⟨zgw_of (List.mem_append_right _ (List.mem_append_right _ (List.mem_append_right _ (List.mem_append_right _ (List.mem_append_left _ (List.mem_of_getElem? (i := 184) rfl)))))) rfl, zgw_of (List.mem_append_left _ (List.mem_of_getElem? (i := 12) (by decide +kernel))) rfl, by decide +kernel, ⟨by decide +kernel, by decide +kernel⟩, rfl, by decide, ⟨zgw_of (List.mem_append_right _ (List.mem_append_right _ (List.mem_append_right _ (List.mem_append_right _ (List.mem_append_left _ (List.mem_of_getElem? (i := 182) (by decide +kernel))))))) rfl, zgw_of (List.mem_append_right _ (List.mem_append_right _ (List.mem_append_right _ (List.mem_append_right _ (List.mem_append_left _ (List.mem_of_getElem? (i := 183) (by decide +kernel))))))) rfl, by decide, by decide +kernel⟩, Or.inl rfl⟩
theorem zmo_X9_heard : zv_mok zm_X9_heard := ⟨zgw_of (List.mem_append_right _ (List.mem_append_right _ (List.mem_append_right _ (List.mem_append_right _ (List.mem_append_left _ (List.mem_of_getElem? (i := 188) rfl)))))) rfl, zgw_of (List.mem_append_left _ (List.mem_of_getElem? (i := 12) (by decide +kernel))) rfl, by decide +kernel, ⟨by decide +kernel, by decide +kernel⟩, rfl, by decide, ⟨zgw_of (List.mem_append_right _ (List.mem_append_right _ (List.mem_append_right _ (List.mem_append_right _ (List.mem_append_left _ (List.mem_of_getElem? (i := 186) (by decide +kernel))))))) rfl, zgw_of (List.mem_append_right _ (List.mem_append_right _ (List.mem_append_right _ (List.mem_append_right _ (List.mem_append_left _ (List.mem_of_getElem? (i := 187) (by decide +kernel))))))) rfl, by decide, by decide +kernel⟩, Or.inl rfl⟩
theorem zmo_X9_tells : zv_mok zm_X9_tells := ⟨zgw_of (List.mem_append_right _ (List.mem_append_right _ (List.mem_append_right _ (List.mem_append_right _ (List.mem_append_left _ (List.mem_of_getElem? (i := 192) rfl)))))) rfl, zgw_of (List.mem_append_left _ (List.mem_of_getElem? (i := 12) (by decide +kernel))) rfl, by decide +kernel, ⟨by decide +kernel, by decide +kernel⟩, rfl, by decide, ⟨zgw_of (List.mem_append_right _ (List.mem_append_right _ (List.mem_append_right _ (List.mem_append_right _ (List.mem_append_left _ (List.mem_of_getElem? (i := 190) (by decide +kernel))))))) rfl, zgw_of (List.mem_append_right _ (List.mem_append_right _ (List.mem_append_right _ (List.mem_append_right _ (List.mem_append_left _ (List.mem_of_getElem? (i := 191) (by decide +kernel))))))) rfl, by decide, by decide +kernel⟩, Or.inl rfl⟩
theorem zmo_X9_mesh : zv_mok zm_X9_mesh := ⟨zgw_of (List.mem_append_right _ (List.mem_append_right _ (List.mem_append_right _ (List.mem_append_right _ (List.mem_append_left _ (List.mem_of_getElem? (i := 196) rfl)))))) rfl, zgw_of (List.mem_append_left _ (List.mem_of_getElem? (i := 12) (by decide +kernel))) rfl, by decide +kernel, ⟨by decide +kernel, by decide +kernel⟩, rfl, by decide, ⟨zgw_of (List.mem_append_right _ (List.mem_append_right _ (List.mem_append_right _ (List.mem_append_right _ (List.mem_append_left _ (List.mem_of_getElem? (i := 194) (by decide +kernel))))))) rfl, zgw_of (List.mem_append_right _ (List.mem_append_right _ (List.mem_append_right _ (List.mem_append_right _ (List.mem_append_left _ (List.mem_of_getElem? (i := 195) (by decide +kernel))))))) rfl, by decide, by decide +kernel⟩, Or.inl rfl⟩
theorem zmo_X9_leaveFrom : zv_mok zm_X9_leaveFrom := ⟨zgw_of (List.mem_append_right _ (List.mem_append_right _ (List.mem_append_right _ (List.mem_append_right _ (List.mem_append_left _ (List.mem_of_getElem? (i := 204) rfl)))))) rfl, zgw_of (List.mem_append_left _ (List.mem_of_getElem? (i := 12) (by decide +kernel))) rfl, by decide +kernel, ⟨by decide +kernel, by decide +kernel⟩, rfl, by decide, ⟨zgw_of (List.mem_append_right _ (List.mem_append_right _ (List.mem_append_right _ (List.mem_append_right _ (List.mem_append_left _ (List.mem_of_getElem? (i := 203) (by decide +kernel))))))) rfl, zgw_sel (List.mem_of_getElem? (i := 58) (by decide +kernel)) rfl, by decide, by decide +kernel⟩, Or.inl rfl⟩
theorem zmo_X9_leaves : zv_mok zm_X9_leaves := ⟨zgw_of (List.mem_append_right _ (List.mem_append_right _ (List.mem_append_right _ (List.mem_append_right _ (List.mem_append_left _ (List.mem_of_getElem? (i := 200) rfl)))))) rfl, zgw_of (List.mem_append_left _ (List.mem_of_getElem? (i := 12) (by decide +kernel))) rfl, by decide +kernel, ⟨by decide +kernel, by decide +kernel⟩, rfl, by decide, ⟨zgw_of (List.mem_append_right _ (List.mem_append_right _ (List.mem_append_right _ (List.mem_append_right _ (List.mem_append_left _ (List.mem_of_getElem? (i := 198) (by decide +kernel))))))) rfl, zgw_of (List.mem_append_right _ (List.mem_append_right _ (List.mem_append_right _ (List.mem_append_right _ (List.mem_append_left _ (List.mem_of_getElem? (i := 199) (by decide +kernel))))))) rfl, by decide, by decide +kernel⟩, Or.inl rfl⟩
theorem zmo_X9_noteState : zv_mok zm_X9_noteState := ⟨zgw_of (List.mem_append_right _ (List.mem_append_right _ (List.mem_append_right _ (List.mem_append_right _ (List.mem_append_left _ (List.mem_of_getElem? (i := 217) rfl)))))) rfl, zgw_of (List.mem_append_left _ (List.mem_of_getElem? (i := 12) (by decide +kernel))) rfl, by decide +kernel, ⟨by decide +kernel, by decide +kernel⟩, rfl, by decide, ⟨zgw_of (List.mem_append_right _ (List.mem_append_right _ (List.mem_append_right _ (List.mem_append_right _ (List.mem_append_left _ (List.mem_of_getElem? (i := 216) (by decide +kernel))))))) rfl, zgw_sel (List.mem_of_getElem? (i := 60) (by decide +kernel)) rfl, by decide, by decide +kernel⟩, rfl⟩
theorem zmo_X9_areSame : zv_mok zm_X9_areSame := ⟨zgw_of (List.mem_append_right _ (List.mem_append_right _ (List.mem_append_right _ (List.mem_append_right _ (List.mem_append_left _ (List.mem_of_getElem? (i := 221) rfl)))))) rfl, zgw_of (List.mem_append_left _ (List.mem_of_getElem? (i := 12) (by decide +kernel))) rfl, by decide +kernel, ⟨by decide +kernel, by decide +kernel⟩, rfl, by decide, ⟨zgw_of (List.mem_append_right _ (List.mem_append_right _ (List.mem_append_right _ (List.mem_append_right _ (List.mem_append_left _ (List.mem_of_getElem? (i := 220) (by decide +kernel))))))) rfl, zgw_sel (List.mem_of_getElem? (i := 61) (by decide +kernel)) rfl, by decide, by decide +kernel⟩, Or.inr rfl⟩
theorem zmo_X9_runOn : zv_mok zm_X9_runOn := ⟨zgw_of (List.mem_append_right _ (List.mem_append_right _ (List.mem_append_right _ (List.mem_append_right _ (List.mem_append_left _ (List.mem_of_getElem? (i := 213) rfl)))))) rfl, zgw_of (List.mem_append_left _ (List.mem_of_getElem? (i := 12) (by decide +kernel))) rfl, by decide +kernel, ⟨by decide +kernel, by decide +kernel⟩, rfl, by decide, ⟨zgw_of (List.mem_append_right _ (List.mem_append_right _ (List.mem_append_right _ (List.mem_append_right _ (List.mem_append_left _ (List.mem_of_getElem? (i := 212) (by decide +kernel))))))) rfl, zgw_sel (List.mem_of_getElem? (i := 59) (by decide +kernel)) rfl, by decide, by decide +kernel⟩, rfl⟩
theorem zmo_X9_told : zv_mok zm_X9_told := ⟨zgw_of (List.mem_append_right _ (List.mem_append_right _ (List.mem_append_right _ (List.mem_append_right _ (List.mem_append_left _ (List.mem_of_getElem? (i := 224) rfl)))))) rfl, zgw_of (List.mem_append_left _ (List.mem_of_getElem? (i := 12) (by decide +kernel))) rfl, by decide +kernel, ⟨by decide +kernel, by decide +kernel⟩, rfl, by decide, ⟨zgw_of (List.mem_append_right _ (List.mem_append_right _ (List.mem_append_right _ (List.mem_append_right _ (List.mem_append_left _ (List.mem_of_getElem? (i := 223) (by decide +kernel))))))) rfl, by decide +kernel⟩, Or.inl rfl⟩
theorem zmo_X9_rests : zv_mok zm_X9_rests := ⟨zgw_of (List.mem_append_right _ (List.mem_append_right _ (List.mem_append_right _ (List.mem_append_right _ (List.mem_append_right _ (List.mem_of_getElem? (i := 7) rfl)))))) rfl, zgw_of (List.mem_append_left _ (List.mem_of_getElem? (i := 12) (by decide +kernel))) rfl, by decide +kernel, ⟨by decide +kernel, by decide +kernel⟩, rfl, by decide, ⟨zgw_of (List.mem_append_right _ (List.mem_append_right _ (List.mem_append_right _ (List.mem_append_right _ (List.mem_append_right _ (List.mem_of_getElem? (i := 6) (by decide +kernel))))))) rfl, zgw_sel (List.mem_of_getElem? (i := 64) (by decide +kernel)) rfl, by decide, by decide +kernel⟩, Or.inr rfl⟩
theorem zmo_X9_run : zv_mok zm_X9_run := ⟨zgw_of (List.mem_append_right _ (List.mem_append_right _ (List.mem_append_right _ (List.mem_append_right _ (List.mem_append_left _ (List.mem_of_getElem? (i := 208) rfl)))))) rfl, zgw_of (List.mem_append_left _ (List.mem_of_getElem? (i := 12) (by decide +kernel))) rfl, by decide +kernel, ⟨by decide +kernel, by decide +kernel⟩, rfl, by decide, ⟨zgw_of (List.mem_append_right _ (List.mem_append_right _ (List.mem_append_right _ (List.mem_append_right _ (List.mem_append_left _ (List.mem_of_getElem? (i := 206) (by decide +kernel))))))) rfl, zgw_of (List.mem_append_right _ (List.mem_append_right _ (List.mem_append_right _ (List.mem_append_right _ (List.mem_append_left _ (List.mem_of_getElem? (i := 207) (by decide +kernel))))))) rfl, by decide, by decide +kernel⟩, Or.inl rfl⟩
theorem zmo_X9_restsBy : zv_mok zm_X9_restsBy := ⟨zgw_of (List.mem_append_right _ (List.mem_append_right _ (List.mem_append_right _ (List.mem_append_right _ (List.mem_append_left _ (List.mem_of_getElem? (i := 239) rfl)))))) rfl, zgw_of (List.mem_append_left _ (List.mem_of_getElem? (i := 12) (by decide +kernel))) rfl, by decide +kernel, ⟨by decide +kernel, by decide +kernel⟩, rfl, by decide, ⟨zgw_of (List.mem_append_right _ (List.mem_append_right _ (List.mem_append_right _ (List.mem_append_right _ (List.mem_append_left _ (List.mem_of_getElem? (i := 238) (by decide +kernel))))))) rfl, zgw_sel (List.mem_of_getElem? (i := 63) (by decide +kernel)) rfl, by decide, by decide +kernel⟩, Or.inr rfl⟩
theorem zmo_X9_isOrder : zv_mok zm_X9_isOrder := ⟨zgw_of (List.mem_append_right _ (List.mem_append_right _ (List.mem_append_right _ (List.mem_append_right _ (List.mem_append_left _ (List.mem_of_getElem? (i := 235) rfl)))))) rfl, zgw_of (List.mem_append_left _ (List.mem_of_getElem? (i := 12) (by decide +kernel))) rfl, by decide +kernel, ⟨by decide +kernel, by decide +kernel⟩, rfl, by decide, ⟨zgw_of (List.mem_append_right _ (List.mem_append_right _ (List.mem_append_right _ (List.mem_append_right _ (List.mem_append_left _ (List.mem_of_getElem? (i := 234) (by decide +kernel))))))) rfl, zgw_sel (List.mem_of_getElem? (i := 62) (by decide +kernel)) rfl, by decide, by decide +kernel⟩, Or.inr rfl⟩
theorem zmo_X9_orders : zv_mok zm_X9_orders := ⟨zgw_of (List.mem_append_right _ (List.mem_append_right _ (List.mem_append_right _ (List.mem_append_right _ (List.mem_append_left _ (List.mem_of_getElem? (i := 228) rfl)))))) rfl, zgw_of (List.mem_append_left _ (List.mem_of_getElem? (i := 12) (by decide +kernel))) rfl, by decide +kernel, ⟨by decide +kernel, by decide +kernel⟩, rfl, by decide, ⟨zgw_of (List.mem_append_right _ (List.mem_append_right _ (List.mem_append_right _ (List.mem_append_right _ (List.mem_append_left _ (List.mem_of_getElem? (i := 226) (by decide +kernel))))))) rfl, zgw_of (List.mem_append_right _ (List.mem_append_right _ (List.mem_append_right _ (List.mem_append_right _ (List.mem_append_left _ (List.mem_of_getElem? (i := 227) (by decide +kernel))))))) rfl, by decide, by decide +kernel⟩, Or.inl rfl⟩
theorem zmo_X9_healed : zv_mok zm_X9_healed := ⟨zgw_of (List.mem_append_right _ (List.mem_append_right _ (List.mem_append_right _ (List.mem_append_right _ (List.mem_append_right _ (List.mem_of_getElem? (i := 3) rfl)))))) rfl, zgw_of (List.mem_append_left _ (List.mem_of_getElem? (i := 12) (by decide +kernel))) rfl, by decide +kernel, ⟨by decide +kernel, by decide +kernel⟩, rfl, by decide, ⟨zgw_of (List.mem_append_right _ (List.mem_append_right _ (List.mem_append_right _ (List.mem_append_right _ (List.mem_append_right _ (List.mem_of_getElem? (i := 1) (by decide +kernel))))))) rfl, zgw_of (List.mem_append_right _ (List.mem_append_right _ (List.mem_append_right _ (List.mem_append_right _ (List.mem_append_right _ (List.mem_of_getElem? (i := 2) (by decide +kernel))))))) rfl, by decide, by decide +kernel⟩, Or.inl rfl⟩
theorem zmo_X9_longPower : zv_mok zm_X9_longPower := ⟨zgw_of (List.mem_append_right _ (List.mem_append_right _ (List.mem_append_right _ (List.mem_append_right _ (List.mem_append_right _ (List.mem_of_getElem? (i := 15) rfl)))))) rfl, zgw_of (List.mem_append_left _ (List.mem_of_getElem? (i := 12) (by decide +kernel))) rfl, by decide +kernel, ⟨by decide +kernel, by decide +kernel⟩, rfl, by decide, ⟨zgw_of (List.mem_append_right _ (List.mem_append_right _ (List.mem_append_right _ (List.mem_append_right _ (List.mem_append_right _ (List.mem_of_getElem? (i := 14) (by decide +kernel))))))) rfl, by decide +kernel⟩, rfl⟩
theorem zmo_X9_runsToRest : zv_mok zm_X9_runsToRest := ⟨zgw_of (List.mem_append_right _ (List.mem_append_right _ (List.mem_append_right _ (List.mem_append_right _ (List.mem_append_right _ (List.mem_of_getElem? (i := 23) rfl)))))) rfl, zgw_of (List.mem_append_left _ (List.mem_of_getElem? (i := 12) (by decide +kernel))) rfl, by decide +kernel, ⟨by decide +kernel, by decide +kernel⟩, rfl, by decide, ⟨zgw_of (List.mem_append_right _ (List.mem_append_right _ (List.mem_append_right _ (List.mem_append_right _ (List.mem_append_right _ (List.mem_of_getElem? (i := 22) (by decide +kernel))))))) rfl, zgw_sel (List.mem_of_getElem? (i := 66) (by decide +kernel)) rfl, by decide, by decide +kernel⟩, Or.inr rfl⟩
theorem zmo_X9_does : zv_mok zm_X9_does := ⟨zgw_of (List.mem_append_right _ (List.mem_append_right _ (List.mem_append_right _ (List.mem_append_right _ (List.mem_append_right _ (List.mem_of_getElem? (i := 19) rfl)))))) rfl, zgw_of (List.mem_append_left _ (List.mem_of_getElem? (i := 12) (by decide +kernel))) rfl, by decide +kernel, ⟨by decide +kernel, by decide +kernel⟩, rfl, by decide, ⟨zgw_of (List.mem_append_right _ (List.mem_append_right _ (List.mem_append_right _ (List.mem_append_right _ (List.mem_append_right _ (List.mem_of_getElem? (i := 18) (by decide +kernel))))))) rfl, zgw_sel (List.mem_of_getElem? (i := 65) (by decide +kernel)) rfl, by decide, by decide +kernel⟩, Or.inr rfl⟩
theorem zmo_X9_judge : zv_mok zm_X9_judge := ⟨zgw_of (List.mem_append_right _ (List.mem_append_right _ (List.mem_append_right _ (List.mem_append_right _ (List.mem_append_right _ (List.mem_of_getElem? (i := 11) rfl)))))) rfl, zgw_of (List.mem_append_left _ (List.mem_of_getElem? (i := 12) (by decide +kernel))) rfl, by decide +kernel, ⟨by decide +kernel, by decide +kernel⟩, rfl, by decide, ⟨zgw_of (List.mem_append_right _ (List.mem_append_right _ (List.mem_append_right _ (List.mem_append_right _ (List.mem_append_right _ (List.mem_of_getElem? (i := 9) (by decide +kernel))))))) rfl, zgw_of (List.mem_append_right _ (List.mem_append_right _ (List.mem_append_right _ (List.mem_append_right _ (List.mem_append_right _ (List.mem_of_getElem? (i := 10) (by decide +kernel))))))) rfl, by decide, by decide +kernel⟩, Or.inl rfl⟩
theorem zmo_X9_see : zv_mok zm_X9_see := ⟨zgw_of (List.mem_append_right _ (List.mem_append_right _ (List.mem_append_right _ (List.mem_append_right _ (List.mem_append_right _ (List.mem_of_getElem? (i := 27) rfl)))))) rfl, zgw_of (List.mem_append_left _ (List.mem_of_getElem? (i := 12) (by decide +kernel))) rfl, by decide +kernel, ⟨by decide +kernel, by decide +kernel⟩, rfl, by decide, ⟨zgw_of (List.mem_append_right _ (List.mem_append_right _ (List.mem_append_right _ (List.mem_append_right _ (List.mem_append_right _ (List.mem_of_getElem? (i := 25) (by decide +kernel))))))) rfl, zgw_of (List.mem_append_right _ (List.mem_append_right _ (List.mem_append_right _ (List.mem_append_right _ (List.mem_append_right _ (List.mem_of_getElem? (i := 26) (by decide +kernel))))))) rfl, by decide, by decide +kernel⟩, Or.inl rfl⟩
theorem zmo_X9_unsee : zv_mok zm_X9_unsee := ⟨zgw_of (List.mem_append_right _ (List.mem_append_right _ (List.mem_append_right _ (List.mem_append_right _ (List.mem_append_right _ (List.mem_of_getElem? (i := 31) rfl)))))) rfl, zgw_of (List.mem_append_left _ (List.mem_of_getElem? (i := 12) (by decide +kernel))) rfl, by decide +kernel, ⟨by decide +kernel, by decide +kernel⟩, rfl, by decide, ⟨zgw_of (List.mem_append_right _ (List.mem_append_right _ (List.mem_append_right _ (List.mem_append_right _ (List.mem_append_right _ (List.mem_of_getElem? (i := 29) (by decide +kernel))))))) rfl, zgw_of (List.mem_append_right _ (List.mem_append_right _ (List.mem_append_right _ (List.mem_append_right _ (List.mem_append_right _ (List.mem_of_getElem? (i := 30) (by decide +kernel))))))) rfl, by decide, by decide +kernel⟩, Or.inl rfl⟩
theorem zmo_X9_agrees : zv_mok zm_X9_agrees := ⟨zgw_of (List.mem_append_right _ (List.mem_append_right _ (List.mem_append_right _ (List.mem_append_right _ (List.mem_append_right _ (List.mem_of_getElem? (i := 39) rfl)))))) rfl, zgw_of (List.mem_append_left _ (List.mem_of_getElem? (i := 12) (by decide +kernel))) rfl, by decide +kernel, ⟨by decide +kernel, by decide +kernel⟩, rfl, by decide, ⟨zgw_of (List.mem_append_right _ (List.mem_append_right _ (List.mem_append_right _ (List.mem_append_right _ (List.mem_append_right _ (List.mem_of_getElem? (i := 38) (by decide +kernel))))))) rfl, zgw_sel (List.mem_of_getElem? (i := 67) (by decide +kernel)) rfl, by decide, by decide +kernel⟩, Or.inr rfl⟩
theorem zmo_X9_which : zv_mok zm_X9_which := ⟨zgw_of (List.mem_append_right _ (List.mem_append_right _ (List.mem_append_right _ (List.mem_append_right _ (List.mem_append_right _ (List.mem_of_getElem? (i := 35) rfl)))))) rfl, zgw_of (List.mem_append_left _ (List.mem_of_getElem? (i := 12) (by decide +kernel))) rfl, by decide +kernel, ⟨by decide +kernel, by decide +kernel⟩, rfl, by decide, ⟨zgw_of (List.mem_append_right _ (List.mem_append_right _ (List.mem_append_right _ (List.mem_append_right _ (List.mem_append_right _ (List.mem_of_getElem? (i := 33) (by decide +kernel))))))) rfl, zgw_of (List.mem_append_right _ (List.mem_append_right _ (List.mem_append_right _ (List.mem_append_right _ (List.mem_append_right _ (List.mem_of_getElem? (i := 34) (by decide +kernel))))))) rfl, by decide, by decide +kernel⟩, Or.inl rfl⟩
theorem zmo_X9_divisor : zv_mok zm_X9_divisor := ⟨zgw_of (List.mem_append_right _ (List.mem_append_right _ (List.mem_append_right _ (List.mem_append_right _ (List.mem_append_right _ (List.mem_of_getElem? (i := 56) rfl)))))) rfl, zgw_of (List.mem_append_left _ (List.mem_of_getElem? (i := 12) (by decide +kernel))) rfl, by decide +kernel, ⟨by decide +kernel, by decide +kernel⟩, rfl, by decide, ⟨zgw_of (List.mem_append_right _ (List.mem_append_right _ (List.mem_append_right _ (List.mem_append_right _ (List.mem_append_right _ (List.mem_of_getElem? (i := 55) (by decide +kernel))))))) rfl, by decide +kernel⟩, Or.inl rfl⟩
theorem zmo_X9_fraction : zv_mok zm_X9_fraction := ⟨zgw_of (List.mem_append_right _ (List.mem_append_right _ (List.mem_append_right _ (List.mem_append_right _ (List.mem_append_right _ (List.mem_of_getElem? (i := 53) rfl)))))) rfl, zgw_of (List.mem_append_left _ (List.mem_of_getElem? (i := 12) (by decide +kernel))) rfl, by decide +kernel, ⟨by decide +kernel, by decide +kernel⟩, rfl, by decide, ⟨zgw_of (List.mem_append_right _ (List.mem_append_right _ (List.mem_append_right _ (List.mem_append_right _ (List.mem_append_right _ (List.mem_of_getElem? (i := 52) (by decide +kernel))))))) rfl, by decide +kernel⟩, Or.inl rfl⟩
theorem zmo_X9_factorial : zv_mok zm_X9_factorial := ⟨zgw_of (List.mem_append_right _ (List.mem_append_right _ (List.mem_append_right _ (List.mem_append_right _ (List.mem_append_right _ (List.mem_of_getElem? (i := 50) rfl)))))) rfl, zgw_of (List.mem_append_left _ (List.mem_of_getElem? (i := 12) (by decide +kernel))) rfl, by decide +kernel, ⟨by decide +kernel, by decide +kernel⟩, rfl, by decide, ⟨zgw_of (List.mem_append_right _ (List.mem_append_right _ (List.mem_append_right _ (List.mem_append_right _ (List.mem_append_right _ (List.mem_of_getElem? (i := 49) (by decide +kernel))))))) rfl, by decide +kernel⟩, Or.inl rfl⟩
theorem zmo_X9_unlikeBy : zv_mok zm_X9_unlikeBy := ⟨zgw_of (List.mem_append_right _ (List.mem_append_right _ (List.mem_append_right _ (List.mem_append_right _ (List.mem_append_right _ (List.mem_of_getElem? (i := 47) rfl)))))) rfl, zgw_of (List.mem_append_left _ (List.mem_of_getElem? (i := 12) (by decide +kernel))) rfl, by decide +kernel, ⟨by decide +kernel, by decide +kernel⟩, rfl, by decide, ⟨zgw_of (List.mem_append_right _ (List.mem_append_right _ (List.mem_append_right _ (List.mem_append_right _ (List.mem_append_right _ (List.mem_of_getElem? (i := 46) (by decide +kernel))))))) rfl, zgw_sel (List.mem_of_getElem? (i := 68) (by decide +kernel)) rfl, by decide, by decide +kernel⟩, Or.inl rfl⟩
theorem zmo_X9_share : zv_mok zm_X9_share := ⟨zgw_of (List.mem_append_right _ (List.mem_append_right _ (List.mem_append_right _ (List.mem_append_right _ (List.mem_append_right _ (List.mem_of_getElem? (i := 43) rfl)))))) rfl, zgw_of (List.mem_append_left _ (List.mem_of_getElem? (i := 12) (by decide +kernel))) rfl, by decide +kernel, ⟨by decide +kernel, by decide +kernel⟩, rfl, by decide, ⟨zgw_of (List.mem_append_right _ (List.mem_append_right _ (List.mem_append_right _ (List.mem_append_right _ (List.mem_append_right _ (List.mem_of_getElem? (i := 41) (by decide +kernel))))))) rfl, zgw_of (List.mem_append_right _ (List.mem_append_right _ (List.mem_append_right _ (List.mem_append_right _ (List.mem_append_right _ (List.mem_of_getElem? (i := 42) (by decide +kernel))))))) rfl, by decide, by decide +kernel⟩, Or.inl rfl⟩
theorem zmo_X9_lost : zv_mok zm_X9_lost := ⟨zgw_of (List.mem_append_right _ (List.mem_append_right _ (List.mem_append_right _ (List.mem_append_right _ (List.mem_append_right _ (List.mem_of_getElem? (i := 60) rfl)))))) rfl, zgw_of (List.mem_append_left _ (List.mem_of_getElem? (i := 12) (by decide +kernel))) rfl, by decide +kernel, ⟨by decide +kernel, by decide +kernel⟩, rfl, by decide, ⟨zgw_of (List.mem_append_right _ (List.mem_append_right _ (List.mem_append_right _ (List.mem_append_right _ (List.mem_append_right _ (List.mem_of_getElem? (i := 58) (by decide +kernel))))))) rfl, zgw_of (List.mem_append_right _ (List.mem_append_right _ (List.mem_append_right _ (List.mem_append_right _ (List.mem_append_right _ (List.mem_of_getElem? (i := 59) (by decide +kernel))))))) rfl, by decide, by decide +kernel⟩, Or.inl rfl⟩
theorem zmo_X9_seed : zv_mok zm_X9_seed := ⟨zgw_of (List.mem_append_right _ (List.mem_append_right _ (List.mem_append_right _ (List.mem_append_right _ (List.mem_append_right _ (List.mem_of_getElem? (i := 65) rfl)))))) rfl, zgw_of (List.mem_append_left _ (List.mem_of_getElem? (i := 12) (by decide +kernel))) rfl, by decide +kernel, ⟨by decide +kernel, by decide +kernel⟩, rfl, by decide, ⟨zgw_of (List.mem_append_right _ (List.mem_append_right _ (List.mem_append_right _ (List.mem_append_right _ (List.mem_append_right _ (List.mem_of_getElem? (i := 63) (by decide +kernel))))))) rfl, zgw_of (List.mem_append_right _ (List.mem_append_right _ (List.mem_append_right _ (List.mem_append_right _ (List.mem_append_right _ (List.mem_of_getElem? (i := 64) (by decide +kernel))))))) rfl, by decide, by decide +kernel⟩, rfl⟩
theorem zmo_X9_drawn : zv_mok zm_X9_drawn := ⟨zgw_of (List.mem_append_right _ (List.mem_append_right _ (List.mem_append_right _ (List.mem_append_right _ (List.mem_append_right _ (List.mem_of_getElem? (i := 69) rfl)))))) rfl, zgw_of (List.mem_append_left _ (List.mem_of_getElem? (i := 12) (by decide +kernel))) rfl, by decide +kernel, ⟨by decide +kernel, by decide +kernel⟩, rfl, by decide, ⟨zgw_of (List.mem_append_right _ (List.mem_append_right _ (List.mem_append_right _ (List.mem_append_right _ (List.mem_append_right _ (List.mem_of_getElem? (i := 67) (by decide +kernel))))))) rfl, zgw_of (List.mem_append_right _ (List.mem_append_right _ (List.mem_append_right _ (List.mem_append_right _ (List.mem_append_right _ (List.mem_of_getElem? (i := 68) (by decide +kernel))))))) rfl, by decide, by decide +kernel⟩, Or.inl rfl⟩
theorem zmo_X9_keep : zv_mok zm_X9_keep := ⟨zgw_of (List.mem_append_right _ (List.mem_append_right _ (List.mem_append_right _ (List.mem_append_right _ (List.mem_append_right _ (List.mem_of_getElem? (i := 76) rfl)))))) rfl, zgw_of (List.mem_append_left _ (List.mem_of_getElem? (i := 12) (by decide +kernel))) rfl, by decide +kernel, ⟨by decide +kernel, by decide +kernel⟩, rfl, by decide, ⟨zgw_of (List.mem_append_right _ (List.mem_append_right _ (List.mem_append_right _ (List.mem_append_right _ (List.mem_append_right _ (List.mem_of_getElem? (i := 74) (by decide +kernel))))))) rfl, zgw_of (List.mem_append_right _ (List.mem_append_right _ (List.mem_append_right _ (List.mem_append_right _ (List.mem_append_right _ (List.mem_of_getElem? (i := 75) (by decide +kernel))))))) rfl, by decide, by decide +kernel⟩, Or.inl rfl⟩
theorem zmo_X9_again : zv_mok zm_X9_again := ⟨zgw_of (List.mem_append_right _ (List.mem_append_right _ (List.mem_append_right _ (List.mem_append_right _ (List.mem_append_right _ (List.mem_of_getElem? (i := 80) rfl)))))) rfl, zgw_of (List.mem_append_left _ (List.mem_of_getElem? (i := 12) (by decide +kernel))) rfl, by decide +kernel, ⟨by decide +kernel, by decide +kernel⟩, rfl, by decide, ⟨zgw_of (List.mem_append_right _ (List.mem_append_right _ (List.mem_append_right _ (List.mem_append_right _ (List.mem_append_right _ (List.mem_of_getElem? (i := 78) (by decide +kernel))))))) rfl, zgw_of (List.mem_append_right _ (List.mem_append_right _ (List.mem_append_right _ (List.mem_append_right _ (List.mem_append_right _ (List.mem_of_getElem? (i := 79) (by decide +kernel))))))) rfl, by decide, by decide +kernel⟩, Or.inl rfl⟩
theorem zmo_X9_joined : zv_mok zm_X9_joined := ⟨zgw_of (List.mem_append_right _ (List.mem_append_right _ (List.mem_append_right _ (List.mem_append_right _ (List.mem_append_right _ (List.mem_of_getElem? (i := 88) rfl)))))) rfl, zgw_of (List.mem_append_left _ (List.mem_of_getElem? (i := 12) (by decide +kernel))) rfl, by decide +kernel, ⟨by decide +kernel, by decide +kernel⟩, rfl, by decide, ⟨zgw_of (List.mem_append_right _ (List.mem_append_right _ (List.mem_append_right _ (List.mem_append_right _ (List.mem_append_right _ (List.mem_of_getElem? (i := 87) (by decide +kernel))))))) rfl, zgw_sel (List.mem_of_getElem? (i := 69) (by decide +kernel)) rfl, by decide, by decide +kernel⟩, Or.inl rfl⟩
theorem zmo_X9_withFirst : zv_mok zm_X9_withFirst := ⟨zgw_of (List.mem_append_right _ (List.mem_append_right _ (List.mem_append_right _ (List.mem_append_right _ (List.mem_append_right _ (List.mem_of_getElem? (i := 92) rfl)))))) rfl, zgw_of (List.mem_append_left _ (List.mem_of_getElem? (i := 12) (by decide +kernel))) rfl, by decide +kernel, ⟨by decide +kernel, by decide +kernel⟩, rfl, by decide, ⟨zgw_of (List.mem_append_right _ (List.mem_append_right _ (List.mem_append_right _ (List.mem_append_right _ (List.mem_append_right _ (List.mem_of_getElem? (i := 91) (by decide +kernel))))))) rfl, zgw_sel (List.mem_of_getElem? (i := 70) (by decide +kernel)) rfl, by decide, by decide +kernel⟩, Or.inl rfl⟩
theorem zmo_X9_count : zv_mok zm_X9_count := ⟨zgw_of (List.mem_append_right _ (List.mem_append_right _ (List.mem_append_right _ (List.mem_append_right _ (List.mem_append_right _ (List.mem_of_getElem? (i := 84) rfl)))))) rfl, zgw_of (List.mem_append_left _ (List.mem_of_getElem? (i := 12) (by decide +kernel))) rfl, by decide +kernel, ⟨by decide +kernel, by decide +kernel⟩, rfl, by decide, ⟨zgw_of (List.mem_append_right _ (List.mem_append_right _ (List.mem_append_right _ (List.mem_append_right _ (List.mem_append_right _ (List.mem_of_getElem? (i := 82) (by decide +kernel))))))) rfl, zgw_of (List.mem_append_right _ (List.mem_append_right _ (List.mem_append_right _ (List.mem_append_right _ (List.mem_append_right _ (List.mem_of_getElem? (i := 83) (by decide +kernel))))))) rfl, by decide, by decide +kernel⟩, Or.inl rfl⟩
theorem zv_cnd {b : Bool} {P : zv_Mt → Prop} {A B : Option zv_Mt} (hA : ∀ mt, A = some mt → P mt) (hB : ∀ mt, B = some mt → P mt) : ∀ mt, (bif b then A else B) = some mt → P mt := by
  cases b
  · exact hB
  · exact hA
theorem zv_lf {P : zv_Mt → Prop} {X : zv_Mt} (h : P X) : ∀ mt, some X = some mt → P mt := fun mt e => Option.some.inj e ▸ h
theorem zv_ms_ok (k : Nat) : ∀ mt, zv_ms k = some mt → zv_mok mt := zv_cnd (zv_cnd (zv_cnd (zv_cnd (zv_cnd (zv_cnd (zv_cnd (zv_cnd (zv_lf zmo_J_bitCount) (zv_cnd (zv_lf zmo_J_fill) (zv_lf zmo_X0_init))) (zv_cnd (zv_lf zmo_X0_follow) (zv_cnd (zv_lf zmo_X0_takeBack) (zv_lf zmo_X0_record)))) (zv_cnd (zv_cnd (zv_lf zmo_X0_earlier) (zv_cnd (zv_lf zmo_X0_alike) (zv_lf zmo_X1_init))) (zv_cnd (zv_cnd (zv_lf zmo_X1_tryAll) (zv_lf zmo_X1_restsInOrder)) (zv_cnd (zv_lf zmo_X1_mark) (zv_lf zmo_X1_isMarked))))) (zv_cnd (zv_cnd (zv_cnd (zv_lf zmo_X1_note) (zv_cnd (zv_lf zmo_X1_goToNextOrder) (zv_lf zmo_X1_swap))) (zv_cnd (zv_cnd (zv_lf zmo_X2_init) (zv_lf zmo_X2_save)) (zv_cnd (zv_lf zmo_X2_latest) (zv_lf zmo_X3_init)))) (zv_cnd (zv_cnd (zv_lf zmo_X3_read) (zv_cnd (zv_lf zmo_X3_readTold) (zv_lf zmo_X3_hasRouter))) (zv_cnd (zv_cnd (zv_lf zmo_X3_hasExit) (zv_lf zmo_X3_sessionOf)) (zv_cnd (zv_lf zmo_X3_toldBy) (zv_lf zmo_X3_exitsTo)))))) (zv_cnd (zv_cnd (zv_cnd (zv_cnd (zv_lf zmo_X3_sessionCount) (zv_cnd (zv_lf zmo_X4_init) (zv_lf zmo_X4_scan))) (zv_cnd (zv_lf zmo_X4_scanHead) (zv_cnd (zv_lf zmo_X4_scanPart) (zv_lf zmo_X4_scanLink)))) (zv_cnd (zv_cnd (zv_lf zmo_X4_scanSession) (zv_cnd (zv_lf zmo_X4_scanExit) (zv_lf zmo_X4_scanPair))) (zv_cnd (zv_cnd (zv_lf zmo_X4_setPair) (zv_lf zmo_X4_anyFree)) (zv_cnd (zv_lf zmo_X4_hasFree) (zv_lf zmo_X4_isFree))))) (zv_cnd (zv_cnd (zv_cnd (zv_lf zmo_X4_sign) (zv_cnd (zv_lf zmo_X4_digit) (zv_lf zmo_X5_init))) (zv_cnd (zv_cnd (zv_lf zmo_X5_note) (zv_lf zmo_X5_agree)) (zv_cnd (zv_lf zmo_X6_init) (zv_lf zmo_X6_begin)))) (zv_cnd (zv_cnd (zv_lf zmo_X6_restore) (zv_cnd (zv_lf zmo_X6_copyFrom) (zv_lf zmo_X6_changeCost))) (zv_cnd (zv_cnd (zv_lf zmo_X6_changeWeight) (zv_lf zmo_X6_changeMode)) (zv_cnd (zv_lf zmo_X6_forgetPicks) (zv_lf zmo_X6_measure))))))) (zv_cnd (zv_cnd (zv_cnd (zv_cnd (zv_cnd (zv_lf zmo_X6_findNear) (zv_cnd (zv_lf zmo_X6_distance) (zv_lf zmo_X6_stepOne))) (zv_cnd (zv_lf zmo_X6_stepAll) (zv_cnd (zv_lf zmo_X6_decide) (zv_lf zmo_X6_listen)))) (zv_cnd (zv_cnd (zv_lf zmo_X6_take) (zv_cnd (zv_lf zmo_X6_pick) (zv_lf zmo_X6_compare))) (zv_cnd (zv_cnd (zv_lf zmo_X6_smallest) (zv_lf zmo_X6_send)) (zv_cnd (zv_lf zmo_X6_nextHop) (zv_lf zmo_X6_restNumber))))) (zv_cnd (zv_cnd (zv_cnd (zv_lf zmo_X7_init) (zv_cnd (zv_lf zmo_X7_copyFrom) (zv_lf zmo_X7_read))) (zv_cnd (zv_cnd (zv_lf zmo_X7_forgetChoices) (zv_lf zmo_X7_costOf)) (zv_cnd (zv_lf zmo_X7_flip) (zv_lf zmo_X7_extend)))) (zv_cnd (zv_cnd (zv_lf zmo_X7_firstRoute) (zv_cnd (zv_lf zmo_X7_secondRoute) (zv_lf zmo_X7_firstExit))) (zv_cnd (zv_cnd (zv_lf zmo_X7_linkCount) (zv_lf zmo_X7_chosenSet)) (zv_cnd (zv_lf zmo_X7_chosenExits) (zv_lf zmo_X8_init)))))) (zv_cnd (zv_cnd (zv_cnd (zv_cnd (zv_lf zmo_X8_write) (zv_cnd (zv_lf zmo_X8_wipe) (zv_lf zmo_X8_fault))) (zv_cnd (zv_lf zmo_X8_domain) (zv_cnd (zv_lf zmo_X8_link) (zv_lf zmo_X8_session)))) (zv_cnd (zv_cnd (zv_lf zmo_X8_exit) (zv_cnd (zv_lf zmo_X8_step) (zv_lf zmo_X8_round))) (zv_cnd (zv_cnd (zv_lf zmo_X8_setLink) (zv_lf zmo_X8_turn)) (zv_cnd (zv_lf zmo_X8_weigh) (zv_lf zmo_X8_add))))) (zv_cnd (zv_cnd (zv_cnd (zv_lf zmo_X8_setMode) (zv_cnd (zv_lf zmo_X8_undo) (zv_lf zmo_X8_choice))) (zv_cnd (zv_cnd (zv_lf zmo_X8_heard) (zv_lf zmo_X8_tells)) (zv_cnd (zv_lf zmo_X8_mesh) (zv_lf zmo_X8_leaves)))) (zv_cnd (zv_cnd (zv_lf zmo_X8_run) (zv_cnd (zv_lf zmo_X8_orders) (zv_lf zmo_X8_healed))) (zv_cnd (zv_cnd (zv_lf zmo_X8_judge) (zv_lf zmo_X8_see)) (zv_cnd (zv_lf zmo_X8_unsee) (zv_lf zmo_X8_which)))))))) (zv_cnd (zv_cnd (zv_cnd (zv_cnd (zv_cnd (zv_cnd (zv_lf zmo_X8_share) (zv_cnd (zv_lf zmo_X8_lost) (zv_lf zmo_X8_seed))) (zv_cnd (zv_lf zmo_X8_drawn) (zv_cnd (zv_lf zmo_X8_keep) (zv_lf zmo_X8_again)))) (zv_cnd (zv_cnd (zv_lf zmo_X8_count) (zv_cnd (zv_lf zmo_X8_exitOf) (zv_lf zmo_X8_fromOf))) (zv_cnd (zv_cnd (zv_lf zmo_X8_routeOf) (zv_lf zmo_X8_factorial)) (zv_cnd (zv_lf zmo_X8_commonDivisor) (zv_lf zmo_X8_part))))) (zv_cnd (zv_cnd (zv_cnd (zv_lf zmo_X8_restsAnew) (zv_cnd (zv_lf zmo_X8_gainFactor) (zv_lf zmo_X8_chanceOf))) (zv_cnd (zv_cnd (zv_lf zmo_X8_holds) (zv_lf zmo_X8_happens)) (zv_cnd (zv_lf zmo_X8_canBeAnswer) (zv_lf zmo_X8_isExit)))) (zv_cnd (zv_cnd (zv_lf zmo_X9_init) (zv_cnd (zv_lf zmo_X9_in) (zv_lf zmo_X9_has))) (zv_cnd (zv_cnd (zv_lf zmo_X9_ones) (zv_lf zmo_X9_power)) (zv_cnd (zv_lf zmo_X9_clearChoices) (zv_lf zmo_X9_lay)))))) (zv_cnd (zv_cnd (zv_cnd (zv_cnd (zv_lf zmo_X9_noRouter) (zv_cnd (zv_lf zmo_X9_noExit) (zv_lf zmo_X9_pair))) (zv_cnd (zv_lf zmo_X9_write) (zv_cnd (zv_lf zmo_X9_wipe) (zv_lf zmo_X9_figure)))) (zv_cnd (zv_cnd (zv_lf zmo_X9_apart) (zv_cnd (zv_lf zmo_X9_isAnyApart) (zv_lf zmo_X9_readTwo))) (zv_cnd (zv_cnd (zv_lf zmo_X9_readLink) (zv_lf zmo_X9_readSession)) (zv_cnd (zv_lf zmo_X9_readExit) (zv_lf zmo_X9_readPart))))) (zv_cnd (zv_cnd (zv_cnd (zv_lf zmo_X9_readDomain) (zv_cnd (zv_lf zmo_X9_fault) (zv_lf zmo_X9_domain))) (zv_cnd (zv_cnd (zv_lf zmo_X9_layCosts) (zv_lf zmo_X9_link)) (zv_cnd (zv_lf zmo_X9_session) (zv_lf zmo_X9_exitOf)))) (zv_cnd (zv_cnd (zv_lf zmo_X9_exit) (zv_cnd (zv_lf zmo_X9_at) (zv_lf zmo_X9_isTold))) (zv_cnd (zv_cnd (zv_lf zmo_X9_hear) (zv_lf zmo_X9_gather)) (zv_cnd (zv_lf zmo_X9_weighed) (zv_lf zmo_X9_leave))))))) (zv_cnd (zv_cnd (zv_cnd (zv_cnd (zv_cnd (zv_lf zmo_X9_leaveByNeighbours) (zv_cnd (zv_lf zmo_X9_best) (zv_lf zmo_X9_gathered))) (zv_cnd (zv_lf zmo_X9_putTaken) (zv_cnd (zv_lf zmo_X9_take) (zv_lf zmo_X9_putChoices)))) (zv_cnd (zv_cnd (zv_lf zmo_X9_stepOn) (zv_cnd (zv_lf zmo_X9_roundOn) (zv_lf zmo_X9_note))) (zv_cnd (zv_cnd (zv_lf zmo_X9_step) (zv_lf zmo_X9_round)) (zv_cnd (zv_lf zmo_X9_setLink) (zv_lf zmo_X9_turn))))) (zv_cnd (zv_cnd (zv_cnd (zv_lf zmo_X9_weigh) (zv_cnd (zv_lf zmo_X9_addOn) (zv_lf zmo_X9_add))) (zv_cnd (zv_cnd (zv_lf zmo_X9_setMode) (zv_lf zmo_X9_undo)) (zv_cnd (zv_lf zmo_X9_choice) (zv_lf zmo_X9_heard)))) (zv_cnd (zv_cnd (zv_lf zmo_X9_tells) (zv_cnd (zv_lf zmo_X9_mesh) (zv_lf zmo_X9_leaveFrom))) (zv_cnd (zv_cnd (zv_lf zmo_X9_leaves) (zv_lf zmo_X9_noteState)) (zv_cnd (zv_lf zmo_X9_areSame) (zv_lf zmo_X9_runOn)))))) (zv_cnd (zv_cnd (zv_cnd (zv_cnd (zv_lf zmo_X9_told) (zv_cnd (zv_lf zmo_X9_rests) (zv_lf zmo_X9_run))) (zv_cnd (zv_cnd (zv_lf zmo_X9_restsBy) (zv_lf zmo_X9_isOrder)) (zv_cnd (zv_lf zmo_X9_orders) (zv_lf zmo_X9_healed)))) (zv_cnd (zv_cnd (zv_lf zmo_X9_longPower) (zv_cnd (zv_lf zmo_X9_runsToRest) (zv_lf zmo_X9_does))) (zv_cnd (zv_cnd (zv_lf zmo_X9_judge) (zv_lf zmo_X9_see)) (zv_cnd (zv_lf zmo_X9_unsee) (zv_lf zmo_X9_agrees))))) (zv_cnd (zv_cnd (zv_cnd (zv_lf zmo_X9_which) (zv_cnd (zv_lf zmo_X9_divisor) (zv_lf zmo_X9_fraction))) (zv_cnd (zv_cnd (zv_lf zmo_X9_factorial) (zv_lf zmo_X9_unlikeBy)) (zv_cnd (zv_lf zmo_X9_share) (zv_lf zmo_X9_lost)))) (zv_cnd (zv_cnd (zv_lf zmo_X9_seed) (zv_cnd (zv_lf zmo_X9_drawn) (zv_lf zmo_X9_keep))) (zv_cnd (zv_cnd (zv_lf zmo_X9_again) (zv_lf zmo_X9_joined)) (zv_cnd (zv_lf zmo_X9_withFirst) (zv_lf zmo_X9_count))))))))) (fun _ h => by cases h)
end
section
/-! ===== links ===== -/
def zl_f : List (Nat × Nat × Nat × Nat) := [(8, 12, 8, 0), (8, 19, 8, 1), (8, 28, 8, 2), (8, 32, 8, 3), (8, 38, 8, 4), (8, 45, 8, 5), (8, 52, 8, 6), (8, 58, 8, 7), (8, 63, 8, 8), (8, 70, 8, 9), (8, 74, 8, 10), (8, 78, 4, 1), (8, 82, 4, 0), (8, 97, 2, 0), (8, 100, 4, 4), (8, 107, 6, 1), (8, 124, 3, 4), (8, 128, 3, 5), (8, 131, 3, 6), (8, 134, 7, 1), (8, 137, 7, 3), (8, 165, 7, 4), (8, 168, 7, 5), (8, 200, 6, 2), (8, 209, 6, 3), (8, 222, 0, 0), (8, 225, 0, 1), (8, 228, 0, 2), (8, 237, 1, 0), (8, 240, 1, 1), (8, 243, 1, 2), (8, 246, 3, 0), (8, 267, 5, 0), (8, 271, 3, 1), (0, 9, 0, 3), (0, 15, 0, 0), (0, 19, 0, 1), (0, 22, 0, 2), (0, 39, 6, 1), (0, 43, 7, 2), (1, 9, 1, 3), (1, 15, 1, 4), (1, 18, 1, 5), (1, 21, 6, 0), (1, 27, 3, 0), (1, 39, 1, 0), (1, 42, 1, 1), (1, 45, 1, 2), (1, 64, 6, 1), (1, 84, 7, 2), (2, 11, 2, 2), (2, 18, 2, 1), (2, 26, 2, 0), (3, 9, 3, 0), (3, 15, 3, 2), (3, 19, 3, 3), (3, 22, 3, 4), (3, 25, 3, 5), (3, 28, 3, 6), (3, 31, 3, 7), (3, 34, 4, 2), (3, 37, 4, 3), (3, 40, 3, 1), (3, 41, 4, 6), (3, 48, 4, 7), (3, 49, 4, 8), (3, 50, 4, 9), (4, 9, 4, 0), (4, 15, 4, 5), (4, 19, 4, 6), (4, 22, 4, 7), (4, 25, 4, 8), (4, 28, 4, 9), (4, 31, 4, 10), (4, 34, 4, 11), (4, 38, 4, 2), (4, 41, 4, 3), (4, 44, 4, 4), (4, 57, 4, 1), (5, 9, 5, 1), (5, 15, 5, 2), (5, 18, 5, 3), (5, 21, 5, 0), (5, 25, 6, 0), (5, 37, 6, 1), (6, 12, 6, 1), (6, 18, 6, 2), (6, 22, 6, 4), (6, 25, 6, 5), (6, 28, 6, 6), (6, 31, 6, 7), (6, 34, 6, 8), (6, 37, 6, 0), (6, 61, 7, 0), (6, 64, 7, 1), (6, 67, 7, 5), (6, 86, 3, 1), (6, 91, 3, 4), (6, 101, 7, 2), (6, 108, 3, 0), (6, 117, 7, 4), (6, 120, 3, 7), (6, 123, 7, 3), (6, 145, 3, 6), (6, 158, 6, 3), (7, 9, 7, 0), (7, 15, 7, 1), (7, 18, 7, 2), (7, 27, 7, 3), (7, 31, 7, 4), (7, 34, 7, 5), (7, 37, 4, 5), (7, 40, 4, 10), (7, 44, 4, 3), (9, 7, 9, 1), (9, 13, 9, 5), (9, 16, 9, 6), (9, 19, 9, 7), (9, 22, 9, 8), (9, 25, 9, 9), (9, 28, 9, 11), (9, 31, 9, 12), (9, 35, 9, 14), (9, 38, 9, 15), (9, 41, 9, 16), (9, 44, 9, 18), (9, 47, 9, 19), (9, 50, 9, 20), (9, 53, 9, 21), (9, 56, 9, 22), (9, 59, 9, 23), (9, 62, 9, 27), (9, 65, 9, 28), (9, 72, 9, 0), (9, 82, 9, 2), (9, 85, 9, 3), (9, 99, 9, 29), (9, 102, 9, 30), (9, 123, 9, 4), (9, 137, 9, 10), (9, 225, 9, 31), (9, 231, 9, 24), (9, 234, 9, 25), (9, 237, 9, 26), (9, 277, 9, 13), (9, 298, 9, 17)]
def zl_fP (q : Nat × Nat × Nat × Nat) : Prop := Cond.fieldLink (zn_own q.1) q.2.1 (zn_own q.2.2.1) (zn_T q.2.2.1 q.2.2.2).2.1 (zn_T q.2.2.1 q.2.2.2).2.2.1 ∈ zgw
theorem zl_f_r0 : zl_fP (8, 12, 8, 0) := zgw_of (List.mem_append_right _ (List.mem_append_left _ (List.mem_of_getElem? (i := 76) (by decide +kernel)))) rfl
theorem zl_f_r1 : zl_fP (8, 19, 8, 1) := zgw_of (List.mem_append_right _ (List.mem_append_left _ (List.mem_of_getElem? (i := 77) (by decide +kernel)))) rfl
theorem zl_f_r2 : zl_fP (8, 28, 8, 2) := zgw_of (List.mem_append_right _ (List.mem_append_left _ (List.mem_of_getElem? (i := 78) (by decide +kernel)))) rfl
theorem zl_f_r3 : zl_fP (8, 32, 8, 3) := zgw_of (List.mem_append_right _ (List.mem_append_left _ (List.mem_of_getElem? (i := 79) (by decide +kernel)))) rfl
theorem zl_f_r4 : zl_fP (8, 38, 8, 4) := zgw_of (List.mem_append_right _ (List.mem_append_left _ (List.mem_of_getElem? (i := 80) (by decide +kernel)))) rfl
theorem zl_f_r5 : zl_fP (8, 45, 8, 5) := zgw_of (List.mem_append_right _ (List.mem_append_left _ (List.mem_of_getElem? (i := 81) (by decide +kernel)))) rfl
theorem zl_f_r6 : zl_fP (8, 52, 8, 6) := zgw_of (List.mem_append_right _ (List.mem_append_left _ (List.mem_of_getElem? (i := 82) (by decide +kernel)))) rfl
theorem zl_f_r7 : zl_fP (8, 58, 8, 7) := zgw_of (List.mem_append_right _ (List.mem_append_left _ (List.mem_of_getElem? (i := 83) (by decide +kernel)))) rfl
theorem zl_f_r8 : zl_fP (8, 63, 8, 8) := zgw_of (List.mem_append_right _ (List.mem_append_left _ (List.mem_of_getElem? (i := 84) (by decide +kernel)))) rfl
theorem zl_f_r9 : zl_fP (8, 70, 8, 9) := zgw_of (List.mem_append_right _ (List.mem_append_left _ (List.mem_of_getElem? (i := 85) (by decide +kernel)))) rfl
theorem zl_f_r10 : zl_fP (8, 74, 8, 10) := zgw_of (List.mem_append_right _ (List.mem_append_left _ (List.mem_of_getElem? (i := 86) (by decide +kernel)))) rfl
theorem zl_f_r11 : zl_fP (8, 78, 4, 1) := zgw_of (List.mem_append_left _ (List.mem_of_getElem? (i := 31) (by decide +kernel))) rfl
theorem zl_f_r12 : zl_fP (8, 82, 4, 0) := zgw_of (List.mem_append_left _ (List.mem_of_getElem? (i := 30) (by decide +kernel))) rfl
theorem zl_f_r13 : zl_fP (8, 97, 2, 0) := zgw_of (List.mem_append_right _ (List.mem_append_left _ (List.mem_of_getElem? (i := 43) (by decide +kernel)))) rfl
theorem zl_f_r14 : zl_fP (8, 100, 4, 4) := zgw_of (List.mem_append_left _ (List.mem_of_getElem? (i := 39) (by decide +kernel))) rfl
theorem zl_f_r15 : zl_fP (8, 107, 6, 1) := zgw_of (List.mem_append_left _ (List.mem_of_getElem? (i := 194) (by decide +kernel))) rfl
theorem zl_f_r16 : zl_fP (8, 124, 3, 4) := zgw_of (List.mem_append_left _ (List.mem_of_getElem? (i := 96) (by decide +kernel))) rfl
theorem zl_f_r17 : zl_fP (8, 128, 3, 5) := zgw_of (List.mem_append_left _ (List.mem_of_getElem? (i := 99) (by decide +kernel))) rfl
theorem zl_f_r18 : zl_fP (8, 131, 3, 6) := zgw_of (List.mem_append_left _ (List.mem_of_getElem? (i := 101) (by decide +kernel))) rfl
theorem zl_f_r19 : zl_fP (8, 134, 7, 1) := zgw_of (List.mem_append_left _ (List.mem_of_getElem? (i := 138) (by decide +kernel))) rfl
theorem zl_f_r20 : zl_fP (8, 137, 7, 3) := zgw_of (List.mem_append_left _ (List.mem_of_getElem? (i := 144) (by decide +kernel))) rfl
theorem zl_f_r21 : zl_fP (8, 165, 7, 4) := zgw_of (List.mem_append_left _ (List.mem_of_getElem? (i := 148) (by decide +kernel))) rfl
theorem zl_f_r22 : zl_fP (8, 168, 7, 5) := zgw_of (List.mem_append_left _ (List.mem_of_getElem? (i := 151) (by decide +kernel))) rfl
theorem zl_f_r23 : zl_fP (8, 200, 6, 2) := zgw_of (List.mem_append_left _ (List.mem_of_getElem? (i := 196) (by decide +kernel))) rfl
theorem zl_f_r24 : zl_fP (8, 209, 6, 3) := zgw_of (List.mem_append_left _ (List.mem_of_getElem? (i := 198) (by decide +kernel))) rfl
theorem zl_f_r25 : zl_fP (8, 222, 0, 0) := zgw_of (List.mem_append_left _ (List.mem_of_getElem? (i := 230) (by decide +kernel))) rfl
theorem zl_f_r26 : zl_fP (8, 225, 0, 1) := zgw_of (List.mem_append_left _ (List.mem_of_getElem? (i := 232) (by decide +kernel))) rfl
theorem zl_f_r27 : zl_fP (8, 228, 0, 2) := zgw_of (List.mem_append_left _ (List.mem_of_getElem? (i := 234) (by decide +kernel))) rfl
theorem zl_f_r28 : zl_fP (8, 237, 1, 0) := zgw_of (List.mem_append_right _ (List.mem_append_left _ (List.mem_of_getElem? (i := 12) (by decide +kernel)))) rfl
theorem zl_f_r29 : zl_fP (8, 240, 1, 1) := zgw_of (List.mem_append_right _ (List.mem_append_left _ (List.mem_of_getElem? (i := 14) (by decide +kernel)))) rfl
theorem zl_f_r30 : zl_fP (8, 243, 1, 2) := zgw_of (List.mem_append_right _ (List.mem_append_left _ (List.mem_of_getElem? (i := 16) (by decide +kernel)))) rfl
theorem zl_f_r31 : zl_fP (8, 246, 3, 0) := zgw_of (List.mem_append_left _ (List.mem_of_getElem? (i := 89) (by decide +kernel))) rfl
theorem zl_f_r32 : zl_fP (8, 267, 5, 0) := zgw_of (List.mem_append_right _ (List.mem_append_left _ (List.mem_of_getElem? (i := 62) (by decide +kernel)))) rfl
theorem zl_f_r33 : zl_fP (8, 271, 3, 1) := zgw_of (List.mem_append_left _ (List.mem_of_getElem? (i := 92) (by decide +kernel))) rfl
theorem zl_f_r34 : zl_fP (0, 9, 0, 3) := zgw_of (List.mem_append_left _ (List.mem_of_getElem? (i := 235) (by decide +kernel))) rfl
theorem zl_f_r35 : zl_fP (0, 15, 0, 0) := zgw_of (List.mem_append_left _ (List.mem_of_getElem? (i := 229) (by decide +kernel))) rfl
theorem zl_f_r36 : zl_fP (0, 19, 0, 1) := zgw_of (List.mem_append_left _ (List.mem_of_getElem? (i := 231) (by decide +kernel))) rfl
theorem zl_f_r37 : zl_fP (0, 22, 0, 2) := zgw_of (List.mem_append_left _ (List.mem_of_getElem? (i := 233) (by decide +kernel))) rfl
theorem zl_f_r38 : zl_fP (0, 39, 6, 1) := zgw_of (List.mem_append_left _ (List.mem_of_getElem? (i := 192) (by decide +kernel))) rfl
theorem zl_f_r39 : zl_fP (0, 43, 7, 2) := zgw_of (List.mem_append_left _ (List.mem_of_getElem? (i := 140) (by decide +kernel))) rfl
theorem zl_f_r40 : zl_fP (1, 9, 1, 3) := zgw_of (List.mem_append_right _ (List.mem_append_left _ (List.mem_of_getElem? (i := 17) (by decide +kernel)))) rfl
theorem zl_f_r41 : zl_fP (1, 15, 1, 4) := zgw_of (List.mem_append_right _ (List.mem_append_left _ (List.mem_of_getElem? (i := 18) (by decide +kernel)))) rfl
theorem zl_f_r42 : zl_fP (1, 18, 1, 5) := zgw_of (List.mem_append_right _ (List.mem_append_left _ (List.mem_of_getElem? (i := 19) (by decide +kernel)))) rfl
theorem zl_f_r43 : zl_fP (1, 21, 6, 0) := zgw_of (List.mem_append_left _ (List.mem_of_getElem? (i := 188) (by decide +kernel))) rfl
theorem zl_f_r44 : zl_fP (1, 27, 3, 0) := zgw_of (List.mem_append_left _ (List.mem_of_getElem? (i := 87) (by decide +kernel))) rfl
theorem zl_f_r45 : zl_fP (1, 39, 1, 0) := zgw_of (List.mem_append_right _ (List.mem_append_left _ (List.mem_of_getElem? (i := 11) (by decide +kernel)))) rfl
theorem zl_f_r46 : zl_fP (1, 42, 1, 1) := zgw_of (List.mem_append_right _ (List.mem_append_left _ (List.mem_of_getElem? (i := 13) (by decide +kernel)))) rfl
theorem zl_f_r47 : zl_fP (1, 45, 1, 2) := zgw_of (List.mem_append_right _ (List.mem_append_left _ (List.mem_of_getElem? (i := 15) (by decide +kernel)))) rfl
theorem zl_f_r48 : zl_fP (1, 64, 6, 1) := zgw_of (List.mem_append_left _ (List.mem_of_getElem? (i := 191) (by decide +kernel))) rfl
theorem zl_f_r49 : zl_fP (1, 84, 7, 2) := zgw_of (List.mem_append_left _ (List.mem_of_getElem? (i := 141) (by decide +kernel))) rfl
theorem zl_f_r50 : zl_fP (2, 11, 2, 2) := zgw_of (List.mem_append_right _ (List.mem_append_left _ (List.mem_of_getElem? (i := 45) (by decide +kernel)))) rfl
theorem zl_f_r51 : zl_fP (2, 18, 2, 1) := zgw_of (List.mem_append_right _ (List.mem_append_left _ (List.mem_of_getElem? (i := 44) (by decide +kernel)))) rfl
theorem zl_f_r52 : zl_fP (2, 26, 2, 0) := zgw_of (List.mem_append_right _ (List.mem_append_left _ (List.mem_of_getElem? (i := 42) (by decide +kernel)))) rfl
theorem zl_f_r53 : zl_fP (3, 9, 3, 0) := zgw_of (List.mem_append_left _ (List.mem_of_getElem? (i := 86) (by decide +kernel))) rfl
theorem zl_f_r54 : zl_fP (3, 15, 3, 2) := zgw_of (List.mem_append_left _ (List.mem_of_getElem? (i := 93) (by decide +kernel))) rfl
theorem zl_f_r55 : zl_fP (3, 19, 3, 3) := zgw_of (List.mem_append_left _ (List.mem_of_getElem? (i := 94) (by decide +kernel))) rfl
theorem zl_f_r56 : zl_fP (3, 22, 3, 4) := zgw_of (List.mem_append_left _ (List.mem_of_getElem? (i := 95) (by decide +kernel))) rfl
theorem zl_f_r57 : zl_fP (3, 25, 3, 5) := zgw_of (List.mem_append_left _ (List.mem_of_getElem? (i := 98) (by decide +kernel))) rfl
theorem zl_f_r58 : zl_fP (3, 28, 3, 6) := zgw_of (List.mem_append_left _ (List.mem_of_getElem? (i := 100) (by decide +kernel))) rfl
theorem zl_f_r59 : zl_fP (3, 31, 3, 7) := zgw_of (List.mem_append_left _ (List.mem_of_getElem? (i := 103) (by decide +kernel))) rfl
theorem zl_f_r60 : zl_fP (3, 34, 4, 2) := zgw_of (List.mem_append_left _ (List.mem_of_getElem? (i := 33) (by decide +kernel))) rfl
theorem zl_f_r61 : zl_fP (3, 37, 4, 3) := zgw_of (List.mem_append_left _ (List.mem_of_getElem? (i := 35) (by decide +kernel))) rfl
theorem zl_f_r62 : zl_fP (3, 40, 3, 1) := zgw_of (List.mem_append_left _ (List.mem_of_getElem? (i := 90) (by decide +kernel))) rfl
theorem zl_f_r63 : zl_fP (3, 41, 4, 6) := zgw_of (List.mem_append_left _ (List.mem_of_getElem? (i := 43) (by decide +kernel))) rfl
theorem zl_f_r64 : zl_fP (3, 48, 4, 7) := zgw_of (List.mem_append_left _ (List.mem_of_getElem? (i := 45) (by decide +kernel))) rfl
theorem zl_f_r65 : zl_fP (3, 49, 4, 8) := zgw_of (List.mem_append_left _ (List.mem_of_getElem? (i := 47) (by decide +kernel))) rfl
theorem zl_f_r66 : zl_fP (3, 50, 4, 9) := zgw_of (List.mem_append_left _ (List.mem_of_getElem? (i := 49) (by decide +kernel))) rfl
theorem zl_f_r67 : zl_fP (4, 9, 4, 0) := zgw_of (List.mem_append_left _ (List.mem_of_getElem? (i := 29) (by decide +kernel))) rfl
theorem zl_f_r68 : zl_fP (4, 15, 4, 5) := zgw_of (List.mem_append_left _ (List.mem_of_getElem? (i := 40) (by decide +kernel))) rfl
theorem zl_f_r69 : zl_fP (4, 19, 4, 6) := zgw_of (List.mem_append_left _ (List.mem_of_getElem? (i := 42) (by decide +kernel))) rfl
theorem zl_f_r70 : zl_fP (4, 22, 4, 7) := zgw_of (List.mem_append_left _ (List.mem_of_getElem? (i := 44) (by decide +kernel))) rfl
theorem zl_f_r71 : zl_fP (4, 25, 4, 8) := zgw_of (List.mem_append_left _ (List.mem_of_getElem? (i := 46) (by decide +kernel))) rfl
theorem zl_f_r72 : zl_fP (4, 28, 4, 9) := zgw_of (List.mem_append_left _ (List.mem_of_getElem? (i := 48) (by decide +kernel))) rfl
theorem zl_f_r73 : zl_fP (4, 31, 4, 10) := zgw_of (List.mem_append_left _ (List.mem_of_getElem? (i := 50) (by decide +kernel))) rfl
theorem zl_f_r74 : zl_fP (4, 34, 4, 11) := zgw_of (List.mem_append_left _ (List.mem_of_getElem? (i := 52) (by decide +kernel))) rfl
theorem zl_f_r75 : zl_fP (4, 38, 4, 2) := zgw_of (List.mem_append_left _ (List.mem_of_getElem? (i := 34) (by decide +kernel))) rfl
theorem zl_f_r76 : zl_fP (4, 41, 4, 3) := zgw_of (List.mem_append_left _ (List.mem_of_getElem? (i := 36) (by decide +kernel))) rfl
theorem zl_f_r77 : zl_fP (4, 44, 4, 4) := zgw_of (List.mem_append_left _ (List.mem_of_getElem? (i := 38) (by decide +kernel))) rfl
theorem zl_f_r78 : zl_fP (4, 57, 4, 1) := zgw_of (List.mem_append_left _ (List.mem_of_getElem? (i := 32) (by decide +kernel))) rfl
theorem zl_f_r79 : zl_fP (5, 9, 5, 1) := zgw_of (List.mem_append_right _ (List.mem_append_left _ (List.mem_of_getElem? (i := 63) (by decide +kernel)))) rfl
theorem zl_f_r80 : zl_fP (5, 15, 5, 2) := zgw_of (List.mem_append_right _ (List.mem_append_left _ (List.mem_of_getElem? (i := 64) (by decide +kernel)))) rfl
theorem zl_f_r81 : zl_fP (5, 18, 5, 3) := zgw_of (List.mem_append_right _ (List.mem_append_left _ (List.mem_of_getElem? (i := 65) (by decide +kernel)))) rfl
theorem zl_f_r82 : zl_fP (5, 21, 5, 0) := zgw_of (List.mem_append_right _ (List.mem_append_left _ (List.mem_of_getElem? (i := 61) (by decide +kernel)))) rfl
theorem zl_f_r83 : zl_fP (5, 25, 6, 0) := zgw_of (List.mem_append_left _ (List.mem_of_getElem? (i := 189) (by decide +kernel))) rfl
theorem zl_f_r84 : zl_fP (5, 37, 6, 1) := zgw_of (List.mem_append_left _ (List.mem_of_getElem? (i := 193) (by decide +kernel))) rfl
theorem zl_f_r85 : zl_fP (6, 12, 6, 1) := zgw_of (List.mem_append_left _ (List.mem_of_getElem? (i := 190) (by decide +kernel))) rfl
theorem zl_f_r86 : zl_fP (6, 18, 6, 2) := zgw_of (List.mem_append_left _ (List.mem_of_getElem? (i := 195) (by decide +kernel))) rfl
theorem zl_f_r87 : zl_fP (6, 22, 6, 4) := zgw_of (List.mem_append_left _ (List.mem_of_getElem? (i := 199) (by decide +kernel))) rfl
theorem zl_f_r88 : zl_fP (6, 25, 6, 5) := zgw_of (List.mem_append_left _ (List.mem_of_getElem? (i := 200) (by decide +kernel))) rfl
theorem zl_f_r89 : zl_fP (6, 28, 6, 6) := zgw_of (List.mem_append_left _ (List.mem_of_getElem? (i := 201) (by decide +kernel))) rfl
theorem zl_f_r90 : zl_fP (6, 31, 6, 7) := zgw_of (List.mem_append_left _ (List.mem_of_getElem? (i := 202) (by decide +kernel))) rfl
theorem zl_f_r91 : zl_fP (6, 34, 6, 8) := zgw_of (List.mem_append_left _ (List.mem_of_getElem? (i := 203) (by decide +kernel))) rfl
theorem zl_f_r92 : zl_fP (6, 37, 6, 0) := zgw_of (List.mem_append_left _ (List.mem_of_getElem? (i := 187) (by decide +kernel))) rfl
theorem zl_f_r93 : zl_fP (6, 61, 7, 0) := zgw_of (List.mem_append_left _ (List.mem_of_getElem? (i := 135) (by decide +kernel))) rfl
theorem zl_f_r94 : zl_fP (6, 64, 7, 1) := zgw_of (List.mem_append_left _ (List.mem_of_getElem? (i := 137) (by decide +kernel))) rfl
theorem zl_f_r95 : zl_fP (6, 67, 7, 5) := zgw_of (List.mem_append_left _ (List.mem_of_getElem? (i := 150) (by decide +kernel))) rfl
theorem zl_f_r96 : zl_fP (6, 86, 3, 1) := zgw_of (List.mem_append_left _ (List.mem_of_getElem? (i := 91) (by decide +kernel))) rfl
theorem zl_f_r97 : zl_fP (6, 91, 3, 4) := zgw_of (List.mem_append_left _ (List.mem_of_getElem? (i := 97) (by decide +kernel))) rfl
theorem zl_f_r98 : zl_fP (6, 101, 7, 2) := zgw_of (List.mem_append_left _ (List.mem_of_getElem? (i := 142) (by decide +kernel))) rfl
theorem zl_f_r99 : zl_fP (6, 108, 3, 0) := zgw_of (List.mem_append_left _ (List.mem_of_getElem? (i := 88) (by decide +kernel))) rfl
theorem zl_f_r100 : zl_fP (6, 117, 7, 4) := zgw_of (List.mem_append_left _ (List.mem_of_getElem? (i := 147) (by decide +kernel))) rfl
theorem zl_f_r101 : zl_fP (6, 120, 3, 7) := zgw_of (List.mem_append_left _ (List.mem_of_getElem? (i := 104) (by decide +kernel))) rfl
theorem zl_f_r102 : zl_fP (6, 123, 7, 3) := zgw_of (List.mem_append_left _ (List.mem_of_getElem? (i := 145) (by decide +kernel))) rfl
theorem zl_f_r103 : zl_fP (6, 145, 3, 6) := zgw_of (List.mem_append_left _ (List.mem_of_getElem? (i := 102) (by decide +kernel))) rfl
theorem zl_f_r104 : zl_fP (6, 158, 6, 3) := zgw_of (List.mem_append_left _ (List.mem_of_getElem? (i := 197) (by decide +kernel))) rfl
theorem zl_f_r105 : zl_fP (7, 9, 7, 0) := zgw_of (List.mem_append_left _ (List.mem_of_getElem? (i := 134) (by decide +kernel))) rfl
theorem zl_f_r106 : zl_fP (7, 15, 7, 1) := zgw_of (List.mem_append_left _ (List.mem_of_getElem? (i := 136) (by decide +kernel))) rfl
theorem zl_f_r107 : zl_fP (7, 18, 7, 2) := zgw_of (List.mem_append_left _ (List.mem_of_getElem? (i := 139) (by decide +kernel))) rfl
theorem zl_f_r108 : zl_fP (7, 27, 7, 3) := zgw_of (List.mem_append_left _ (List.mem_of_getElem? (i := 143) (by decide +kernel))) rfl
theorem zl_f_r109 : zl_fP (7, 31, 7, 4) := zgw_of (List.mem_append_left _ (List.mem_of_getElem? (i := 146) (by decide +kernel))) rfl
theorem zl_f_r110 : zl_fP (7, 34, 7, 5) := zgw_of (List.mem_append_left _ (List.mem_of_getElem? (i := 149) (by decide +kernel))) rfl
theorem zl_f_r111 : zl_fP (7, 37, 4, 5) := zgw_of (List.mem_append_left _ (List.mem_of_getElem? (i := 41) (by decide +kernel))) rfl
theorem zl_f_r112 : zl_fP (7, 40, 4, 10) := zgw_of (List.mem_append_left _ (List.mem_of_getElem? (i := 51) (by decide +kernel))) rfl
theorem zl_f_r113 : zl_fP (7, 44, 4, 3) := zgw_of (List.mem_append_left _ (List.mem_of_getElem? (i := 37) (by decide +kernel))) rfl
theorem zl_f_r114 : zl_fP (9, 7, 9, 1) := zgw_of (List.mem_append_right _ (List.mem_append_right _ (List.mem_append_right _ (List.mem_append_left _ (List.mem_of_getElem? (i := 133) (by decide +kernel)))))) rfl
theorem zl_f_r115 : zl_fP (9, 13, 9, 5) := zgw_of (List.mem_append_right _ (List.mem_append_right _ (List.mem_append_right _ (List.mem_append_left _ (List.mem_of_getElem? (i := 137) (by decide +kernel)))))) rfl
theorem zl_f_r116 : zl_fP (9, 16, 9, 6) := zgw_of (List.mem_append_right _ (List.mem_append_right _ (List.mem_append_right _ (List.mem_append_left _ (List.mem_of_getElem? (i := 138) (by decide +kernel)))))) rfl
theorem zl_f_r117 : zl_fP (9, 19, 9, 7) := zgw_of (List.mem_append_right _ (List.mem_append_right _ (List.mem_append_right _ (List.mem_append_left _ (List.mem_of_getElem? (i := 139) (by decide +kernel)))))) rfl
theorem zl_f_r118 : zl_fP (9, 22, 9, 8) := zgw_of (List.mem_append_right _ (List.mem_append_right _ (List.mem_append_right _ (List.mem_append_left _ (List.mem_of_getElem? (i := 140) (by decide +kernel)))))) rfl
theorem zl_f_r119 : zl_fP (9, 25, 9, 9) := zgw_of (List.mem_append_right _ (List.mem_append_right _ (List.mem_append_right _ (List.mem_append_left _ (List.mem_of_getElem? (i := 141) (by decide +kernel)))))) rfl
theorem zl_f_r120 : zl_fP (9, 28, 9, 11) := zgw_of (List.mem_append_right _ (List.mem_append_right _ (List.mem_append_right _ (List.mem_append_left _ (List.mem_of_getElem? (i := 143) (by decide +kernel)))))) rfl
theorem zl_f_r121 : zl_fP (9, 31, 9, 12) := zgw_of (List.mem_append_right _ (List.mem_append_right _ (List.mem_append_right _ (List.mem_append_left _ (List.mem_of_getElem? (i := 144) (by decide +kernel)))))) rfl
theorem zl_f_r122 : zl_fP (9, 35, 9, 14) := zgw_of (List.mem_append_right _ (List.mem_append_right _ (List.mem_append_right _ (List.mem_append_left _ (List.mem_of_getElem? (i := 146) (by decide +kernel)))))) rfl
theorem zl_f_r123 : zl_fP (9, 38, 9, 15) := zgw_of (List.mem_append_right _ (List.mem_append_right _ (List.mem_append_right _ (List.mem_append_left _ (List.mem_of_getElem? (i := 147) (by decide +kernel)))))) rfl
theorem zl_f_r124 : zl_fP (9, 41, 9, 16) := zgw_of (List.mem_append_right _ (List.mem_append_right _ (List.mem_append_right _ (List.mem_append_left _ (List.mem_of_getElem? (i := 148) (by decide +kernel)))))) rfl
theorem zl_f_r125 : zl_fP (9, 44, 9, 18) := zgw_of (List.mem_append_right _ (List.mem_append_right _ (List.mem_append_right _ (List.mem_append_left _ (List.mem_of_getElem? (i := 150) (by decide +kernel)))))) rfl
theorem zl_f_r126 : zl_fP (9, 47, 9, 19) := zgw_of (List.mem_append_right _ (List.mem_append_right _ (List.mem_append_right _ (List.mem_append_left _ (List.mem_of_getElem? (i := 151) (by decide +kernel)))))) rfl
theorem zl_f_r127 : zl_fP (9, 50, 9, 20) := zgw_of (List.mem_append_right _ (List.mem_append_right _ (List.mem_append_right _ (List.mem_append_left _ (List.mem_of_getElem? (i := 152) (by decide +kernel)))))) rfl
theorem zl_f_r128 : zl_fP (9, 53, 9, 21) := zgw_of (List.mem_append_right _ (List.mem_append_right _ (List.mem_append_right _ (List.mem_append_left _ (List.mem_of_getElem? (i := 153) (by decide +kernel)))))) rfl
theorem zl_f_r129 : zl_fP (9, 56, 9, 22) := zgw_of (List.mem_append_right _ (List.mem_append_right _ (List.mem_append_right _ (List.mem_append_left _ (List.mem_of_getElem? (i := 154) (by decide +kernel)))))) rfl
theorem zl_f_r130 : zl_fP (9, 59, 9, 23) := zgw_of (List.mem_append_right _ (List.mem_append_right _ (List.mem_append_right _ (List.mem_append_left _ (List.mem_of_getElem? (i := 155) (by decide +kernel)))))) rfl
theorem zl_f_r131 : zl_fP (9, 62, 9, 27) := zgw_of (List.mem_append_right _ (List.mem_append_right _ (List.mem_append_right _ (List.mem_append_left _ (List.mem_of_getElem? (i := 159) (by decide +kernel)))))) rfl
theorem zl_f_r132 : zl_fP (9, 65, 9, 28) := zgw_of (List.mem_append_right _ (List.mem_append_right _ (List.mem_append_right _ (List.mem_append_left _ (List.mem_of_getElem? (i := 160) (by decide +kernel)))))) rfl
theorem zl_f_r133 : zl_fP (9, 72, 9, 0) := zgw_of (List.mem_append_right _ (List.mem_append_right _ (List.mem_append_right _ (List.mem_append_left _ (List.mem_of_getElem? (i := 132) (by decide +kernel)))))) rfl
theorem zl_f_r134 : zl_fP (9, 82, 9, 2) := zgw_of (List.mem_append_right _ (List.mem_append_right _ (List.mem_append_right _ (List.mem_append_left _ (List.mem_of_getElem? (i := 134) (by decide +kernel)))))) rfl
theorem zl_f_r135 : zl_fP (9, 85, 9, 3) := zgw_of (List.mem_append_right _ (List.mem_append_right _ (List.mem_append_right _ (List.mem_append_left _ (List.mem_of_getElem? (i := 135) (by decide +kernel)))))) rfl
theorem zl_f_r136 : zl_fP (9, 99, 9, 29) := zgw_of (List.mem_append_right _ (List.mem_append_right _ (List.mem_append_right _ (List.mem_append_left _ (List.mem_of_getElem? (i := 161) (by decide +kernel)))))) rfl
theorem zl_f_r137 : zl_fP (9, 102, 9, 30) := zgw_of (List.mem_append_right _ (List.mem_append_right _ (List.mem_append_right _ (List.mem_append_left _ (List.mem_of_getElem? (i := 162) (by decide +kernel)))))) rfl
theorem zl_f_r138 : zl_fP (9, 123, 9, 4) := zgw_of (List.mem_append_right _ (List.mem_append_right _ (List.mem_append_right _ (List.mem_append_left _ (List.mem_of_getElem? (i := 136) (by decide +kernel)))))) rfl
theorem zl_f_r139 : zl_fP (9, 137, 9, 10) := zgw_of (List.mem_append_right _ (List.mem_append_right _ (List.mem_append_right _ (List.mem_append_left _ (List.mem_of_getElem? (i := 142) (by decide +kernel)))))) rfl
theorem zl_f_r140 : zl_fP (9, 225, 9, 31) := zgw_of (List.mem_append_right _ (List.mem_append_right _ (List.mem_append_right _ (List.mem_append_left _ (List.mem_of_getElem? (i := 163) (by decide +kernel)))))) rfl
theorem zl_f_r141 : zl_fP (9, 231, 9, 24) := zgw_of (List.mem_append_right _ (List.mem_append_right _ (List.mem_append_right _ (List.mem_append_left _ (List.mem_of_getElem? (i := 156) (by decide +kernel)))))) rfl
theorem zl_f_r142 : zl_fP (9, 234, 9, 25) := zgw_of (List.mem_append_right _ (List.mem_append_right _ (List.mem_append_right _ (List.mem_append_left _ (List.mem_of_getElem? (i := 157) (by decide +kernel)))))) rfl
theorem zl_f_r143 : zl_fP (9, 237, 9, 26) := zgw_of (List.mem_append_right _ (List.mem_append_right _ (List.mem_append_right _ (List.mem_append_left _ (List.mem_of_getElem? (i := 158) (by decide +kernel)))))) rfl
theorem zl_f_r144 : zl_fP (9, 277, 9, 13) := zgw_of (List.mem_append_right _ (List.mem_append_right _ (List.mem_append_right _ (List.mem_append_left _ (List.mem_of_getElem? (i := 145) (by decide +kernel)))))) rfl
theorem zl_f_r145 : zl_fP (9, 298, 9, 17) := zgw_of (List.mem_append_right _ (List.mem_append_right _ (List.mem_append_right _ (List.mem_append_left _ (List.mem_of_getElem? (i := 149) (by decide +kernel)))))) rfl
set_option maxRecDepth 20000 in
theorem zl_f_ok : ∀ q ∈ zl_f, zl_fP q := List.forall_mem_cons.mpr ⟨zl_f_r0, List.forall_mem_cons.mpr ⟨zl_f_r1, List.forall_mem_cons.mpr ⟨zl_f_r2, List.forall_mem_cons.mpr ⟨zl_f_r3, List.forall_mem_cons.mpr ⟨zl_f_r4, List.forall_mem_cons.mpr ⟨zl_f_r5, List.forall_mem_cons.mpr ⟨zl_f_r6, List.forall_mem_cons.mpr ⟨zl_f_r7, List.forall_mem_cons.mpr ⟨zl_f_r8, List.forall_mem_cons.mpr ⟨zl_f_r9, List.forall_mem_cons.mpr ⟨zl_f_r10, List.forall_mem_cons.mpr ⟨zl_f_r11, List.forall_mem_cons.mpr ⟨zl_f_r12, List.forall_mem_cons.mpr ⟨zl_f_r13, List.forall_mem_cons.mpr ⟨zl_f_r14, List.forall_mem_cons.mpr ⟨zl_f_r15, List.forall_mem_cons.mpr ⟨zl_f_r16, List.forall_mem_cons.mpr ⟨zl_f_r17, List.forall_mem_cons.mpr ⟨zl_f_r18, List.forall_mem_cons.mpr ⟨zl_f_r19, List.forall_mem_cons.mpr ⟨zl_f_r20, List.forall_mem_cons.mpr ⟨zl_f_r21, List.forall_mem_cons.mpr ⟨zl_f_r22, List.forall_mem_cons.mpr ⟨zl_f_r23, List.forall_mem_cons.mpr ⟨zl_f_r24, List.forall_mem_cons.mpr ⟨zl_f_r25, List.forall_mem_cons.mpr ⟨zl_f_r26, List.forall_mem_cons.mpr ⟨zl_f_r27, List.forall_mem_cons.mpr ⟨zl_f_r28, List.forall_mem_cons.mpr ⟨zl_f_r29, List.forall_mem_cons.mpr ⟨zl_f_r30, List.forall_mem_cons.mpr ⟨zl_f_r31, List.forall_mem_cons.mpr ⟨zl_f_r32, List.forall_mem_cons.mpr ⟨zl_f_r33, List.forall_mem_cons.mpr ⟨zl_f_r34, List.forall_mem_cons.mpr ⟨zl_f_r35, List.forall_mem_cons.mpr ⟨zl_f_r36, List.forall_mem_cons.mpr ⟨zl_f_r37, List.forall_mem_cons.mpr ⟨zl_f_r38, List.forall_mem_cons.mpr ⟨zl_f_r39, List.forall_mem_cons.mpr ⟨zl_f_r40, List.forall_mem_cons.mpr ⟨zl_f_r41, List.forall_mem_cons.mpr ⟨zl_f_r42, List.forall_mem_cons.mpr ⟨zl_f_r43, List.forall_mem_cons.mpr ⟨zl_f_r44, List.forall_mem_cons.mpr ⟨zl_f_r45, List.forall_mem_cons.mpr ⟨zl_f_r46, List.forall_mem_cons.mpr ⟨zl_f_r47, List.forall_mem_cons.mpr ⟨zl_f_r48, List.forall_mem_cons.mpr ⟨zl_f_r49, List.forall_mem_cons.mpr ⟨zl_f_r50, List.forall_mem_cons.mpr ⟨zl_f_r51, List.forall_mem_cons.mpr ⟨zl_f_r52, List.forall_mem_cons.mpr ⟨zl_f_r53, List.forall_mem_cons.mpr ⟨zl_f_r54, List.forall_mem_cons.mpr ⟨zl_f_r55, List.forall_mem_cons.mpr ⟨zl_f_r56, List.forall_mem_cons.mpr ⟨zl_f_r57, List.forall_mem_cons.mpr ⟨zl_f_r58, List.forall_mem_cons.mpr ⟨zl_f_r59, List.forall_mem_cons.mpr ⟨zl_f_r60, List.forall_mem_cons.mpr ⟨zl_f_r61, List.forall_mem_cons.mpr ⟨zl_f_r62, List.forall_mem_cons.mpr ⟨zl_f_r63, List.forall_mem_cons.mpr ⟨zl_f_r64, List.forall_mem_cons.mpr ⟨zl_f_r65, List.forall_mem_cons.mpr ⟨zl_f_r66, List.forall_mem_cons.mpr ⟨zl_f_r67, List.forall_mem_cons.mpr ⟨zl_f_r68, List.forall_mem_cons.mpr ⟨zl_f_r69, List.forall_mem_cons.mpr ⟨zl_f_r70, List.forall_mem_cons.mpr ⟨zl_f_r71, List.forall_mem_cons.mpr ⟨zl_f_r72, List.forall_mem_cons.mpr ⟨zl_f_r73, List.forall_mem_cons.mpr ⟨zl_f_r74, List.forall_mem_cons.mpr ⟨zl_f_r75, List.forall_mem_cons.mpr ⟨zl_f_r76, List.forall_mem_cons.mpr ⟨zl_f_r77, List.forall_mem_cons.mpr ⟨zl_f_r78, List.forall_mem_cons.mpr ⟨zl_f_r79, List.forall_mem_cons.mpr ⟨zl_f_r80, List.forall_mem_cons.mpr ⟨zl_f_r81, List.forall_mem_cons.mpr ⟨zl_f_r82, List.forall_mem_cons.mpr ⟨zl_f_r83, List.forall_mem_cons.mpr ⟨zl_f_r84, List.forall_mem_cons.mpr ⟨zl_f_r85, List.forall_mem_cons.mpr ⟨zl_f_r86, List.forall_mem_cons.mpr ⟨zl_f_r87, List.forall_mem_cons.mpr ⟨zl_f_r88, List.forall_mem_cons.mpr ⟨zl_f_r89, List.forall_mem_cons.mpr ⟨zl_f_r90, List.forall_mem_cons.mpr ⟨zl_f_r91, List.forall_mem_cons.mpr ⟨zl_f_r92, List.forall_mem_cons.mpr ⟨zl_f_r93, List.forall_mem_cons.mpr ⟨zl_f_r94, List.forall_mem_cons.mpr ⟨zl_f_r95, List.forall_mem_cons.mpr ⟨zl_f_r96, List.forall_mem_cons.mpr ⟨zl_f_r97, List.forall_mem_cons.mpr ⟨zl_f_r98, List.forall_mem_cons.mpr ⟨zl_f_r99, List.forall_mem_cons.mpr ⟨zl_f_r100, List.forall_mem_cons.mpr ⟨zl_f_r101, List.forall_mem_cons.mpr ⟨zl_f_r102, List.forall_mem_cons.mpr ⟨zl_f_r103, List.forall_mem_cons.mpr ⟨zl_f_r104, List.forall_mem_cons.mpr ⟨zl_f_r105, List.forall_mem_cons.mpr ⟨zl_f_r106, List.forall_mem_cons.mpr ⟨zl_f_r107, List.forall_mem_cons.mpr ⟨zl_f_r108, List.forall_mem_cons.mpr ⟨zl_f_r109, List.forall_mem_cons.mpr ⟨zl_f_r110, List.forall_mem_cons.mpr ⟨zl_f_r111, List.forall_mem_cons.mpr ⟨zl_f_r112, List.forall_mem_cons.mpr ⟨zl_f_r113, List.forall_mem_cons.mpr ⟨zl_f_r114, List.forall_mem_cons.mpr ⟨zl_f_r115, List.forall_mem_cons.mpr ⟨zl_f_r116, List.forall_mem_cons.mpr ⟨zl_f_r117, List.forall_mem_cons.mpr ⟨zl_f_r118, List.forall_mem_cons.mpr ⟨zl_f_r119, List.forall_mem_cons.mpr ⟨zl_f_r120, List.forall_mem_cons.mpr ⟨zl_f_r121, List.forall_mem_cons.mpr ⟨zl_f_r122, List.forall_mem_cons.mpr ⟨zl_f_r123, List.forall_mem_cons.mpr ⟨zl_f_r124, List.forall_mem_cons.mpr ⟨zl_f_r125, List.forall_mem_cons.mpr ⟨zl_f_r126, List.forall_mem_cons.mpr ⟨zl_f_r127, List.forall_mem_cons.mpr ⟨zl_f_r128, List.forall_mem_cons.mpr ⟨zl_f_r129, List.forall_mem_cons.mpr ⟨zl_f_r130, List.forall_mem_cons.mpr ⟨zl_f_r131, List.forall_mem_cons.mpr ⟨zl_f_r132, List.forall_mem_cons.mpr ⟨zl_f_r133, List.forall_mem_cons.mpr ⟨zl_f_r134, List.forall_mem_cons.mpr ⟨zl_f_r135, List.forall_mem_cons.mpr ⟨zl_f_r136, List.forall_mem_cons.mpr ⟨zl_f_r137, List.forall_mem_cons.mpr ⟨zl_f_r138, List.forall_mem_cons.mpr ⟨zl_f_r139, List.forall_mem_cons.mpr ⟨zl_f_r140, List.forall_mem_cons.mpr ⟨zl_f_r141, List.forall_mem_cons.mpr ⟨zl_f_r142, List.forall_mem_cons.mpr ⟨zl_f_r143, List.forall_mem_cons.mpr ⟨zl_f_r144, List.forall_mem_cons.mpr ⟨zl_f_r145, fun _ h => absurd h List.not_mem_nil⟩⟩⟩⟩⟩⟩⟩⟩⟩⟩⟩⟩⟩⟩⟩⟩⟩⟩⟩⟩⟩⟩⟩⟩⟩⟩⟩⟩⟩⟩⟩⟩⟩⟩⟩⟩⟩⟩⟩⟩⟩⟩⟩⟩⟩⟩⟩⟩⟩⟩⟩⟩⟩⟩⟩⟩⟩⟩⟩⟩⟩⟩⟩⟩⟩⟩⟩⟩⟩⟩⟩⟩⟩⟩⟩⟩⟩⟩⟩⟩⟩⟩⟩⟩⟩⟩⟩⟩⟩⟩⟩⟩⟩⟩⟩⟩⟩⟩⟩⟩⟩⟩⟩⟩⟩⟩⟩⟩⟩⟩⟩⟩⟩⟩⟩⟩⟩⟩⟩⟩⟩⟩⟩⟩⟩⟩⟩⟩⟩⟩⟩⟩⟩⟩⟩⟩⟩⟩⟩⟩⟩⟩⟩⟩⟩⟩
def zl_m : List (Nat × Nat × Nat × Nat × Nat × Nat) := [(8, 11, 2, 28, 1, 0), (8, 18, 2, 19, 1, 0), (8, 25, 2, 45, 2, 0), (8, 37, 2, 2, 1, 0), (8, 44, 2, 8, 1, 0), (8, 51, 2, 16, 1, 0), (8, 62, 2, 67, 1, 0), (8, 69, 2, 42, 1, 0), (8, 86, 0, 29, 1, 1), (8, 90, 0, 20, 2, 0), (8, 94, 0, 46, 2, 0), (8, 103, 0, 22, 2, 1), (8, 111, 0, 71, 3, 1), (8, 115, 0, 55, 3, 1), (8, 118, 0, 24, 3, 1), (8, 121, 0, 23, 2, 1), (8, 140, 0, 17, 2, 0), (8, 144, 0, 56, 2, 1), (8, 147, 0, 57, 1, 1), (8, 150, 0, 49, 4, 0), (8, 154, 0, 72, 2, 0), (8, 158, 0, 50, 3, 0), (8, 162, 0, 73, 2, 0), (8, 171, 0, 51, 2, 0), (8, 174, 0, 18, 1, 3), (8, 178, 0, 47, 2, 0), (8, 181, 0, 74, 2, 1), (8, 185, 0, 75, 2, 1), (8, 188, 1, 115, 1, 1), (8, 191, 1, 116, 1, 1), (8, 194, 0, 59, 2, 1), (8, 197, 0, 25, 3, 1), (8, 203, 0, 61, 3, 1), (8, 206, 0, 64, 2, 1), (8, 212, 0, 48, 2, 0), (8, 216, 0, 70, 1, 0), (8, 219, 0, 3, 2, 0), (8, 231, 0, 66, 1, 1), (8, 234, 0, 9, 2, 0), (8, 249, 1, 0, 1, 1), (8, 254, 0, 121, 1, 1), (8, 264, 0, 124, 2, 1), (8, 268, 0, 43, 4, 0), (8, 274, 0, 44, 3, 1), (8, 278, 0, 79, 1, 1), (8, 281, 0, 122, 3, 1), (8, 284, 1, 118, 1, 1), (8, 287, 1, 120, 3, 1), (8, 291, 0, 123, 3, 1), (8, 298, 0, 76, 2, 1), (8, 301, 0, 68, 2, 0), (8, 303, 0, 77, 1, 1), (8, 306, 0, 27, 1, 1), (8, 309, 0, 78, 1, 1), (8, 320, 1, 119, 2, 1), (8, 323, 0, 125, 3, 1), (8, 327, 0, 126, 3, 1), (8, 330, 1, 127, 2, 1), (8, 333, 0, 4, 2, 0), (0, 25, 0, 5, 3, 0), (0, 29, 0, 57, 1, 1), (0, 35, 0, 6, 2, 1), (0, 54, 0, 7, 3, 1), (1, 48, 0, 10, 3, 1), (1, 52, 0, 66, 1, 1), (1, 56, 0, 13, 2, 0), (1, 60, 0, 14, 2, 1), (1, 68, 0, 70, 1, 0), (1, 73, 0, 11, 2, 0), (1, 77, 0, 56, 2, 1), (1, 80, 0, 12, 2, 1), (1, 93, 0, 15, 3, 0), (2, 17, 2, 67, 1, 0), (2, 22, 0, 68, 2, 0), (3, 51, 0, 21, 2, 0), (3, 55, 0, 24, 3, 1), (4, 47, 1, 1, 2, 0), (4, 53, 0, 30, 1, 1), (4, 60, 0, 31, 1, 1), (4, 63, 0, 40, 1, 1), (4, 67, 0, 41, 3, 1), (4, 71, 0, 32, 1, 1), (4, 74, 0, 33, 3, 1), (4, 78, 0, 34, 1, 1), (4, 81, 0, 35, 2, 1), (4, 85, 1, 36, 4, 0), (4, 89, 0, 37, 2, 1), (4, 93, 0, 38, 3, 1), (4, 97, 1, 39, 3, 1), (5, 31, 0, 22, 2, 1), (5, 41, 0, 76, 2, 1), (6, 11, 2, 67, 1, 0), (6, 41, 0, 53, 1, 0), (6, 44, 0, 52, 1, 0), (6, 47, 0, 69, 2, 0), (6, 51, 0, 68, 2, 0), (6, 71, 1, 1, 2, 0), (6, 83, 0, 54, 1, 0), (6, 94, 0, 55, 3, 1), (6, 97, 0, 22, 2, 1), (6, 104, 0, 58, 2, 1), (6, 111, 0, 59, 2, 1), (6, 114, 0, 61, 3, 1), (6, 126, 1, 117, 3, 1), (6, 130, 0, 25, 3, 1), (6, 133, 0, 60, 5, 1), (6, 137, 1, 0, 1, 1), (6, 142, 0, 62, 3, 1), (6, 148, 1, 63, 2, 1), (6, 152, 0, 26, 2, 1), (6, 155, 0, 76, 2, 1), (6, 161, 0, 65, 3, 1), (6, 164, 0, 71, 3, 1), (7, 41, 0, 70, 1, 0), (7, 47, 1, 1, 2, 0), (7, 53, 0, 74, 2, 1), (7, 57, 1, 115, 1, 1), (7, 60, 0, 76, 2, 1), (10, 9, 2, 80, 1, 0), (10, 12, 2, 128, 1, 0), (10, 13, 0, 81, 2, 1), (10, 17, 0, 138, 2, 1), (10, 18, 0, 82, 1, 1), (10, 22, 0, 139, 1, 1), (10, 23, 0, 83, 1, 1), (10, 26, 0, 149, 1, 1), (10, 27, 0, 84, 1, 1), (10, 30, 0, 150, 1, 1), (10, 31, 0, 85, 4, 1), (10, 35, 0, 152, 4, 1), (10, 36, 0, 86, 3, 1), (10, 40, 0, 153, 3, 1), (10, 41, 0, 87, 3, 1), (10, 44, 0, 155, 3, 1), (10, 45, 0, 88, 2, 1), (10, 48, 0, 171, 2, 1), (10, 49, 0, 89, 1, 1), (10, 52, 0, 172, 1, 1), (10, 53, 0, 90, 4, 1), (10, 56, 0, 173, 4, 1), (10, 57, 0, 91, 2, 1), (10, 60, 0, 174, 2, 1), (10, 61, 0, 92, 3, 1), (10, 64, 0, 175, 3, 1), (10, 65, 0, 93, 2, 1), (10, 68, 0, 177, 2, 1), (10, 69, 0, 94, 2, 1), (10, 72, 0, 178, 2, 1), (10, 73, 0, 95, 1, 1), (10, 76, 0, 179, 1, 1), (10, 77, 0, 96, 4, 1), (10, 80, 0, 180, 4, 1), (10, 81, 0, 97, 2, 1), (10, 84, 0, 181, 2, 1), (10, 85, 0, 98, 3, 1), (10, 88, 0, 182, 3, 1), (10, 89, 0, 99, 2, 1), (10, 92, 0, 183, 2, 1), (10, 93, 0, 100, 3, 1), (10, 96, 0, 185, 3, 1), (10, 97, 0, 101, 3, 1), (10, 100, 0, 191, 3, 1), (10, 101, 0, 102, 2, 1), (10, 104, 0, 194, 2, 1), (10, 105, 0, 103, 2, 1), (10, 108, 0, 195, 2, 1), (10, 111, 0, 104, 3, 1), (10, 115, 0, 199, 3, 1), (10, 116, 0, 105, 4, 1), (10, 119, 0, 200, 4, 1), (10, 120, 0, 106, 1, 1), (10, 123, 0, 201, 1, 1), (10, 124, 0, 107, 1, 1), (10, 127, 0, 203, 1, 1), (10, 128, 0, 108, 3, 1), (10, 132, 0, 208, 3, 1), (10, 133, 0, 109, 3, 1), (10, 136, 0, 209, 3, 1), (10, 137, 0, 110, 2, 2), (10, 141, 0, 210, 2, 2), (10, 142, 0, 111, 2, 1), (10, 145, 0, 211, 2, 1), (10, 146, 0, 112, 2, 1), (10, 149, 0, 212, 2, 1), (10, 150, 0, 113, 2, 1), (10, 153, 0, 213, 2, 1), (10, 154, 0, 114, 2, 1), (10, 157, 0, 216, 2, 1), (9, 68, 1, 133, 1, 0), (9, 76, 1, 129, 3, 1), (9, 88, 1, 137, 3, 1), (9, 92, 0, 141, 3, 1), (9, 96, 0, 140, 3, 1), (9, 105, 0, 143, 2, 1), (9, 109, 0, 142, 2, 1), (9, 112, 0, 144, 1, 1), (9, 116, 0, 146, 1, 1), (9, 119, 0, 145, 2, 1), (9, 126, 0, 147, 1, 1), (9, 129, 0, 148, 1, 1), (9, 133, 1, 134, 2, 0), (9, 140, 0, 135, 2, 1), (9, 143, 0, 151, 2, 0), (9, 146, 0, 136, 2, 1), (9, 151, 1, 154, 3, 1), (9, 155, 1, 156, 2, 1), (9, 158, 1, 131, 1, 1), (9, 162, 1, 130, 2, 1), (9, 166, 0, 158, 4, 0), (9, 170, 1, 157, 4, 1), (9, 174, 0, 160, 5, 1), (9, 178, 0, 161, 5, 1), (9, 181, 0, 162, 3, 1), (9, 185, 0, 159, 3, 0), (9, 189, 0, 164, 1, 1), (9, 192, 0, 163, 4, 1), (9, 195, 0, 165, 3, 0), (9, 199, 0, 166, 3, 0), (9, 202, 0, 167, 3, 1), (9, 206, 0, 170, 1, 0), (9, 209, 0, 168, 3, 1), (9, 212, 0, 169, 2, 1), (9, 220, 1, 176, 2, 0), (9, 228, 0, 184, 3, 1), (9, 240, 0, 186, 3, 0), (9, 243, 0, 187, 3, 1), (9, 246, 0, 188, 2, 0), (9, 251, 1, 189, 1, 1), (9, 254, 1, 132, 2, 1), (9, 257, 0, 193, 2, 1), (9, 260, 0, 192, 2, 1), (9, 263, 0, 190, 3, 1), (9, 265, 0, 197, 1, 1), (9, 270, 1, 196, 2, 2), (9, 274, 0, 198, 2, 1), (9, 280, 0, 202, 2, 1), (9, 283, 1, 204, 2, 1), (9, 286, 0, 207, 2, 1), (9, 289, 1, 206, 1, 1), (9, 292, 1, 205, 3, 1), (9, 308, 0, 214, 2, 1), (9, 311, 0, 215, 1, 1)]
def zl_mP (q : Nat × Nat × Nat × Nat × Nat × Nat) : Prop := ∀ mt, zv_ms q.2.2.2.1 = some mt → mt.2.2.2.2.2.2.2.1 = q.2.2.1 ∧ mt.2.2.2.2.1 = q.2.2.2.2.1 ∧ mt.2.2.2.2.2.1 = q.2.2.2.2.2 ∧ (Cond.methodLink (zn_own q.1) q.2.1 mt.1 ∈ zgw ∨ (q.2.2.1 ≠ 0 ∧ ∃ host, Cond.methodLinkNest (zn_own q.1) q.2.1 mt.1 host ∈ znw))
theorem zl_m_r0 : zl_mP (8, 11, 2, 28, 1, 0) := fun mt h => (show some zm_X4_init = some mt from h) |> Option.some.inj |> fun e => e ▸ ⟨rfl, rfl, rfl, Or.inr ⟨by decide, "HiddenExits", List.mem_filter.mpr ⟨List.mem_append_left _ (List.mem_of_getElem? (i := 25) (by decide +kernel)), rfl⟩⟩⟩
theorem zl_m_r1 : zl_mP (8, 18, 2, 19, 1, 0) := fun mt h => (show some zm_X3_init = some mt from h) |> Option.some.inj |> fun e => e ▸ ⟨rfl, rfl, rfl, Or.inr ⟨by decide, "HiddenExits", List.mem_filter.mpr ⟨List.mem_append_left _ (List.mem_of_getElem? (i := 82) (by decide +kernel)), rfl⟩⟩⟩
theorem zl_m_r2 : zl_mP (8, 25, 2, 45, 2, 0) := fun mt h => (show some zm_X6_init = some mt from h) |> Option.some.inj |> fun e => e ▸ ⟨rfl, rfl, rfl, Or.inl (zgw_of (List.mem_append_left _ (List.mem_of_getElem? (i := 124) (by decide +kernel))) rfl)⟩
theorem zl_m_r3 : zl_mP (8, 37, 2, 2, 1, 0) := fun mt h => (show some zm_X0_init = some mt from h) |> Option.some.inj |> fun e => e ▸ ⟨rfl, rfl, rfl, Or.inr ⟨by decide, "HiddenExits", List.mem_filter.mpr ⟨List.mem_append_left _ (List.mem_of_getElem? (i := 225) (by decide +kernel)), rfl⟩⟩⟩
theorem zl_m_r4 : zl_mP (8, 44, 2, 8, 1, 0) := fun mt h => (show some zm_X1_init = some mt from h) |> Option.some.inj |> fun e => e ▸ ⟨rfl, rfl, rfl, Or.inr ⟨by decide, "HiddenExits", List.mem_filter.mpr ⟨List.mem_append_right _ (List.mem_append_left _ (List.mem_of_getElem? (i := 7) (by decide +kernel))), rfl⟩⟩⟩
theorem zl_m_r5 : zl_mP (8, 51, 2, 16, 1, 0) := fun mt h => (show some zm_X2_init = some mt from h) |> Option.some.inj |> fun e => e ▸ ⟨rfl, rfl, rfl, Or.inl (zgw_of (List.mem_append_right _ (List.mem_append_left _ (List.mem_of_getElem? (i := 35) (by decide +kernel)))) rfl)⟩
theorem zl_m_r6 : zl_mP (8, 62, 2, 67, 1, 0) := fun mt h => (show some zm_X7_init = some mt from h) |> Option.some.inj |> fun e => e ▸ ⟨rfl, rfl, rfl, Or.inr ⟨by decide, "HiddenExits", List.mem_filter.mpr ⟨List.mem_append_right _ (List.mem_append_left _ (List.mem_of_getElem? (i := 54) (by decide +kernel))), rfl⟩⟩⟩
theorem zl_m_r7 : zl_mP (8, 69, 2, 42, 1, 0) := fun mt h => (show some zm_X5_init = some mt from h) |> Option.some.inj |> fun e => e ▸ ⟨rfl, rfl, rfl, Or.inr ⟨by decide, "HiddenExits", List.mem_filter.mpr ⟨List.mem_append_right _ (List.mem_append_left _ (List.mem_of_getElem? (i := 57) (by decide +kernel))), rfl⟩⟩⟩
theorem zl_m_r8 : zl_mP (8, 86, 0, 29, 1, 1) := fun mt h => (show some zm_X4_scan = some mt from h) |> Option.some.inj |> fun e => e ▸ ⟨rfl, rfl, rfl, Or.inl (zgw_of (List.mem_append_right _ (List.mem_append_left _ (List.mem_of_getElem? (i := 122) (by decide +kernel)))) rfl)⟩
theorem zl_m_r9 : zl_mP (8, 90, 0, 20, 2, 0) := fun mt h => (show some zm_X3_read = some mt from h) |> Option.some.inj |> fun e => e ▸ ⟨rfl, rfl, rfl, Or.inl (zgw_of (List.mem_append_right _ (List.mem_append_left _ (List.mem_of_getElem? (i := 177) (by decide +kernel)))) rfl)⟩
theorem zl_m_r10 : zl_mP (8, 94, 0, 46, 2, 0) := fun mt h => (show some zm_X6_begin = some mt from h) |> Option.some.inj |> fun e => e ▸ ⟨rfl, rfl, rfl, Or.inl (zgw_of (List.mem_append_right _ (List.mem_append_left _ (List.mem_of_getElem? (i := 192) (by decide +kernel)))) rfl)⟩
theorem zl_m_r11 : zl_mP (8, 103, 0, 22, 2, 1) := fun mt h => (show some zm_X3_hasRouter = some mt from h) |> Option.some.inj |> fun e => e ▸ ⟨rfl, rfl, rfl, Or.inl (zgw_of (List.mem_append_right _ (List.mem_append_left _ (List.mem_of_getElem? (i := 210) (by decide +kernel)))) rfl)⟩
theorem zl_m_r12 : zl_mP (8, 111, 0, 71, 3, 1) := fun mt h => (show some zm_X7_costOf = some mt from h) |> Option.some.inj |> fun e => e ▸ ⟨rfl, rfl, rfl, Or.inl (zgw_of (List.mem_append_right _ (List.mem_append_left _ (List.mem_of_getElem? (i := 214) (by decide +kernel)))) rfl)⟩
theorem zl_m_r13 : zl_mP (8, 115, 0, 55, 3, 1) := fun mt h => (show some zm_X6_distance = some mt from h) |> Option.some.inj |> fun e => e ▸ ⟨rfl, rfl, rfl, Or.inl (zgw_of (List.mem_append_right _ (List.mem_append_left _ (List.mem_of_getElem? (i := 218) (by decide +kernel)))) rfl)⟩
theorem zl_m_r14 : zl_mP (8, 118, 0, 24, 3, 1) := fun mt h => (show some zm_X3_sessionOf = some mt from h) |> Option.some.inj |> fun e => e ▸ ⟨rfl, rfl, rfl, Or.inl (zgw_of (List.mem_append_right _ (List.mem_append_left _ (List.mem_of_getElem? (i := 223) (by decide +kernel)))) rfl)⟩
theorem zl_m_r15 : zl_mP (8, 121, 0, 23, 2, 1) := fun mt h => (show some zm_X3_hasExit = some mt from h) |> Option.some.inj |> fun e => e ▸ ⟨rfl, rfl, rfl, Or.inl (zgw_of (List.mem_append_right _ (List.mem_append_left _ (List.mem_of_getElem? (i := 228) (by decide +kernel)))) rfl)⟩
theorem zl_m_r16 : zl_mP (8, 140, 0, 17, 2, 0) := fun mt h => (show some zm_X2_save = some mt from h) |> Option.some.inj |> fun e => e ▸ ⟨rfl, rfl, rfl, Or.inl (zgw_of (List.mem_append_right _ (List.mem_append_left _ (List.mem_of_getElem? (i := 236) (by decide +kernel)))) rfl)⟩
theorem zl_m_r17 : zl_mP (8, 144, 0, 56, 2, 1) := fun mt h => (show some zm_X6_stepOne = some mt from h) |> Option.some.inj |> fun e => e ▸ ⟨rfl, rfl, rfl, Or.inl (zgw_of (List.mem_append_right _ (List.mem_append_right _ (List.mem_append_left _ (List.mem_of_getElem? (i := 5) (by decide +kernel))))) rfl)⟩
theorem zl_m_r18 : zl_mP (8, 147, 0, 57, 1, 1) := fun mt h => (show some zm_X6_stepAll = some mt from h) |> Option.some.inj |> fun e => e ▸ ⟨rfl, rfl, rfl, Or.inl (zgw_of (List.mem_append_right _ (List.mem_append_right _ (List.mem_append_left _ (List.mem_of_getElem? (i := 54) (by decide +kernel))))) rfl)⟩
theorem zl_m_r19 : zl_mP (8, 150, 0, 49, 4, 0) := fun mt h => (show some zm_X6_changeCost = some mt from h) |> Option.some.inj |> fun e => e ▸ ⟨rfl, rfl, rfl, Or.inl (zgw_of (List.mem_append_right _ (List.mem_append_right _ (List.mem_append_left _ (List.mem_of_getElem? (i := 63) (by decide +kernel))))) rfl)⟩
theorem zl_m_r20 : zl_mP (8, 154, 0, 72, 2, 0) := fun mt h => (show some zm_X7_flip = some mt from h) |> Option.some.inj |> fun e => e ▸ ⟨rfl, rfl, rfl, Or.inl (zgw_of (List.mem_append_right _ (List.mem_append_right _ (List.mem_append_left _ (List.mem_of_getElem? (i := 71) (by decide +kernel))))) rfl)⟩
theorem zl_m_r21 : zl_mP (8, 158, 0, 50, 3, 0) := fun mt h => (show some zm_X6_changeWeight = some mt from h) |> Option.some.inj |> fun e => e ▸ ⟨rfl, rfl, rfl, Or.inl (zgw_of (List.mem_append_right _ (List.mem_append_right _ (List.mem_append_left _ (List.mem_of_getElem? (i := 79) (by decide +kernel))))) rfl)⟩
theorem zl_m_r22 : zl_mP (8, 162, 0, 73, 2, 0) := fun mt h => (show some zm_X7_extend = some mt from h) |> Option.some.inj |> fun e => e ▸ ⟨rfl, rfl, rfl, Or.inl (zgw_of (List.mem_append_right _ (List.mem_append_right _ (List.mem_append_left _ (List.mem_of_getElem? (i := 87) (by decide +kernel))))) rfl)⟩
theorem zl_m_r23 : zl_mP (8, 171, 0, 51, 2, 0) := fun mt h => (show some zm_X6_changeMode = some mt from h) |> Option.some.inj |> fun e => e ▸ ⟨rfl, rfl, rfl, Or.inl (zgw_of (List.mem_append_right _ (List.mem_append_right _ (List.mem_append_left _ (List.mem_of_getElem? (i := 95) (by decide +kernel))))) rfl)⟩
theorem zl_m_r24 : zl_mP (8, 174, 0, 18, 1, 3) := fun mt h => (show some zm_X2_latest = some mt from h) |> Option.some.inj |> fun e => e ▸ ⟨rfl, rfl, rfl, Or.inl (zgw_of (List.mem_append_right _ (List.mem_append_right _ (List.mem_append_left _ (List.mem_of_getElem? (i := 103) (by decide +kernel))))) rfl)⟩
theorem zl_m_r25 : zl_mP (8, 178, 0, 47, 2, 0) := fun mt h => (show some zm_X6_restore = some mt from h) |> Option.some.inj |> fun e => e ▸ ⟨rfl, rfl, rfl, Or.inl (zgw_of (List.mem_append_right _ (List.mem_append_right _ (List.mem_append_left _ (List.mem_of_getElem? (i := 110) (by decide +kernel))))) rfl)⟩
theorem zl_m_r26 : zl_mP (8, 181, 0, 74, 2, 1) := fun mt h => (show some zm_X7_firstRoute = some mt from h) |> Option.some.inj |> fun e => e ▸ ⟨rfl, rfl, rfl, Or.inl (zgw_of (List.mem_append_right _ (List.mem_append_right _ (List.mem_append_left _ (List.mem_of_getElem? (i := 119) (by decide +kernel))))) rfl)⟩
theorem zl_m_r27 : zl_mP (8, 185, 0, 75, 2, 1) := fun mt h => (show some zm_X7_secondRoute = some mt from h) |> Option.some.inj |> fun e => e ▸ ⟨rfl, rfl, rfl, Or.inl (zgw_of (List.mem_append_right _ (List.mem_append_right _ (List.mem_append_left _ (List.mem_of_getElem? (i := 123) (by decide +kernel))))) rfl)⟩
theorem zl_m_r28 : zl_mP (8, 188, 1, 115, 1, 1) := fun mt h => (show some zm_X8_exitOf = some mt from h) |> Option.some.inj |> fun e => e ▸ ⟨rfl, rfl, rfl, Or.inl (zgw_of (List.mem_append_right _ (List.mem_append_right _ (List.mem_append_left _ (List.mem_of_getElem? (i := 127) (by decide +kernel))))) rfl)⟩
theorem zl_m_r29 : zl_mP (8, 191, 1, 116, 1, 1) := fun mt h => (show some zm_X8_fromOf = some mt from h) |> Option.some.inj |> fun e => e ▸ ⟨rfl, rfl, rfl, Or.inl (zgw_of (List.mem_append_right _ (List.mem_append_right _ (List.mem_append_left _ (List.mem_of_getElem? (i := 130) (by decide +kernel))))) rfl)⟩
theorem zl_m_r30 : zl_mP (8, 194, 0, 59, 2, 1) := fun mt h => (show some zm_X6_listen = some mt from h) |> Option.some.inj |> fun e => e ▸ ⟨rfl, rfl, rfl, Or.inl (zgw_of (List.mem_append_right _ (List.mem_append_right _ (List.mem_append_left _ (List.mem_of_getElem? (i := 137) (by decide +kernel))))) rfl)⟩
theorem zl_m_r31 : zl_mP (8, 197, 0, 25, 3, 1) := fun mt h => (show some zm_X3_toldBy = some mt from h) |> Option.some.inj |> fun e => e ▸ ⟨rfl, rfl, rfl, Or.inl (zgw_of (List.mem_append_right _ (List.mem_append_right _ (List.mem_append_left _ (List.mem_of_getElem? (i := 142) (by decide +kernel))))) rfl)⟩
theorem zl_m_r32 : zl_mP (8, 203, 0, 61, 3, 1) := fun mt h => (show some zm_X6_pick = some mt from h) |> Option.some.inj |> fun e => e ▸ ⟨rfl, rfl, rfl, Or.inl (zgw_of (List.mem_append_right _ (List.mem_append_right _ (List.mem_append_left _ (List.mem_of_getElem? (i := 147) (by decide +kernel))))) rfl)⟩
theorem zl_m_r33 : zl_mP (8, 206, 0, 64, 2, 1) := fun mt h => (show some zm_X6_send = some mt from h) |> Option.some.inj |> fun e => e ▸ ⟨rfl, rfl, rfl, Or.inl (zgw_of (List.mem_append_right _ (List.mem_append_right _ (List.mem_append_left _ (List.mem_of_getElem? (i := 152) (by decide +kernel))))) rfl)⟩
theorem zl_m_r34 : zl_mP (8, 212, 0, 48, 2, 0) := fun mt h => (show some zm_X6_copyFrom = some mt from h) |> Option.some.inj |> fun e => e ▸ ⟨rfl, rfl, rfl, Or.inl (zgw_of (List.mem_append_right _ (List.mem_append_right _ (List.mem_append_left _ (List.mem_of_getElem? (i := 171) (by decide +kernel))))) rfl)⟩
theorem zl_m_r35 : zl_mP (8, 216, 0, 70, 1, 0) := fun mt h => (show some zm_X7_forgetChoices = some mt from h) |> Option.some.inj |> fun e => e ▸ ⟨rfl, rfl, rfl, Or.inl (zgw_of (List.mem_append_right _ (List.mem_append_right _ (List.mem_append_left _ (List.mem_of_getElem? (i := 175) (by decide +kernel))))) rfl)⟩
theorem zl_m_r36 : zl_mP (8, 219, 0, 3, 2, 0) := fun mt h => (show some zm_X0_follow = some mt from h) |> Option.some.inj |> fun e => e ▸ ⟨rfl, rfl, rfl, Or.inl (zgw_of (List.mem_append_right _ (List.mem_append_right _ (List.mem_append_left _ (List.mem_of_getElem? (i := 176) (by decide +kernel))))) rfl)⟩
theorem zl_m_r37 : zl_mP (8, 231, 0, 66, 1, 1) := fun mt h => (show some zm_X6_restNumber = some mt from h) |> Option.some.inj |> fun e => e ▸ ⟨rfl, rfl, rfl, Or.inl (zgw_of (List.mem_append_right _ (List.mem_append_right _ (List.mem_append_left _ (List.mem_of_getElem? (i := 194) (by decide +kernel))))) rfl)⟩
theorem zl_m_r38 : zl_mP (8, 234, 0, 9, 2, 0) := fun mt h => (show some zm_X1_tryAll = some mt from h) |> Option.some.inj |> fun e => e ▸ ⟨rfl, rfl, rfl, Or.inl (zgw_of (List.mem_append_right _ (List.mem_append_right _ (List.mem_append_left _ (List.mem_of_getElem? (i := 202) (by decide +kernel))))) rfl)⟩
theorem zl_m_r39 : zl_mP (8, 249, 1, 0, 1, 1) := fun mt h => (show some zm_J_bitCount = some mt from h) |> Option.some.inj |> fun e => e ▸ ⟨rfl, rfl, rfl, Or.inl (zgw_of (List.mem_append_right _ (List.mem_append_right _ (List.mem_append_left _ (List.mem_of_getElem? (i := 239) (by decide +kernel))))) rfl)⟩
theorem zl_m_r40 : zl_mP (8, 254, 0, 121, 1, 1) := fun mt h => (show some zm_X8_restsAnew = some mt from h) |> Option.some.inj |> fun e => e ▸ ⟨rfl, rfl, rfl, Or.inl (zgw_of (List.mem_append_right _ (List.mem_append_right _ (List.mem_append_right _ (List.mem_append_left _ (List.mem_of_getElem? (i := 0) (by decide +kernel)))))) rfl)⟩
theorem zl_m_r41 : zl_mP (8, 264, 0, 124, 2, 1) := fun mt h => (show some zm_X8_holds = some mt from h) |> Option.some.inj |> fun e => e ▸ ⟨rfl, rfl, rfl, Or.inl (zgw_of (List.mem_append_right _ (List.mem_append_right _ (List.mem_append_right _ (List.mem_append_left _ (List.mem_of_getElem? (i := 11) (by decide +kernel)))))) rfl)⟩
theorem zl_m_r42 : zl_mP (8, 268, 0, 43, 4, 0) := fun mt h => (show some zm_X5_note = some mt from h) |> Option.some.inj |> fun e => e ▸ ⟨rfl, rfl, rfl, Or.inl (zgw_of (List.mem_append_right _ (List.mem_append_right _ (List.mem_append_right _ (List.mem_append_left _ (List.mem_of_getElem? (i := 35) (by decide +kernel)))))) rfl)⟩
theorem zl_m_r43 : zl_mP (8, 274, 0, 44, 3, 1) := fun mt h => (show some zm_X5_agree = some mt from h) |> Option.some.inj |> fun e => e ▸ ⟨rfl, rfl, rfl, Or.inl (zgw_of (List.mem_append_right _ (List.mem_append_right _ (List.mem_append_right _ (List.mem_append_left _ (List.mem_of_getElem? (i := 47) (by decide +kernel)))))) rfl)⟩
theorem zl_m_r44 : zl_mP (8, 278, 0, 79, 1, 1) := fun mt h => (show some zm_X7_chosenExits = some mt from h) |> Option.some.inj |> fun e => e ▸ ⟨rfl, rfl, rfl, Or.inl (zgw_of (List.mem_append_right _ (List.mem_append_right _ (List.mem_append_right _ (List.mem_append_left _ (List.mem_of_getElem? (i := 57) (by decide +kernel)))))) rfl)⟩
theorem zl_m_r45 : zl_mP (8, 281, 0, 122, 3, 1) := fun mt h => (show some zm_X8_gainFactor = some mt from h) |> Option.some.inj |> fun e => e ▸ ⟨rfl, rfl, rfl, Or.inl (zgw_of (List.mem_append_right _ (List.mem_append_right _ (List.mem_append_right _ (List.mem_append_left _ (List.mem_of_getElem? (i := 62) (by decide +kernel)))))) rfl)⟩
theorem zl_m_r46 : zl_mP (8, 284, 1, 118, 1, 1) := fun mt h => (show some zm_X8_factorial = some mt from h) |> Option.some.inj |> fun e => e ▸ ⟨rfl, rfl, rfl, Or.inl (zgw_of (List.mem_append_right _ (List.mem_append_right _ (List.mem_append_right _ (List.mem_append_left _ (List.mem_of_getElem? (i := 66) (by decide +kernel)))))) rfl)⟩
theorem zl_m_r47 : zl_mP (8, 287, 1, 120, 3, 1) := fun mt h => (show some zm_X8_part = some mt from h) |> Option.some.inj |> fun e => e ▸ ⟨rfl, rfl, rfl, Or.inl (zgw_of (List.mem_append_right _ (List.mem_append_right _ (List.mem_append_right _ (List.mem_append_left _ (List.mem_of_getElem? (i := 71) (by decide +kernel)))))) rfl)⟩
theorem zl_m_r48 : zl_mP (8, 291, 0, 123, 3, 1) := fun mt h => (show some zm_X8_chanceOf = some mt from h) |> Option.some.inj |> fun e => e ▸ ⟨rfl, rfl, rfl, Or.inl (zgw_of (List.mem_append_right _ (List.mem_append_right _ (List.mem_append_right _ (List.mem_append_left _ (List.mem_of_getElem? (i := 84) (by decide +kernel)))))) rfl)⟩
theorem zl_m_r49 : zl_mP (8, 298, 0, 76, 2, 1) := fun mt h => (show some zm_X7_firstExit = some mt from h) |> Option.some.inj |> fun e => e ▸ ⟨rfl, rfl, rfl, Or.inl (zgw_of (List.mem_append_right _ (List.mem_append_right _ (List.mem_append_right _ (List.mem_append_left _ (List.mem_of_getElem? (i := 23) (by decide +kernel)))))) rfl)⟩
theorem zl_m_r50 : zl_mP (8, 301, 0, 68, 2, 0) := fun mt h => (show some zm_X7_copyFrom = some mt from h) |> Option.some.inj |> fun e => e ▸ ⟨rfl, rfl, rfl, Or.inl (zgw_of (List.mem_append_right _ (List.mem_append_right _ (List.mem_append_right _ (List.mem_append_left _ (List.mem_of_getElem? (i := 102) (by decide +kernel)))))) rfl)⟩
theorem zl_m_r51 : zl_mP (8, 303, 0, 77, 1, 1) := fun mt h => (show some zm_X7_linkCount = some mt from h) |> Option.some.inj |> fun e => e ▸ ⟨rfl, rfl, rfl, Or.inl (zgw_of (List.mem_append_right _ (List.mem_append_right _ (List.mem_append_right _ (List.mem_append_left _ (List.mem_of_getElem? (i := 111) (by decide +kernel)))))) rfl)⟩
theorem zl_m_r52 : zl_mP (8, 306, 0, 27, 1, 1) := fun mt h => (show some zm_X3_sessionCount = some mt from h) |> Option.some.inj |> fun e => e ▸ ⟨rfl, rfl, rfl, Or.inl (zgw_of (List.mem_append_right _ (List.mem_append_right _ (List.mem_append_right _ (List.mem_append_left _ (List.mem_of_getElem? (i := 115) (by decide +kernel)))))) rfl)⟩
theorem zl_m_r53 : zl_mP (8, 309, 0, 78, 1, 1) := fun mt h => (show some zm_X7_chosenSet = some mt from h) |> Option.some.inj |> fun e => e ▸ ⟨rfl, rfl, rfl, Or.inl (zgw_of (List.mem_append_right _ (List.mem_append_right _ (List.mem_append_right _ (List.mem_append_left _ (List.mem_of_getElem? (i := 119) (by decide +kernel)))))) rfl)⟩
theorem zl_m_r54 : zl_mP (8, 320, 1, 119, 2, 1) := fun mt h => (show some zm_X8_commonDivisor = some mt from h) |> Option.some.inj |> fun e => e ▸ ⟨rfl, rfl, rfl, Or.inl (zgw_of (List.mem_append_right _ (List.mem_append_right _ (List.mem_append_right _ (List.mem_append_left _ (List.mem_of_getElem? (i := 77) (by decide +kernel)))))) rfl)⟩
theorem zl_m_r55 : zl_mP (8, 323, 0, 125, 3, 1) := fun mt h => (show some zm_X8_happens = some mt from h) |> Option.some.inj |> fun e => e ▸ ⟨rfl, rfl, rfl, Or.inl (zgw_of (List.mem_append_right _ (List.mem_append_right _ (List.mem_append_right _ (List.mem_append_left _ (List.mem_of_getElem? (i := 15) (by decide +kernel)))))) rfl)⟩
theorem zl_m_r56 : zl_mP (8, 327, 0, 126, 3, 1) := fun mt h => (show some zm_X8_canBeAnswer = some mt from h) |> Option.some.inj |> fun e => e ▸ ⟨rfl, rfl, rfl, Or.inl (zgw_of (List.mem_append_right _ (List.mem_append_right _ (List.mem_append_right _ (List.mem_append_left _ (List.mem_of_getElem? (i := 19) (by decide +kernel)))))) rfl)⟩
theorem zl_m_r57 : zl_mP (8, 330, 1, 127, 2, 1) := fun mt h => (show some zm_X8_isExit = some mt from h) |> Option.some.inj |> fun e => e ▸ ⟨rfl, rfl, rfl, Or.inl (zgw_of (List.mem_append_right _ (List.mem_append_right _ (List.mem_append_right _ (List.mem_append_left _ (List.mem_of_getElem? (i := 24) (by decide +kernel)))))) rfl)⟩
theorem zl_m_r58 : zl_mP (8, 333, 0, 4, 2, 0) := fun mt h => (show some zm_X0_takeBack = some mt from h) |> Option.some.inj |> fun e => e ▸ ⟨rfl, rfl, rfl, Or.inl (zgw_of (List.mem_append_right _ (List.mem_append_right _ (List.mem_append_right _ (List.mem_append_left _ (List.mem_of_getElem? (i := 27) (by decide +kernel)))))) rfl)⟩
theorem zl_m_r59 : zl_mP (0, 25, 0, 5, 3, 0) := fun mt h => (show some zm_X0_record = some mt from h) |> Option.some.inj |> fun e => e ▸ ⟨rfl, rfl, rfl, Or.inl (zgw_of (List.mem_append_right _ (List.mem_append_right _ (List.mem_append_left _ (List.mem_of_getElem? (i := 180) (by decide +kernel))))) rfl)⟩
theorem zl_m_r60 : zl_mP (0, 29, 0, 57, 1, 1) := fun mt h => (show some zm_X6_stepAll = some mt from h) |> Option.some.inj |> fun e => e ▸ ⟨rfl, rfl, rfl, Or.inl (zgw_of (List.mem_append_right _ (List.mem_append_right _ (List.mem_append_left _ (List.mem_of_getElem? (i := 185) (by decide +kernel))))) rfl)⟩
theorem zl_m_r61 : zl_mP (0, 35, 0, 6, 2, 1) := fun mt h => (show some zm_X0_earlier = some mt from h) |> Option.some.inj |> fun e => e ▸ ⟨rfl, rfl, rfl, Or.inl (zgw_of (List.mem_append_right _ (List.mem_append_right _ (List.mem_append_left _ (List.mem_of_getElem? (i := 186) (by decide +kernel))))) rfl)⟩
theorem zl_m_r62 : zl_mP (0, 54, 0, 7, 3, 1) := fun mt h => (show some zm_X0_alike = some mt from h) |> Option.some.inj |> fun e => e ▸ ⟨rfl, rfl, rfl, Or.inl (zgw_of (List.mem_append_right _ (List.mem_append_right _ (List.mem_append_left _ (List.mem_of_getElem? (i := 190) (by decide +kernel))))) rfl)⟩
theorem zl_m_r63 : zl_mP (1, 48, 0, 10, 3, 1) := fun mt h => (show some zm_X1_restsInOrder = some mt from h) |> Option.some.inj |> fun e => e ▸ ⟨rfl, rfl, rfl, Or.inl (zgw_of (List.mem_append_right _ (List.mem_append_right _ (List.mem_append_left _ (List.mem_of_getElem? (i := 207) (by decide +kernel))))) rfl)⟩
theorem zl_m_r64 : zl_mP (1, 52, 0, 66, 1, 1) := fun mt h => (show some zm_X6_restNumber = some mt from h) |> Option.some.inj |> fun e => e ▸ ⟨rfl, rfl, rfl, Or.inl (zgw_of (List.mem_append_right _ (List.mem_append_right _ (List.mem_append_left _ (List.mem_of_getElem? (i := 222) (by decide +kernel))))) rfl)⟩
theorem zl_m_r65 : zl_mP (1, 56, 0, 13, 2, 0) := fun mt h => (show some zm_X1_note = some mt from h) |> Option.some.inj |> fun e => e ▸ ⟨rfl, rfl, rfl, Or.inl (zgw_of (List.mem_append_right _ (List.mem_append_right _ (List.mem_append_left _ (List.mem_of_getElem? (i := 223) (by decide +kernel))))) rfl)⟩
theorem zl_m_r66 : zl_mP (1, 60, 0, 14, 2, 1) := fun mt h => (show some zm_X1_goToNextOrder = some mt from h) |> Option.some.inj |> fun e => e ▸ ⟨rfl, rfl, rfl, Or.inl (zgw_of (List.mem_append_right _ (List.mem_append_right _ (List.mem_append_left _ (List.mem_of_getElem? (i := 227) (by decide +kernel))))) rfl)⟩
theorem zl_m_r67 : zl_mP (1, 68, 0, 70, 1, 0) := fun mt h => (show some zm_X7_forgetChoices = some mt from h) |> Option.some.inj |> fun e => e ▸ ⟨rfl, rfl, rfl, Or.inl (zgw_of (List.mem_append_right _ (List.mem_append_right _ (List.mem_append_left _ (List.mem_of_getElem? (i := 211) (by decide +kernel))))) rfl)⟩
theorem zl_m_r68 : zl_mP (1, 73, 0, 11, 2, 0) := fun mt h => (show some zm_X1_mark = some mt from h) |> Option.some.inj |> fun e => e ▸ ⟨rfl, rfl, rfl, Or.inl (zgw_of (List.mem_append_right _ (List.mem_append_right _ (List.mem_append_left _ (List.mem_of_getElem? (i := 212) (by decide +kernel))))) rfl)⟩
theorem zl_m_r69 : zl_mP (1, 77, 0, 56, 2, 1) := fun mt h => (show some zm_X6_stepOne = some mt from h) |> Option.some.inj |> fun e => e ▸ ⟨rfl, rfl, rfl, Or.inl (zgw_of (List.mem_append_right _ (List.mem_append_right _ (List.mem_append_left _ (List.mem_of_getElem? (i := 217) (by decide +kernel))))) rfl)⟩
theorem zl_m_r70 : zl_mP (1, 80, 0, 12, 2, 1) := fun mt h => (show some zm_X1_isMarked = some mt from h) |> Option.some.inj |> fun e => e ▸ ⟨rfl, rfl, rfl, Or.inl (zgw_of (List.mem_append_right _ (List.mem_append_right _ (List.mem_append_left _ (List.mem_of_getElem? (i := 218) (by decide +kernel))))) rfl)⟩
theorem zl_m_r71 : zl_mP (1, 93, 0, 15, 3, 0) := fun mt h => (show some zm_X1_swap = some mt from h) |> Option.some.inj |> fun e => e ▸ ⟨rfl, rfl, rfl, Or.inl (zgw_of (List.mem_append_right _ (List.mem_append_right _ (List.mem_append_left _ (List.mem_of_getElem? (i := 231) (by decide +kernel))))) rfl)⟩
theorem zl_m_r72 : zl_mP (2, 17, 2, 67, 1, 0) := fun mt h => (show some zm_X7_init = some mt from h) |> Option.some.inj |> fun e => e ▸ ⟨rfl, rfl, rfl, Or.inr ⟨by decide, "HiddenExits", List.mem_filter.mpr ⟨List.mem_append_right _ (List.mem_append_left _ (List.mem_of_getElem? (i := 41) (by decide +kernel))), rfl⟩⟩⟩
theorem zl_m_r73 : zl_mP (2, 22, 0, 68, 2, 0) := fun mt h => (show some zm_X7_copyFrom = some mt from h) |> Option.some.inj |> fun e => e ▸ ⟨rfl, rfl, rfl, Or.inl (zgw_of (List.mem_append_right _ (List.mem_append_right _ (List.mem_append_left _ (List.mem_of_getElem? (i := 0) (by decide +kernel))))) rfl)⟩
theorem zl_m_r74 : zl_mP (3, 51, 0, 21, 2, 0) := fun mt h => (show some zm_X3_readTold = some mt from h) |> Option.some.inj |> fun e => e ▸ ⟨rfl, rfl, rfl, Or.inl (zgw_of (List.mem_append_right _ (List.mem_append_left _ (List.mem_of_getElem? (i := 184) (by decide +kernel)))) rfl)⟩
theorem zl_m_r75 : zl_mP (3, 55, 0, 24, 3, 1) := fun mt h => (show some zm_X3_sessionOf = some mt from h) |> Option.some.inj |> fun e => e ▸ ⟨rfl, rfl, rfl, Or.inl (zgw_of (List.mem_append_right _ (List.mem_append_left _ (List.mem_of_getElem? (i := 188) (by decide +kernel)))) rfl)⟩
theorem zl_m_r76 : zl_mP (4, 47, 1, 1, 2, 0) := fun mt h => (show some zm_J_fill = some mt from h) |> Option.some.inj |> fun e => e ▸ ⟨rfl, rfl, rfl, Or.inl (zgw_of (List.mem_append_right _ (List.mem_append_left _ (List.mem_of_getElem? (i := 126) (by decide +kernel)))) rfl)⟩
theorem zl_m_r77 : zl_mP (4, 53, 0, 30, 1, 1) := fun mt h => (show some zm_X4_scanHead = some mt from h) |> Option.some.inj |> fun e => e ▸ ⟨rfl, rfl, rfl, Or.inl (zgw_of (List.mem_append_right _ (List.mem_append_left _ (List.mem_of_getElem? (i := 127) (by decide +kernel)))) rfl)⟩
theorem zl_m_r78 : zl_mP (4, 60, 0, 31, 1, 1) := fun mt h => (show some zm_X4_scanPart = some mt from h) |> Option.some.inj |> fun e => e ▸ ⟨rfl, rfl, rfl, Or.inl (zgw_of (List.mem_append_right _ (List.mem_append_left _ (List.mem_of_getElem? (i := 139) (by decide +kernel)))) rfl)⟩
theorem zl_m_r79 : zl_mP (4, 63, 0, 40, 1, 1) := fun mt h => (show some zm_X4_sign = some mt from h) |> Option.some.inj |> fun e => e ▸ ⟨rfl, rfl, rfl, Or.inl (zgw_of (List.mem_append_right _ (List.mem_append_left _ (List.mem_of_getElem? (i := 131) (by decide +kernel)))) rfl)⟩
theorem zl_m_r80 : zl_mP (4, 67, 0, 41, 3, 1) := fun mt h => (show some zm_X4_digit = some mt from h) |> Option.some.inj |> fun e => e ▸ ⟨rfl, rfl, rfl, Or.inl (zgw_of (List.mem_append_right _ (List.mem_append_left _ (List.mem_of_getElem? (i := 135) (by decide +kernel)))) rfl)⟩
theorem zl_m_r81 : zl_mP (4, 71, 0, 32, 1, 1) := fun mt h => (show some zm_X4_scanLink = some mt from h) |> Option.some.inj |> fun e => e ▸ ⟨rfl, rfl, rfl, Or.inl (zgw_of (List.mem_append_right _ (List.mem_append_left _ (List.mem_of_getElem? (i := 143) (by decide +kernel)))) rfl)⟩
theorem zl_m_r82 : zl_mP (4, 74, 0, 33, 3, 1) := fun mt h => (show some zm_X4_scanSession = some mt from h) |> Option.some.inj |> fun e => e ▸ ⟨rfl, rfl, rfl, Or.inl (zgw_of (List.mem_append_right _ (List.mem_append_left _ (List.mem_of_getElem? (i := 165) (by decide +kernel)))) rfl)⟩
theorem zl_m_r83 : zl_mP (4, 78, 0, 34, 1, 1) := fun mt h => (show some zm_X4_scanExit = some mt from h) |> Option.some.inj |> fun e => e ▸ ⟨rfl, rfl, rfl, Or.inl (zgw_of (List.mem_append_right _ (List.mem_append_left _ (List.mem_of_getElem? (i := 169) (by decide +kernel)))) rfl)⟩
theorem zl_m_r84 : zl_mP (4, 81, 0, 35, 2, 1) := fun mt h => (show some zm_X4_scanPair = some mt from h) |> Option.some.inj |> fun e => e ▸ ⟨rfl, rfl, rfl, Or.inl (zgw_of (List.mem_append_right _ (List.mem_append_left _ (List.mem_of_getElem? (i := 147) (by decide +kernel)))) rfl)⟩
theorem zl_m_r85 : zl_mP (4, 85, 1, 36, 4, 0) := fun mt h => (show some zm_X4_setPair = some mt from h) |> Option.some.inj |> fun e => e ▸ ⟨rfl, rfl, rfl, Or.inl (zgw_of (List.mem_append_right _ (List.mem_append_left _ (List.mem_of_getElem? (i := 162) (by decide +kernel)))) rfl)⟩
theorem zl_m_r86 : zl_mP (4, 89, 0, 37, 2, 1) := fun mt h => (show some zm_X4_anyFree = some mt from h) |> Option.some.inj |> fun e => e ▸ ⟨rfl, rfl, rfl, Or.inl (zgw_of (List.mem_append_right _ (List.mem_append_left _ (List.mem_of_getElem? (i := 151) (by decide +kernel)))) rfl)⟩
theorem zl_m_r87 : zl_mP (4, 93, 0, 38, 3, 1) := fun mt h => (show some zm_X4_hasFree = some mt from h) |> Option.some.inj |> fun e => e ▸ ⟨rfl, rfl, rfl, Or.inl (zgw_of (List.mem_append_right _ (List.mem_append_left _ (List.mem_of_getElem? (i := 155) (by decide +kernel)))) rfl)⟩
theorem zl_m_r88 : zl_mP (4, 97, 1, 39, 3, 1) := fun mt h => (show some zm_X4_isFree = some mt from h) |> Option.some.inj |> fun e => e ▸ ⟨rfl, rfl, rfl, Or.inl (zgw_of (List.mem_append_right _ (List.mem_append_left _ (List.mem_of_getElem? (i := 159) (by decide +kernel)))) rfl)⟩
theorem zl_m_r89 : zl_mP (5, 31, 0, 22, 2, 1) := fun mt h => (show some zm_X3_hasRouter = some mt from h) |> Option.some.inj |> fun e => e ▸ ⟨rfl, rfl, rfl, Or.inl (zgw_of (List.mem_append_right _ (List.mem_append_right _ (List.mem_append_right _ (List.mem_append_left _ (List.mem_of_getElem? (i := 51) (by decide +kernel)))))) rfl)⟩
theorem zl_m_r90 : zl_mP (5, 41, 0, 76, 2, 1) := fun mt h => (show some zm_X7_firstExit = some mt from h) |> Option.some.inj |> fun e => e ▸ ⟨rfl, rfl, rfl, Or.inl (zgw_of (List.mem_append_right _ (List.mem_append_right _ (List.mem_append_right _ (List.mem_append_left _ (List.mem_of_getElem? (i := 52) (by decide +kernel)))))) rfl)⟩
theorem zl_m_r91 : zl_mP (6, 11, 2, 67, 1, 0) := fun mt h => (show some zm_X7_init = some mt from h) |> Option.some.inj |> fun e => e ▸ ⟨rfl, rfl, rfl, Or.inr ⟨by decide, "HiddenExits", List.mem_filter.mpr ⟨List.mem_append_left _ (List.mem_of_getElem? (i := 130) (by decide +kernel)), rfl⟩⟩⟩
theorem zl_m_r92 : zl_mP (6, 41, 0, 53, 1, 0) := fun mt h => (show some zm_X6_measure = some mt from h) |> Option.some.inj |> fun e => e ▸ ⟨rfl, rfl, rfl, Or.inl (zgw_of (List.mem_append_left _ (List.mem_of_getElem? (i := 165) (by decide +kernel))) rfl)⟩
theorem zl_m_r93 : zl_mP (6, 44, 0, 52, 1, 0) := fun mt h => (show some zm_X6_forgetPicks = some mt from h) |> Option.some.inj |> fun e => e ▸ ⟨rfl, rfl, rfl, Or.inl (zgw_of (List.mem_append_left _ (List.mem_of_getElem? (i := 180) (by decide +kernel))) rfl)⟩
theorem zl_m_r94 : zl_mP (6, 47, 0, 69, 2, 0) := fun mt h => (show some zm_X7_read = some mt from h) |> Option.some.inj |> fun e => e ▸ ⟨rfl, rfl, rfl, Or.inl (zgw_of (List.mem_append_right _ (List.mem_append_left _ (List.mem_of_getElem? (i := 196) (by decide +kernel)))) rfl)⟩
theorem zl_m_r95 : zl_mP (6, 51, 0, 68, 2, 0) := fun mt h => (show some zm_X7_copyFrom = some mt from h) |> Option.some.inj |> fun e => e ▸ ⟨rfl, rfl, rfl, Or.inl (zgw_of (List.mem_append_right _ (List.mem_append_right _ (List.mem_append_left _ (List.mem_of_getElem? (i := 114) (by decide +kernel))))) rfl)⟩
theorem zl_m_r96 : zl_mP (6, 71, 1, 1, 2, 0) := fun mt h => (show some zm_J_fill = some mt from h) |> Option.some.inj |> fun e => e ▸ ⟨rfl, rfl, rfl, Or.inl (zgw_of (List.mem_append_left _ (List.mem_of_getElem? (i := 184) (by decide +kernel))) rfl)⟩
theorem zl_m_r97 : zl_mP (6, 83, 0, 54, 1, 0) := fun mt h => (show some zm_X6_findNear = some mt from h) |> Option.some.inj |> fun e => e ▸ ⟨rfl, rfl, rfl, Or.inl (zgw_of (List.mem_append_left _ (List.mem_of_getElem? (i := 172) (by decide +kernel))) rfl)⟩
theorem zl_m_r98 : zl_mP (6, 94, 0, 55, 3, 1) := fun mt h => (show some zm_X6_distance = some mt from h) |> Option.some.inj |> fun e => e ▸ ⟨rfl, rfl, rfl, Or.inl (zgw_of (List.mem_append_left _ (List.mem_of_getElem? (i := 176) (by decide +kernel))) rfl)⟩
theorem zl_m_r99 : zl_mP (6, 97, 0, 22, 2, 1) := fun mt h => (show some zm_X3_hasRouter = some mt from h) |> Option.some.inj |> fun e => e ▸ ⟨rfl, rfl, rfl, Or.inl (zgw_of (List.mem_append_right _ (List.mem_append_right _ (List.mem_append_left _ (List.mem_of_getElem? (i := 9) (by decide +kernel))))) rfl)⟩
theorem zl_m_r100 : zl_mP (6, 104, 0, 58, 2, 1) := fun mt h => (show some zm_X6_decide = some mt from h) |> Option.some.inj |> fun e => e ▸ ⟨rfl, rfl, rfl, Or.inl (zgw_of (List.mem_append_right _ (List.mem_append_right _ (List.mem_append_left _ (List.mem_of_getElem? (i := 10) (by decide +kernel))))) rfl)⟩
theorem zl_m_r101 : zl_mP (6, 111, 0, 59, 2, 1) := fun mt h => (show some zm_X6_listen = some mt from h) |> Option.some.inj |> fun e => e ▸ ⟨rfl, rfl, rfl, Or.inl (zgw_of (List.mem_append_right _ (List.mem_append_right _ (List.mem_append_left _ (List.mem_of_getElem? (i := 14) (by decide +kernel))))) rfl)⟩
theorem zl_m_r102 : zl_mP (6, 114, 0, 61, 3, 1) := fun mt h => (show some zm_X6_pick = some mt from h) |> Option.some.inj |> fun e => e ▸ ⟨rfl, rfl, rfl, Or.inl (zgw_of (List.mem_append_right _ (List.mem_append_right _ (List.mem_append_left _ (List.mem_of_getElem? (i := 35) (by decide +kernel))))) rfl)⟩
theorem zl_m_r103 : zl_mP (6, 126, 1, 117, 3, 1) := fun mt h => (show some zm_X8_routeOf = some mt from h) |> Option.some.inj |> fun e => e ▸ ⟨rfl, rfl, rfl, Or.inr ⟨by decide, "HiddenExits", List.mem_filter.mpr ⟨List.mem_append_right _ (List.mem_append_right _ (List.mem_append_left _ (List.mem_of_getElem? (i := 18) (by decide +kernel)))), rfl⟩⟩⟩
theorem zl_m_r104 : zl_mP (6, 130, 0, 25, 3, 1) := fun mt h => (show some zm_X3_toldBy = some mt from h) |> Option.some.inj |> fun e => e ▸ ⟨rfl, rfl, rfl, Or.inl (zgw_of (List.mem_append_right _ (List.mem_append_right _ (List.mem_append_left _ (List.mem_of_getElem? (i := 21) (by decide +kernel))))) rfl)⟩
theorem zl_m_r105 : zl_mP (6, 133, 0, 60, 5, 1) := fun mt h => (show some zm_X6_take = some mt from h) |> Option.some.inj |> fun e => e ▸ ⟨rfl, rfl, rfl, Or.inl (zgw_of (List.mem_append_right _ (List.mem_append_right _ (List.mem_append_left _ (List.mem_of_getElem? (i := 25) (by decide +kernel))))) rfl)⟩
theorem zl_m_r106 : zl_mP (6, 137, 1, 0, 1, 1) := fun mt h => (show some zm_J_bitCount = some mt from h) |> Option.some.inj |> fun e => e ▸ ⟨rfl, rfl, rfl, Or.inl (zgw_of (List.mem_append_right _ (List.mem_append_right _ (List.mem_append_left _ (List.mem_of_getElem? (i := 29) (by decide +kernel))))) rfl)⟩
theorem zl_m_r107 : zl_mP (6, 142, 0, 62, 3, 1) := fun mt h => (show some zm_X6_compare = some mt from h) |> Option.some.inj |> fun e => e ▸ ⟨rfl, rfl, rfl, Or.inl (zgw_of (List.mem_append_right _ (List.mem_append_right _ (List.mem_append_left _ (List.mem_of_getElem? (i := 39) (by decide +kernel))))) rfl)⟩
theorem zl_m_r108 : zl_mP (6, 148, 1, 63, 2, 1) := fun mt h => (show some zm_X6_smallest = some mt from h) |> Option.some.inj |> fun e => e ▸ ⟨rfl, rfl, rfl, Or.inl (zgw_of (List.mem_append_right _ (List.mem_append_right _ (List.mem_append_left _ (List.mem_of_getElem? (i := 43) (by decide +kernel))))) rfl)⟩
theorem zl_m_r109 : zl_mP (6, 152, 0, 26, 2, 1) := fun mt h => (show some zm_X3_exitsTo = some mt from h) |> Option.some.inj |> fun e => e ▸ ⟨rfl, rfl, rfl, Or.inl (zgw_of (List.mem_append_right _ (List.mem_append_right _ (List.mem_append_left _ (List.mem_of_getElem? (i := 46) (by decide +kernel))))) rfl)⟩
theorem zl_m_r110 : zl_mP (6, 155, 0, 76, 2, 1) := fun mt h => (show some zm_X7_firstExit = some mt from h) |> Option.some.inj |> fun e => e ▸ ⟨rfl, rfl, rfl, Or.inl (zgw_of (List.mem_append_right _ (List.mem_append_right _ (List.mem_append_left _ (List.mem_of_getElem? (i := 156) (by decide +kernel))))) rfl)⟩
theorem zl_m_r111 : zl_mP (6, 161, 0, 65, 3, 1) := fun mt h => (show some zm_X6_nextHop = some mt from h) |> Option.some.inj |> fun e => e ▸ ⟨rfl, rfl, rfl, Or.inl (zgw_of (List.mem_append_right _ (List.mem_append_right _ (List.mem_append_left _ (List.mem_of_getElem? (i := 162) (by decide +kernel))))) rfl)⟩
theorem zl_m_r112 : zl_mP (6, 164, 0, 71, 3, 1) := fun mt h => (show some zm_X7_costOf = some mt from h) |> Option.some.inj |> fun e => e ▸ ⟨rfl, rfl, rfl, Or.inl (zgw_of (List.mem_append_right _ (List.mem_append_right _ (List.mem_append_left _ (List.mem_of_getElem? (i := 166) (by decide +kernel))))) rfl)⟩
theorem zl_m_r113 : zl_mP (7, 41, 0, 70, 1, 0) := fun mt h => (show some zm_X7_forgetChoices = some mt from h) |> Option.some.inj |> fun e => e ▸ ⟨rfl, rfl, rfl, Or.inl (zgw_of (List.mem_append_right _ (List.mem_append_left _ (List.mem_of_getElem? (i := 201) (by decide +kernel)))) rfl)⟩
theorem zl_m_r114 : zl_mP (7, 47, 1, 1, 2, 0) := fun mt h => (show some zm_J_fill = some mt from h) |> Option.some.inj |> fun e => e ▸ ⟨rfl, rfl, rfl, Or.inl (zgw_of (List.mem_append_right _ (List.mem_append_left _ (List.mem_of_getElem? (i := 205) (by decide +kernel)))) rfl)⟩
theorem zl_m_r115 : zl_mP (7, 53, 0, 74, 2, 1) := fun mt h => (show some zm_X7_firstRoute = some mt from h) |> Option.some.inj |> fun e => e ▸ ⟨rfl, rfl, rfl, Or.inl (zgw_of (List.mem_append_right _ (List.mem_append_right _ (List.mem_append_left _ (List.mem_of_getElem? (i := 160) (by decide +kernel))))) rfl)⟩
theorem zl_m_r116 : zl_mP (7, 57, 1, 115, 1, 1) := fun mt h => (show some zm_X8_exitOf = some mt from h) |> Option.some.inj |> fun e => e ▸ ⟨rfl, rfl, rfl, Or.inr ⟨by decide, "HiddenExits", List.mem_filter.mpr ⟨List.mem_append_right _ (List.mem_append_right _ (List.mem_append_left _ (List.mem_of_getElem? (i := 161) (by decide +kernel)))), rfl⟩⟩⟩
theorem zl_m_r117 : zl_mP (7, 60, 0, 76, 2, 1) := fun mt h => (show some zm_X7_firstExit = some mt from h) |> Option.some.inj |> fun e => e ▸ ⟨rfl, rfl, rfl, Or.inl (zgw_of (List.mem_append_right _ (List.mem_append_right _ (List.mem_append_right _ (List.mem_append_left _ (List.mem_of_getElem? (i := 61) (by decide +kernel)))))) rfl)⟩
theorem zl_m_r118 : zl_mP (10, 9, 2, 80, 1, 0) := fun mt h => (show some zm_X8_init = some mt from h) |> Option.some.inj |> fun e => e ▸ ⟨rfl, rfl, rfl, Or.inl (zgw_of (List.mem_append_left _ (List.mem_of_getElem? (i := 17) (by decide +kernel))) rfl)⟩
theorem zl_m_r119 : zl_mP (10, 12, 2, 128, 1, 0) := fun mt h => (show some zm_X9_init = some mt from h) |> Option.some.inj |> fun e => e ▸ ⟨rfl, rfl, rfl, Or.inl (zgw_of (List.mem_append_right _ (List.mem_append_right _ (List.mem_append_right _ (List.mem_append_left _ (List.mem_of_getElem? (i := 125) (by decide +kernel)))))) rfl)⟩
theorem zl_m_r120 : zl_mP (10, 13, 0, 81, 2, 1) := fun mt h => (show some zm_X8_write = some mt from h) |> Option.some.inj |> fun e => e ▸ ⟨rfl, rfl, rfl, Or.inl (zgw_of (List.mem_append_right _ (List.mem_append_left _ (List.mem_of_getElem? (i := 110) (by decide +kernel)))) rfl)⟩
theorem zl_m_r121 : zl_mP (10, 17, 0, 138, 2, 1) := fun mt h => (show some zm_X9_write = some mt from h) |> Option.some.inj |> fun e => e ▸ ⟨rfl, rfl, rfl, Or.inl (zgw_of (List.mem_append_right _ (List.mem_append_right _ (List.mem_append_right _ (List.mem_append_left _ (List.mem_of_getElem? (i := 229) (by decide +kernel)))))) rfl)⟩
theorem zl_m_r122 : zl_mP (10, 18, 0, 82, 1, 1) := fun mt h => (show some zm_X8_wipe = some mt from h) |> Option.some.inj |> fun e => e ▸ ⟨rfl, rfl, rfl, Or.inl (zgw_of (List.mem_append_right _ (List.mem_append_left _ (List.mem_of_getElem? (i := 114) (by decide +kernel)))) rfl)⟩
theorem zl_m_r123 : zl_mP (10, 22, 0, 139, 1, 1) := fun mt h => (show some zm_X9_wipe = some mt from h) |> Option.some.inj |> fun e => e ▸ ⟨rfl, rfl, rfl, Or.inl (zgw_of (List.mem_append_right _ (List.mem_append_right _ (List.mem_append_right _ (List.mem_append_left _ (List.mem_of_getElem? (i := 237) (by decide +kernel)))))) rfl)⟩
theorem zl_m_r124 : zl_mP (10, 23, 0, 83, 1, 1) := fun mt h => (show some zm_X8_fault = some mt from h) |> Option.some.inj |> fun e => e ▸ ⟨rfl, rfl, rfl, Or.inl (zgw_of (List.mem_append_right _ (List.mem_append_left _ (List.mem_of_getElem? (i := 118) (by decide +kernel)))) rfl)⟩
theorem zl_m_r125 : zl_mP (10, 26, 0, 149, 1, 1) := fun mt h => (show some zm_X9_fault = some mt from h) |> Option.some.inj |> fun e => e ▸ ⟨rfl, rfl, rfl, Or.inl (zgw_of (List.mem_append_right _ (List.mem_append_right _ (List.mem_append_right _ (List.mem_append_right _ (List.mem_append_left _ (List.mem_of_getElem? (i := 1) (by decide +kernel))))))) rfl)⟩
theorem zl_m_r126 : zl_mP (10, 27, 0, 84, 1, 1) := fun mt h => (show some zm_X8_domain = some mt from h) |> Option.some.inj |> fun e => e ▸ ⟨rfl, rfl, rfl, Or.inl (zgw_of (List.mem_append_right _ (List.mem_append_left _ (List.mem_of_getElem? (i := 173) (by decide +kernel)))) rfl)⟩
theorem zl_m_r127 : zl_mP (10, 30, 0, 150, 1, 1) := fun mt h => (show some zm_X9_domain = some mt from h) |> Option.some.inj |> fun e => e ▸ ⟨rfl, rfl, rfl, Or.inl (zgw_of (List.mem_append_right _ (List.mem_append_right _ (List.mem_append_right _ (List.mem_append_right _ (List.mem_append_left _ (List.mem_of_getElem? (i := 44) (by decide +kernel))))))) rfl)⟩
theorem zl_m_r128 : zl_mP (10, 31, 0, 85, 4, 1) := fun mt h => (show some zm_X8_link = some mt from h) |> Option.some.inj |> fun e => e ▸ ⟨rfl, rfl, rfl, Or.inl (zgw_of (List.mem_append_right _ (List.mem_append_left _ (List.mem_of_getElem? (i := 206) (by decide +kernel)))) rfl)⟩
theorem zl_m_r129 : zl_mP (10, 35, 0, 152, 4, 1) := fun mt h => (show some zm_X9_link = some mt from h) |> Option.some.inj |> fun e => e ▸ ⟨rfl, rfl, rfl, Or.inl (zgw_of (List.mem_append_right _ (List.mem_append_right _ (List.mem_append_right _ (List.mem_append_right _ (List.mem_append_left _ (List.mem_of_getElem? (i := 51) (by decide +kernel))))))) rfl)⟩
theorem zl_m_r130 : zl_mP (10, 36, 0, 86, 3, 1) := fun mt h => (show some zm_X8_session = some mt from h) |> Option.some.inj |> fun e => e ▸ ⟨rfl, rfl, rfl, Or.inl (zgw_of (List.mem_append_right _ (List.mem_append_left _ (List.mem_of_getElem? (i := 219) (by decide +kernel)))) rfl)⟩
theorem zl_m_r131 : zl_mP (10, 40, 0, 153, 3, 1) := fun mt h => (show some zm_X9_session = some mt from h) |> Option.some.inj |> fun e => e ▸ ⟨rfl, rfl, rfl, Or.inl (zgw_of (List.mem_append_right _ (List.mem_append_right _ (List.mem_append_right _ (List.mem_append_right _ (List.mem_append_left _ (List.mem_of_getElem? (i := 63) (by decide +kernel))))))) rfl)⟩
theorem zl_m_r132 : zl_mP (10, 41, 0, 87, 3, 1) := fun mt h => (show some zm_X8_exit = some mt from h) |> Option.some.inj |> fun e => e ▸ ⟨rfl, rfl, rfl, Or.inl (zgw_of (List.mem_append_right _ (List.mem_append_left _ (List.mem_of_getElem? (i := 224) (by decide +kernel)))) rfl)⟩
theorem zl_m_r133 : zl_mP (10, 44, 0, 155, 3, 1) := fun mt h => (show some zm_X9_exit = some mt from h) |> Option.some.inj |> fun e => e ▸ ⟨rfl, rfl, rfl, Or.inl (zgw_of (List.mem_append_right _ (List.mem_append_right _ (List.mem_append_right _ (List.mem_append_right _ (List.mem_append_left _ (List.mem_of_getElem? (i := 67) (by decide +kernel))))))) rfl)⟩
theorem zl_m_r134 : zl_mP (10, 45, 0, 88, 2, 1) := fun mt h => (show some zm_X8_step = some mt from h) |> Option.some.inj |> fun e => e ▸ ⟨rfl, rfl, rfl, Or.inl (zgw_of (List.mem_append_right _ (List.mem_append_left _ (List.mem_of_getElem? (i := 232) (by decide +kernel)))) rfl)⟩
theorem zl_m_r135 : zl_mP (10, 48, 0, 171, 2, 1) := fun mt h => (show some zm_X9_step = some mt from h) |> Option.some.inj |> fun e => e ▸ ⟨rfl, rfl, rfl, Or.inl (zgw_of (List.mem_append_right _ (List.mem_append_right _ (List.mem_append_right _ (List.mem_append_right _ (List.mem_append_left _ (List.mem_of_getElem? (i := 79) (by decide +kernel))))))) rfl)⟩
theorem zl_m_r136 : zl_mP (10, 49, 0, 89, 1, 1) := fun mt h => (show some zm_X8_round = some mt from h) |> Option.some.inj |> fun e => e ▸ ⟨rfl, rfl, rfl, Or.inl (zgw_of (List.mem_append_right _ (List.mem_append_right _ (List.mem_append_left _ (List.mem_of_getElem? (i := 50) (by decide +kernel))))) rfl)⟩
theorem zl_m_r137 : zl_mP (10, 52, 0, 172, 1, 1) := fun mt h => (show some zm_X9_round = some mt from h) |> Option.some.inj |> fun e => e ▸ ⟨rfl, rfl, rfl, Or.inl (zgw_of (List.mem_append_right _ (List.mem_append_right _ (List.mem_append_right _ (List.mem_append_right _ (List.mem_append_left _ (List.mem_of_getElem? (i := 143) (by decide +kernel))))))) rfl)⟩
theorem zl_m_r138 : zl_mP (10, 53, 0, 90, 4, 1) := fun mt h => (show some zm_X8_setLink = some mt from h) |> Option.some.inj |> fun e => e ▸ ⟨rfl, rfl, rfl, Or.inl (zgw_of (List.mem_append_right _ (List.mem_append_right _ (List.mem_append_left _ (List.mem_of_getElem? (i := 59) (by decide +kernel))))) rfl)⟩
theorem zl_m_r139 : zl_mP (10, 56, 0, 173, 4, 1) := fun mt h => (show some zm_X9_setLink = some mt from h) |> Option.some.inj |> fun e => e ▸ ⟨rfl, rfl, rfl, Or.inl (zgw_of (List.mem_append_right _ (List.mem_append_right _ (List.mem_append_right _ (List.mem_append_right _ (List.mem_append_left _ (List.mem_of_getElem? (i := 151) (by decide +kernel))))))) rfl)⟩
theorem zl_m_r140 : zl_mP (10, 57, 0, 91, 2, 1) := fun mt h => (show some zm_X8_turn = some mt from h) |> Option.some.inj |> fun e => e ▸ ⟨rfl, rfl, rfl, Or.inl (zgw_of (List.mem_append_right _ (List.mem_append_right _ (List.mem_append_left _ (List.mem_of_getElem? (i := 67) (by decide +kernel))))) rfl)⟩
theorem zl_m_r141 : zl_mP (10, 60, 0, 174, 2, 1) := fun mt h => (show some zm_X9_turn = some mt from h) |> Option.some.inj |> fun e => e ▸ ⟨rfl, rfl, rfl, Or.inl (zgw_of (List.mem_append_right _ (List.mem_append_right _ (List.mem_append_right _ (List.mem_append_right _ (List.mem_append_left _ (List.mem_of_getElem? (i := 156) (by decide +kernel))))))) rfl)⟩
theorem zl_m_r142 : zl_mP (10, 61, 0, 92, 3, 1) := fun mt h => (show some zm_X8_weigh = some mt from h) |> Option.some.inj |> fun e => e ▸ ⟨rfl, rfl, rfl, Or.inl (zgw_of (List.mem_append_right _ (List.mem_append_right _ (List.mem_append_left _ (List.mem_of_getElem? (i := 75) (by decide +kernel))))) rfl)⟩
theorem zl_m_r143 : zl_mP (10, 64, 0, 175, 3, 1) := fun mt h => (show some zm_X9_weigh = some mt from h) |> Option.some.inj |> fun e => e ▸ ⟨rfl, rfl, rfl, Or.inl (zgw_of (List.mem_append_right _ (List.mem_append_right _ (List.mem_append_right _ (List.mem_append_right _ (List.mem_append_left _ (List.mem_of_getElem? (i := 160) (by decide +kernel))))))) rfl)⟩
theorem zl_m_r144 : zl_mP (10, 65, 0, 93, 2, 1) := fun mt h => (show some zm_X8_add = some mt from h) |> Option.some.inj |> fun e => e ▸ ⟨rfl, rfl, rfl, Or.inl (zgw_of (List.mem_append_right _ (List.mem_append_right _ (List.mem_append_left _ (List.mem_of_getElem? (i := 83) (by decide +kernel))))) rfl)⟩
theorem zl_m_r145 : zl_mP (10, 68, 0, 177, 2, 1) := fun mt h => (show some zm_X9_add = some mt from h) |> Option.some.inj |> fun e => e ▸ ⟨rfl, rfl, rfl, Or.inl (zgw_of (List.mem_append_right _ (List.mem_append_right _ (List.mem_append_right _ (List.mem_append_right _ (List.mem_append_left _ (List.mem_of_getElem? (i := 165) (by decide +kernel))))))) rfl)⟩
theorem zl_m_r146 : zl_mP (10, 69, 0, 94, 2, 1) := fun mt h => (show some zm_X8_setMode = some mt from h) |> Option.some.inj |> fun e => e ▸ ⟨rfl, rfl, rfl, Or.inl (zgw_of (List.mem_append_right _ (List.mem_append_right _ (List.mem_append_left _ (List.mem_of_getElem? (i := 91) (by decide +kernel))))) rfl)⟩
theorem zl_m_r147 : zl_mP (10, 72, 0, 178, 2, 1) := fun mt h => (show some zm_X9_setMode = some mt from h) |> Option.some.inj |> fun e => e ▸ ⟨rfl, rfl, rfl, Or.inl (zgw_of (List.mem_append_right _ (List.mem_append_right _ (List.mem_append_right _ (List.mem_append_right _ (List.mem_append_left _ (List.mem_of_getElem? (i := 172) (by decide +kernel))))))) rfl)⟩
theorem zl_m_r148 : zl_mP (10, 73, 0, 95, 1, 1) := fun mt h => (show some zm_X8_undo = some mt from h) |> Option.some.inj |> fun e => e ▸ ⟨rfl, rfl, rfl, Or.inl (zgw_of (List.mem_append_right _ (List.mem_append_right _ (List.mem_append_left _ (List.mem_of_getElem? (i := 99) (by decide +kernel))))) rfl)⟩
theorem zl_m_r149 : zl_mP (10, 76, 0, 179, 1, 1) := fun mt h => (show some zm_X9_undo = some mt from h) |> Option.some.inj |> fun e => e ▸ ⟨rfl, rfl, rfl, Or.inl (zgw_of (List.mem_append_right _ (List.mem_append_right _ (List.mem_append_right _ (List.mem_append_right _ (List.mem_append_left _ (List.mem_of_getElem? (i := 177) (by decide +kernel))))))) rfl)⟩
theorem zl_m_r150 : zl_mP (10, 77, 0, 96, 4, 1) := fun mt h => (show some zm_X8_choice = some mt from h) |> Option.some.inj |> fun e => e ▸ ⟨rfl, rfl, rfl, Or.inl (zgw_of (List.mem_append_right _ (List.mem_append_right _ (List.mem_append_left _ (List.mem_of_getElem? (i := 115) (by decide +kernel))))) rfl)⟩
theorem zl_m_r151 : zl_mP (10, 80, 0, 180, 4, 1) := fun mt h => (show some zm_X9_choice = some mt from h) |> Option.some.inj |> fun e => e ▸ ⟨rfl, rfl, rfl, Or.inl (zgw_of (List.mem_append_right _ (List.mem_append_right _ (List.mem_append_right _ (List.mem_append_right _ (List.mem_append_left _ (List.mem_of_getElem? (i := 181) (by decide +kernel))))))) rfl)⟩
theorem zl_m_r152 : zl_mP (10, 81, 0, 97, 2, 1) := fun mt h => (show some zm_X8_heard = some mt from h) |> Option.some.inj |> fun e => e ▸ ⟨rfl, rfl, rfl, Or.inl (zgw_of (List.mem_append_right _ (List.mem_append_right _ (List.mem_append_left _ (List.mem_of_getElem? (i := 133) (by decide +kernel))))) rfl)⟩
theorem zl_m_r153 : zl_mP (10, 84, 0, 181, 2, 1) := fun mt h => (show some zm_X9_heard = some mt from h) |> Option.some.inj |> fun e => e ▸ ⟨rfl, rfl, rfl, Or.inl (zgw_of (List.mem_append_right _ (List.mem_append_right _ (List.mem_append_right _ (List.mem_append_right _ (List.mem_append_left _ (List.mem_of_getElem? (i := 185) (by decide +kernel))))))) rfl)⟩
theorem zl_m_r154 : zl_mP (10, 85, 0, 98, 3, 1) := fun mt h => (show some zm_X8_tells = some mt from h) |> Option.some.inj |> fun e => e ▸ ⟨rfl, rfl, rfl, Or.inl (zgw_of (List.mem_append_right _ (List.mem_append_right _ (List.mem_append_left _ (List.mem_of_getElem? (i := 138) (by decide +kernel))))) rfl)⟩
theorem zl_m_r155 : zl_mP (10, 88, 0, 182, 3, 1) := fun mt h => (show some zm_X9_tells = some mt from h) |> Option.some.inj |> fun e => e ▸ ⟨rfl, rfl, rfl, Or.inl (zgw_of (List.mem_append_right _ (List.mem_append_right _ (List.mem_append_right _ (List.mem_append_right _ (List.mem_append_left _ (List.mem_of_getElem? (i := 189) (by decide +kernel))))))) rfl)⟩
theorem zl_m_r156 : zl_mP (10, 89, 0, 99, 2, 1) := fun mt h => (show some zm_X8_mesh = some mt from h) |> Option.some.inj |> fun e => e ▸ ⟨rfl, rfl, rfl, Or.inl (zgw_of (List.mem_append_right _ (List.mem_append_right _ (List.mem_append_left _ (List.mem_of_getElem? (i := 143) (by decide +kernel))))) rfl)⟩
theorem zl_m_r157 : zl_mP (10, 92, 0, 183, 2, 1) := fun mt h => (show some zm_X9_mesh = some mt from h) |> Option.some.inj |> fun e => e ▸ ⟨rfl, rfl, rfl, Or.inl (zgw_of (List.mem_append_right _ (List.mem_append_right _ (List.mem_append_right _ (List.mem_append_right _ (List.mem_append_left _ (List.mem_of_getElem? (i := 193) (by decide +kernel))))))) rfl)⟩
theorem zl_m_r158 : zl_mP (10, 93, 0, 100, 3, 1) := fun mt h => (show some zm_X8_leaves = some mt from h) |> Option.some.inj |> fun e => e ▸ ⟨rfl, rfl, rfl, Or.inl (zgw_of (List.mem_append_right _ (List.mem_append_right _ (List.mem_append_left _ (List.mem_of_getElem? (i := 148) (by decide +kernel))))) rfl)⟩
theorem zl_m_r159 : zl_mP (10, 96, 0, 185, 3, 1) := fun mt h => (show some zm_X9_leaves = some mt from h) |> Option.some.inj |> fun e => e ▸ ⟨rfl, rfl, rfl, Or.inl (zgw_of (List.mem_append_right _ (List.mem_append_right _ (List.mem_append_right _ (List.mem_append_right _ (List.mem_append_left _ (List.mem_of_getElem? (i := 197) (by decide +kernel))))))) rfl)⟩
theorem zl_m_r160 : zl_mP (10, 97, 0, 101, 3, 1) := fun mt h => (show some zm_X8_run = some mt from h) |> Option.some.inj |> fun e => e ▸ ⟨rfl, rfl, rfl, Or.inl (zgw_of (List.mem_append_right _ (List.mem_append_right _ (List.mem_append_left _ (List.mem_of_getElem? (i := 167) (by decide +kernel))))) rfl)⟩
theorem zl_m_r161 : zl_mP (10, 100, 0, 191, 3, 1) := fun mt h => (show some zm_X9_run = some mt from h) |> Option.some.inj |> fun e => e ▸ ⟨rfl, rfl, rfl, Or.inl (zgw_of (List.mem_append_right _ (List.mem_append_right _ (List.mem_append_right _ (List.mem_append_right _ (List.mem_append_left _ (List.mem_of_getElem? (i := 205) (by decide +kernel))))))) rfl)⟩
theorem zl_m_r162 : zl_mP (10, 101, 0, 102, 2, 1) := fun mt h => (show some zm_X8_orders = some mt from h) |> Option.some.inj |> fun e => e ▸ ⟨rfl, rfl, rfl, Or.inl (zgw_of (List.mem_append_right _ (List.mem_append_right _ (List.mem_append_left _ (List.mem_of_getElem? (i := 198) (by decide +kernel))))) rfl)⟩
theorem zl_m_r163 : zl_mP (10, 104, 0, 194, 2, 1) := fun mt h => (show some zm_X9_orders = some mt from h) |> Option.some.inj |> fun e => e ▸ ⟨rfl, rfl, rfl, Or.inl (zgw_of (List.mem_append_right _ (List.mem_append_right _ (List.mem_append_right _ (List.mem_append_right _ (List.mem_append_left _ (List.mem_of_getElem? (i := 225) (by decide +kernel))))))) rfl)⟩
theorem zl_m_r164 : zl_mP (10, 105, 0, 103, 2, 1) := fun mt h => (show some zm_X8_healed = some mt from h) |> Option.some.inj |> fun e => e ▸ ⟨rfl, rfl, rfl, Or.inl (zgw_of (List.mem_append_right _ (List.mem_append_right _ (List.mem_append_left _ (List.mem_of_getElem? (i := 235) (by decide +kernel))))) rfl)⟩
theorem zl_m_r165 : zl_mP (10, 108, 0, 195, 2, 1) := fun mt h => (show some zm_X9_healed = some mt from h) |> Option.some.inj |> fun e => e ▸ ⟨rfl, rfl, rfl, Or.inl (zgw_of (List.mem_append_right _ (List.mem_append_right _ (List.mem_append_right _ (List.mem_append_right _ (List.mem_append_right _ (List.mem_of_getElem? (i := 0) (by decide +kernel))))))) rfl)⟩
theorem zl_m_r166 : zl_mP (10, 111, 0, 104, 3, 1) := fun mt h => (show some zm_X8_judge = some mt from h) |> Option.some.inj |> fun e => e ▸ ⟨rfl, rfl, rfl, Or.inl (zgw_of (List.mem_append_right _ (List.mem_append_right _ (List.mem_append_right _ (List.mem_append_left _ (List.mem_of_getElem? (i := 4) (by decide +kernel)))))) rfl)⟩
theorem zl_m_r167 : zl_mP (10, 115, 0, 199, 3, 1) := fun mt h => (show some zm_X9_judge = some mt from h) |> Option.some.inj |> fun e => e ▸ ⟨rfl, rfl, rfl, Or.inl (zgw_of (List.mem_append_right _ (List.mem_append_right _ (List.mem_append_right _ (List.mem_append_right _ (List.mem_append_right _ (List.mem_of_getElem? (i := 8) (by decide +kernel))))))) rfl)⟩
theorem zl_m_r168 : zl_mP (10, 116, 0, 105, 4, 1) := fun mt h => (show some zm_X8_see = some mt from h) |> Option.some.inj |> fun e => e ▸ ⟨rfl, rfl, rfl, Or.inl (zgw_of (List.mem_append_right _ (List.mem_append_right _ (List.mem_append_right _ (List.mem_append_left _ (List.mem_of_getElem? (i := 31) (by decide +kernel)))))) rfl)⟩
theorem zl_m_r169 : zl_mP (10, 119, 0, 200, 4, 1) := fun mt h => (show some zm_X9_see = some mt from h) |> Option.some.inj |> fun e => e ▸ ⟨rfl, rfl, rfl, Or.inl (zgw_of (List.mem_append_right _ (List.mem_append_right _ (List.mem_append_right _ (List.mem_append_right _ (List.mem_append_right _ (List.mem_of_getElem? (i := 24) (by decide +kernel))))))) rfl)⟩
theorem zl_m_r170 : zl_mP (10, 120, 0, 106, 1, 1) := fun mt h => (show some zm_X8_unsee = some mt from h) |> Option.some.inj |> fun e => e ▸ ⟨rfl, rfl, rfl, Or.inl (zgw_of (List.mem_append_right _ (List.mem_append_right _ (List.mem_append_right _ (List.mem_append_left _ (List.mem_of_getElem? (i := 39) (by decide +kernel)))))) rfl)⟩
theorem zl_m_r171 : zl_mP (10, 123, 0, 201, 1, 1) := fun mt h => (show some zm_X9_unsee = some mt from h) |> Option.some.inj |> fun e => e ▸ ⟨rfl, rfl, rfl, Or.inl (zgw_of (List.mem_append_right _ (List.mem_append_right _ (List.mem_append_right _ (List.mem_append_right _ (List.mem_append_right _ (List.mem_of_getElem? (i := 28) (by decide +kernel))))))) rfl)⟩
theorem zl_m_r172 : zl_mP (10, 124, 0, 107, 1, 1) := fun mt h => (show some zm_X8_which = some mt from h) |> Option.some.inj |> fun e => e ▸ ⟨rfl, rfl, rfl, Or.inl (zgw_of (List.mem_append_right _ (List.mem_append_right _ (List.mem_append_right _ (List.mem_append_left _ (List.mem_of_getElem? (i := 43) (by decide +kernel)))))) rfl)⟩
theorem zl_m_r173 : zl_mP (10, 127, 0, 203, 1, 1) := fun mt h => (show some zm_X9_which = some mt from h) |> Option.some.inj |> fun e => e ▸ ⟨rfl, rfl, rfl, Or.inl (zgw_of (List.mem_append_right _ (List.mem_append_right _ (List.mem_append_right _ (List.mem_append_right _ (List.mem_append_right _ (List.mem_of_getElem? (i := 32) (by decide +kernel))))))) rfl)⟩
theorem zl_m_r174 : zl_mP (10, 128, 0, 108, 3, 1) := fun mt h => (show some zm_X8_share = some mt from h) |> Option.some.inj |> fun e => e ▸ ⟨rfl, rfl, rfl, Or.inl (zgw_of (List.mem_append_right _ (List.mem_append_right _ (List.mem_append_right _ (List.mem_append_left _ (List.mem_of_getElem? (i := 53) (by decide +kernel)))))) rfl)⟩
theorem zl_m_r175 : zl_mP (10, 132, 0, 208, 3, 1) := fun mt h => (show some zm_X9_share = some mt from h) |> Option.some.inj |> fun e => e ▸ ⟨rfl, rfl, rfl, Or.inl (zgw_of (List.mem_append_right _ (List.mem_append_right _ (List.mem_append_right _ (List.mem_append_right _ (List.mem_append_right _ (List.mem_of_getElem? (i := 40) (by decide +kernel))))))) rfl)⟩
theorem zl_m_r176 : zl_mP (10, 133, 0, 109, 3, 1) := fun mt h => (show some zm_X8_lost = some mt from h) |> Option.some.inj |> fun e => e ▸ ⟨rfl, rfl, rfl, Or.inl (zgw_of (List.mem_append_right _ (List.mem_append_right _ (List.mem_append_right _ (List.mem_append_left _ (List.mem_of_getElem? (i := 80) (by decide +kernel)))))) rfl)⟩
theorem zl_m_r177 : zl_mP (10, 136, 0, 209, 3, 1) := fun mt h => (show some zm_X9_lost = some mt from h) |> Option.some.inj |> fun e => e ▸ ⟨rfl, rfl, rfl, Or.inl (zgw_of (List.mem_append_right _ (List.mem_append_right _ (List.mem_append_right _ (List.mem_append_right _ (List.mem_append_right _ (List.mem_of_getElem? (i := 57) (by decide +kernel))))))) rfl)⟩
theorem zl_m_r178 : zl_mP (10, 137, 0, 110, 2, 2) := fun mt h => (show some zm_X8_seed = some mt from h) |> Option.some.inj |> fun e => e ▸ ⟨rfl, rfl, rfl, Or.inl (zgw_of (List.mem_append_right _ (List.mem_append_right _ (List.mem_append_right _ (List.mem_append_left _ (List.mem_of_getElem? (i := 88) (by decide +kernel)))))) rfl)⟩
theorem zl_m_r179 : zl_mP (10, 141, 0, 210, 2, 2) := fun mt h => (show some zm_X9_seed = some mt from h) |> Option.some.inj |> fun e => e ▸ ⟨rfl, rfl, rfl, Or.inl (zgw_of (List.mem_append_right _ (List.mem_append_right _ (List.mem_append_right _ (List.mem_append_right _ (List.mem_append_right _ (List.mem_of_getElem? (i := 62) (by decide +kernel))))))) rfl)⟩
theorem zl_m_r180 : zl_mP (10, 142, 0, 111, 2, 1) := fun mt h => (show some zm_X8_drawn = some mt from h) |> Option.some.inj |> fun e => e ▸ ⟨rfl, rfl, rfl, Or.inl (zgw_of (List.mem_append_right _ (List.mem_append_right _ (List.mem_append_right _ (List.mem_append_left _ (List.mem_of_getElem? (i := 92) (by decide +kernel)))))) rfl)⟩
theorem zl_m_r181 : zl_mP (10, 145, 0, 211, 2, 1) := fun mt h => (show some zm_X9_drawn = some mt from h) |> Option.some.inj |> fun e => e ▸ ⟨rfl, rfl, rfl, Or.inl (zgw_of (List.mem_append_right _ (List.mem_append_right _ (List.mem_append_right _ (List.mem_append_right _ (List.mem_append_right _ (List.mem_of_getElem? (i := 66) (by decide +kernel))))))) rfl)⟩
theorem zl_m_r182 : zl_mP (10, 146, 0, 112, 2, 1) := fun mt h => (show some zm_X8_keep = some mt from h) |> Option.some.inj |> fun e => e ▸ ⟨rfl, rfl, rfl, Or.inl (zgw_of (List.mem_append_right _ (List.mem_append_right _ (List.mem_append_right _ (List.mem_append_left _ (List.mem_of_getElem? (i := 98) (by decide +kernel)))))) rfl)⟩
theorem zl_m_r183 : zl_mP (10, 149, 0, 212, 2, 1) := fun mt h => (show some zm_X9_keep = some mt from h) |> Option.some.inj |> fun e => e ▸ ⟨rfl, rfl, rfl, Or.inl (zgw_of (List.mem_append_right _ (List.mem_append_right _ (List.mem_append_right _ (List.mem_append_right _ (List.mem_append_right _ (List.mem_of_getElem? (i := 73) (by decide +kernel))))))) rfl)⟩
theorem zl_m_r184 : zl_mP (10, 150, 0, 113, 2, 1) := fun mt h => (show some zm_X8_again = some mt from h) |> Option.some.inj |> fun e => e ▸ ⟨rfl, rfl, rfl, Or.inl (zgw_of (List.mem_append_right _ (List.mem_append_right _ (List.mem_append_right _ (List.mem_append_left _ (List.mem_of_getElem? (i := 103) (by decide +kernel)))))) rfl)⟩
theorem zl_m_r185 : zl_mP (10, 153, 0, 213, 2, 1) := fun mt h => (show some zm_X9_again = some mt from h) |> Option.some.inj |> fun e => e ▸ ⟨rfl, rfl, rfl, Or.inl (zgw_of (List.mem_append_right _ (List.mem_append_right _ (List.mem_append_right _ (List.mem_append_right _ (List.mem_append_right _ (List.mem_of_getElem? (i := 77) (by decide +kernel))))))) rfl)⟩
theorem zl_m_r186 : zl_mP (10, 154, 0, 114, 2, 1) := fun mt h => (show some zm_X8_count = some mt from h) |> Option.some.inj |> fun e => e ▸ ⟨rfl, rfl, rfl, Or.inl (zgw_of (List.mem_append_right _ (List.mem_append_right _ (List.mem_append_right _ (List.mem_append_left _ (List.mem_of_getElem? (i := 107) (by decide +kernel)))))) rfl)⟩
theorem zl_m_r187 : zl_mP (10, 157, 0, 216, 2, 1) := fun mt h => (show some zm_X9_count = some mt from h) |> Option.some.inj |> fun e => e ▸ ⟨rfl, rfl, rfl, Or.inl (zgw_of (List.mem_append_right _ (List.mem_append_right _ (List.mem_append_right _ (List.mem_append_right _ (List.mem_append_right _ (List.mem_of_getElem? (i := 81) (by decide +kernel))))))) rfl)⟩
theorem zl_m_r188 : zl_mP (9, 68, 1, 133, 1, 0) := fun mt h => (show some zm_X9_clearChoices = some mt from h) |> Option.some.inj |> fun e => e ▸ ⟨rfl, rfl, rfl, Or.inl (zgw_of (List.mem_append_right _ (List.mem_append_right _ (List.mem_append_right _ (List.mem_append_left _ (List.mem_of_getElem? (i := 129) (by decide +kernel)))))) rfl)⟩
theorem zl_m_r189 : zl_mP (9, 76, 1, 129, 3, 1) := fun mt h => (show some zm_X9_in = some mt from h) |> Option.some.inj |> fun e => e ▸ ⟨rfl, rfl, rfl, Or.inl (zgw_of (List.mem_append_right _ (List.mem_append_right _ (List.mem_append_right _ (List.mem_append_left _ (List.mem_of_getElem? (i := 234) (by decide +kernel)))))) rfl)⟩
theorem zl_m_r190 : zl_mP (9, 88, 1, 137, 3, 1) := fun mt h => (show some zm_X9_pair = some mt from h) |> Option.some.inj |> fun e => e ▸ ⟨rfl, rfl, rfl, Or.inl (zgw_of (List.mem_append_right _ (List.mem_append_right _ (List.mem_append_right _ (List.mem_append_right _ (List.mem_append_left _ (List.mem_of_getElem? (i := 25) (by decide +kernel))))))) rfl)⟩
theorem zl_m_r191 : zl_mP (9, 92, 0, 141, 3, 1) := fun mt h => (show some zm_X9_apart = some mt from h) |> Option.some.inj |> fun e => e ▸ ⟨rfl, rfl, rfl, Or.inl (zgw_of (List.mem_append_right _ (List.mem_append_right _ (List.mem_append_right _ (List.mem_append_right _ (List.mem_append_left _ (List.mem_of_getElem? (i := 21) (by decide +kernel))))))) rfl)⟩
theorem zl_m_r192 : zl_mP (9, 96, 0, 140, 3, 1) := fun mt h => (show some zm_X9_figure = some mt from h) |> Option.some.inj |> fun e => e ▸ ⟨rfl, rfl, rfl, Or.inl (zgw_of (List.mem_append_right _ (List.mem_append_right _ (List.mem_append_right _ (List.mem_append_right _ (List.mem_append_left _ (List.mem_of_getElem? (i := 9) (by decide +kernel))))))) rfl)⟩
theorem zl_m_r193 : zl_mP (9, 105, 0, 143, 2, 1) := fun mt h => (show some zm_X9_readTwo = some mt from h) |> Option.some.inj |> fun e => e ▸ ⟨rfl, rfl, rfl, Or.inl (zgw_of (List.mem_append_right _ (List.mem_append_right _ (List.mem_append_right _ (List.mem_append_right _ (List.mem_append_left _ (List.mem_of_getElem? (i := 32) (by decide +kernel))))))) rfl)⟩
theorem zl_m_r194 : zl_mP (9, 109, 0, 142, 2, 1) := fun mt h => (show some zm_X9_isAnyApart = some mt from h) |> Option.some.inj |> fun e => e ▸ ⟨rfl, rfl, rfl, Or.inl (zgw_of (List.mem_append_right _ (List.mem_append_right _ (List.mem_append_right _ (List.mem_append_right _ (List.mem_append_left _ (List.mem_of_getElem? (i := 17) (by decide +kernel))))))) rfl)⟩
theorem zl_m_r195 : zl_mP (9, 112, 0, 144, 1, 1) := fun mt h => (show some zm_X9_readLink = some mt from h) |> Option.some.inj |> fun e => e ▸ ⟨rfl, rfl, rfl, Or.inl (zgw_of (List.mem_append_right _ (List.mem_append_right _ (List.mem_append_right _ (List.mem_append_right _ (List.mem_append_left _ (List.mem_of_getElem? (i := 28) (by decide +kernel))))))) rfl)⟩
theorem zl_m_r196 : zl_mP (9, 116, 0, 146, 1, 1) := fun mt h => (show some zm_X9_readExit = some mt from h) |> Option.some.inj |> fun e => e ▸ ⟨rfl, rfl, rfl, Or.inl (zgw_of (List.mem_append_right _ (List.mem_append_right _ (List.mem_append_right _ (List.mem_append_right _ (List.mem_append_left _ (List.mem_of_getElem? (i := 36) (by decide +kernel))))))) rfl)⟩
theorem zl_m_r197 : zl_mP (9, 119, 0, 145, 2, 1) := fun mt h => (show some zm_X9_readSession = some mt from h) |> Option.some.inj |> fun e => e ▸ ⟨rfl, rfl, rfl, Or.inl (zgw_of (List.mem_append_right _ (List.mem_append_right _ (List.mem_append_right _ (List.mem_append_right _ (List.mem_append_left _ (List.mem_of_getElem? (i := 40) (by decide +kernel))))))) rfl)⟩
theorem zl_m_r198 : zl_mP (9, 126, 0, 147, 1, 1) := fun mt h => (show some zm_X9_readPart = some mt from h) |> Option.some.inj |> fun e => e ▸ ⟨rfl, rfl, rfl, Or.inl (zgw_of (List.mem_append_right _ (List.mem_append_right _ (List.mem_append_right _ (List.mem_append_right _ (List.mem_append_left _ (List.mem_of_getElem? (i := 13) (by decide +kernel))))))) rfl)⟩
theorem zl_m_r199 : zl_mP (9, 129, 0, 148, 1, 1) := fun mt h => (show some zm_X9_readDomain = some mt from h) |> Option.some.inj |> fun e => e ▸ ⟨rfl, rfl, rfl, Or.inl (zgw_of (List.mem_append_right _ (List.mem_append_right _ (List.mem_append_right _ (List.mem_append_right _ (List.mem_append_left _ (List.mem_of_getElem? (i := 5) (by decide +kernel))))))) rfl)⟩
theorem zl_m_r200 : zl_mP (9, 133, 1, 134, 2, 0) := fun mt h => (show some zm_X9_lay = some mt from h) |> Option.some.inj |> fun e => e ▸ ⟨rfl, rfl, rfl, Or.inl (zgw_of (List.mem_append_right _ (List.mem_append_right _ (List.mem_append_right _ (List.mem_append_right _ (List.mem_append_left _ (List.mem_of_getElem? (i := 48) (by decide +kernel))))))) rfl)⟩
theorem zl_m_r201 : zl_mP (9, 140, 0, 135, 2, 1) := fun mt h => (show some zm_X9_noRouter = some mt from h) |> Option.some.inj |> fun e => e ▸ ⟨rfl, rfl, rfl, Or.inl (zgw_of (List.mem_append_right _ (List.mem_append_right _ (List.mem_append_right _ (List.mem_append_right _ (List.mem_append_left _ (List.mem_of_getElem? (i := 55) (by decide +kernel))))))) rfl)⟩
theorem zl_m_r202 : zl_mP (9, 143, 0, 151, 2, 0) := fun mt h => (show some zm_X9_layCosts = some mt from h) |> Option.some.inj |> fun e => e ▸ ⟨rfl, rfl, rfl, Or.inl (zgw_of (List.mem_append_right _ (List.mem_append_right _ (List.mem_append_right _ (List.mem_append_right _ (List.mem_append_left _ (List.mem_of_getElem? (i := 59) (by decide +kernel))))))) rfl)⟩
theorem zl_m_r203 : zl_mP (9, 146, 0, 136, 2, 1) := fun mt h => (show some zm_X9_noExit = some mt from h) |> Option.some.inj |> fun e => e ▸ ⟨rfl, rfl, rfl, Or.inl (zgw_of (List.mem_append_right _ (List.mem_append_right _ (List.mem_append_right _ (List.mem_append_right _ (List.mem_append_left _ (List.mem_of_getElem? (i := 71) (by decide +kernel))))))) rfl)⟩
theorem zl_m_r204 : zl_mP (9, 151, 1, 154, 3, 1) := fun mt h => (show some zm_X9_exitOf = some mt from h) |> Option.some.inj |> fun e => e ▸ ⟨rfl, rfl, rfl, Or.inl (zgw_of (List.mem_append_right _ (List.mem_append_right _ (List.mem_append_right _ (List.mem_append_right _ (List.mem_append_left _ (List.mem_of_getElem? (i := 76) (by decide +kernel))))))) rfl)⟩
theorem zl_m_r205 : zl_mP (9, 155, 1, 156, 2, 1) := fun mt h => (show some zm_X9_at = some mt from h) |> Option.some.inj |> fun e => e ▸ ⟨rfl, rfl, rfl, Or.inl (zgw_of (List.mem_append_right _ (List.mem_append_right _ (List.mem_append_right _ (List.mem_append_right _ (List.mem_append_left _ (List.mem_of_getElem? (i := 109) (by decide +kernel))))))) rfl)⟩
theorem zl_m_r206 : zl_mP (9, 158, 1, 131, 1, 1) := fun mt h => (show some zm_X9_ones = some mt from h) |> Option.some.inj |> fun e => e ▸ ⟨rfl, rfl, rfl, Or.inl (zgw_of (List.mem_append_right _ (List.mem_append_right _ (List.mem_append_right _ (List.mem_append_right _ (List.mem_append_left _ (List.mem_of_getElem? (i := 106) (by decide +kernel))))))) rfl)⟩
theorem zl_m_r207 : zl_mP (9, 162, 1, 130, 2, 1) := fun mt h => (show some zm_X9_has = some mt from h) |> Option.some.inj |> fun e => e ▸ ⟨rfl, rfl, rfl, Or.inl (zgw_of (List.mem_append_right _ (List.mem_append_right _ (List.mem_append_right _ (List.mem_append_right _ (List.mem_append_left _ (List.mem_of_getElem? (i := 99) (by decide +kernel))))))) rfl)⟩
theorem zl_m_r208 : zl_mP (9, 166, 0, 158, 4, 0) := fun mt h => (show some zm_X9_hear = some mt from h) |> Option.some.inj |> fun e => e ▸ ⟨rfl, rfl, rfl, Or.inl (zgw_of (List.mem_append_right _ (List.mem_append_right _ (List.mem_append_right _ (List.mem_append_right _ (List.mem_append_left _ (List.mem_of_getElem? (i := 102) (by decide +kernel))))))) rfl)⟩
theorem zl_m_r209 : zl_mP (9, 170, 1, 157, 4, 1) := fun mt h => (show some zm_X9_isTold = some mt from h) |> Option.some.inj |> fun e => e ▸ ⟨rfl, rfl, rfl, Or.inl (zgw_of (List.mem_append_right _ (List.mem_append_right _ (List.mem_append_right _ (List.mem_append_right _ (List.mem_append_left _ (List.mem_of_getElem? (i := 112) (by decide +kernel))))))) rfl)⟩
theorem zl_m_r210 : zl_mP (9, 174, 0, 160, 5, 1) := fun mt h => (show some zm_X9_weighed = some mt from h) |> Option.some.inj |> fun e => e ▸ ⟨rfl, rfl, rfl, Or.inl (zgw_of (List.mem_append_right _ (List.mem_append_right _ (List.mem_append_right _ (List.mem_append_right _ (List.mem_append_left _ (List.mem_of_getElem? (i := 127) (by decide +kernel))))))) rfl)⟩
theorem zl_m_r211 : zl_mP (9, 178, 0, 161, 5, 1) := fun mt h => (show some zm_X9_leave = some mt from h) |> Option.some.inj |> fun e => e ▸ ⟨rfl, rfl, rfl, Or.inl (zgw_of (List.mem_append_right _ (List.mem_append_right _ (List.mem_append_right _ (List.mem_append_right _ (List.mem_append_left _ (List.mem_of_getElem? (i := 123) (by decide +kernel))))))) rfl)⟩
theorem zl_m_r212 : zl_mP (9, 181, 0, 162, 3, 1) := fun mt h => (show some zm_X9_leaveByNeighbours = some mt from h) |> Option.some.inj |> fun e => e ▸ ⟨rfl, rfl, rfl, Or.inl (zgw_of (List.mem_append_right _ (List.mem_append_right _ (List.mem_append_right _ (List.mem_append_right _ (List.mem_append_left _ (List.mem_of_getElem? (i := 131) (by decide +kernel))))))) rfl)⟩
theorem zl_m_r213 : zl_mP (9, 185, 0, 159, 3, 0) := fun mt h => (show some zm_X9_gather = some mt from h) |> Option.some.inj |> fun e => e ▸ ⟨rfl, rfl, rfl, Or.inl (zgw_of (List.mem_append_right _ (List.mem_append_right _ (List.mem_append_right _ (List.mem_append_right _ (List.mem_append_left _ (List.mem_of_getElem? (i := 95) (by decide +kernel))))))) rfl)⟩
theorem zl_m_r214 : zl_mP (9, 189, 0, 164, 1, 1) := fun mt h => (show some zm_X9_gathered = some mt from h) |> Option.some.inj |> fun e => e ▸ ⟨rfl, rfl, rfl, Or.inl (zgw_of (List.mem_append_right _ (List.mem_append_right _ (List.mem_append_right _ (List.mem_append_right _ (List.mem_append_left _ (List.mem_of_getElem? (i := 115) (by decide +kernel))))))) rfl)⟩
theorem zl_m_r215 : zl_mP (9, 192, 0, 163, 4, 1) := fun mt h => (show some zm_X9_best = some mt from h) |> Option.some.inj |> fun e => e ▸ ⟨rfl, rfl, rfl, Or.inl (zgw_of (List.mem_append_right _ (List.mem_append_right _ (List.mem_append_right _ (List.mem_append_right _ (List.mem_append_left _ (List.mem_of_getElem? (i := 119) (by decide +kernel))))))) rfl)⟩
theorem zl_m_r216 : zl_mP (9, 195, 0, 165, 3, 0) := fun mt h => (show some zm_X9_putTaken = some mt from h) |> Option.some.inj |> fun e => e ▸ ⟨rfl, rfl, rfl, Or.inl (zgw_of (List.mem_append_right _ (List.mem_append_right _ (List.mem_append_right _ (List.mem_append_right _ (List.mem_append_left _ (List.mem_of_getElem? (i := 135) (by decide +kernel))))))) rfl)⟩
theorem zl_m_r217 : zl_mP (9, 199, 0, 166, 3, 0) := fun mt h => (show some zm_X9_take = some mt from h) |> Option.some.inj |> fun e => e ▸ ⟨rfl, rfl, rfl, Or.inl (zgw_of (List.mem_append_right _ (List.mem_append_right _ (List.mem_append_right _ (List.mem_append_right _ (List.mem_append_left _ (List.mem_of_getElem? (i := 91) (by decide +kernel))))))) rfl)⟩
theorem zl_m_r218 : zl_mP (9, 202, 0, 167, 3, 1) := fun mt h => (show some zm_X9_putChoices = some mt from h) |> Option.some.inj |> fun e => e ▸ ⟨rfl, rfl, rfl, Or.inl (zgw_of (List.mem_append_right _ (List.mem_append_right _ (List.mem_append_right _ (List.mem_append_right _ (List.mem_append_left _ (List.mem_of_getElem? (i := 139) (by decide +kernel))))))) rfl)⟩
theorem zl_m_r219 : zl_mP (9, 206, 0, 170, 1, 0) := fun mt h => (show some zm_X9_note = some mt from h) |> Option.some.inj |> fun e => e ▸ ⟨rfl, rfl, rfl, Or.inl (zgw_of (List.mem_append_right _ (List.mem_append_right _ (List.mem_append_right _ (List.mem_append_right _ (List.mem_append_left _ (List.mem_of_getElem? (i := 83) (by decide +kernel))))))) rfl)⟩
theorem zl_m_r220 : zl_mP (9, 209, 0, 168, 3, 1) := fun mt h => (show some zm_X9_stepOn = some mt from h) |> Option.some.inj |> fun e => e ▸ ⟨rfl, rfl, rfl, Or.inl (zgw_of (List.mem_append_right _ (List.mem_append_right _ (List.mem_append_right _ (List.mem_append_right _ (List.mem_append_left _ (List.mem_of_getElem? (i := 87) (by decide +kernel))))))) rfl)⟩
theorem zl_m_r221 : zl_mP (9, 212, 0, 169, 2, 1) := fun mt h => (show some zm_X9_roundOn = some mt from h) |> Option.some.inj |> fun e => e ▸ ⟨rfl, rfl, rfl, Or.inl (zgw_of (List.mem_append_right _ (List.mem_append_right _ (List.mem_append_right _ (List.mem_append_right _ (List.mem_append_left _ (List.mem_of_getElem? (i := 147) (by decide +kernel))))))) rfl)⟩
theorem zl_m_r222 : zl_mP (9, 220, 1, 176, 2, 0) := fun mt h => (show some zm_X9_addOn = some mt from h) |> Option.some.inj |> fun e => e ▸ ⟨rfl, rfl, rfl, Or.inl (zgw_of (List.mem_append_right _ (List.mem_append_right _ (List.mem_append_right _ (List.mem_append_right _ (List.mem_append_left _ (List.mem_of_getElem? (i := 169) (by decide +kernel))))))) rfl)⟩
theorem zl_m_r223 : zl_mP (9, 228, 0, 184, 3, 1) := fun mt h => (show some zm_X9_leaveFrom = some mt from h) |> Option.some.inj |> fun e => e ▸ ⟨rfl, rfl, rfl, Or.inl (zgw_of (List.mem_append_right _ (List.mem_append_right _ (List.mem_append_right _ (List.mem_append_right _ (List.mem_append_left _ (List.mem_of_getElem? (i := 201) (by decide +kernel))))))) rfl)⟩
theorem zl_m_r224 : zl_mP (9, 240, 0, 186, 3, 0) := fun mt h => (show some zm_X9_noteState = some mt from h) |> Option.some.inj |> fun e => e ▸ ⟨rfl, rfl, rfl, Or.inl (zgw_of (List.mem_append_right _ (List.mem_append_right _ (List.mem_append_right _ (List.mem_append_right _ (List.mem_append_left _ (List.mem_of_getElem? (i := 214) (by decide +kernel))))))) rfl)⟩
theorem zl_m_r225 : zl_mP (9, 243, 0, 187, 3, 1) := fun mt h => (show some zm_X9_areSame = some mt from h) |> Option.some.inj |> fun e => e ▸ ⟨rfl, rfl, rfl, Or.inl (zgw_of (List.mem_append_right _ (List.mem_append_right _ (List.mem_append_right _ (List.mem_append_right _ (List.mem_append_left _ (List.mem_of_getElem? (i := 218) (by decide +kernel))))))) rfl)⟩
theorem zl_m_r226 : zl_mP (9, 246, 0, 188, 2, 0) := fun mt h => (show some zm_X9_runOn = some mt from h) |> Option.some.inj |> fun e => e ▸ ⟨rfl, rfl, rfl, Or.inl (zgw_of (List.mem_append_right _ (List.mem_append_right _ (List.mem_append_right _ (List.mem_append_right _ (List.mem_append_left _ (List.mem_of_getElem? (i := 210) (by decide +kernel))))))) rfl)⟩
theorem zl_m_r227 : zl_mP (9, 251, 1, 189, 1, 1) := fun mt h => (show some zm_X9_told = some mt from h) |> Option.some.inj |> fun e => e ▸ ⟨rfl, rfl, rfl, Or.inl (zgw_of (List.mem_append_right _ (List.mem_append_right _ (List.mem_append_right _ (List.mem_append_right _ (List.mem_append_left _ (List.mem_of_getElem? (i := 222) (by decide +kernel))))))) rfl)⟩
theorem zl_m_r228 : zl_mP (9, 254, 1, 132, 2, 1) := fun mt h => (show some zm_X9_power = some mt from h) |> Option.some.inj |> fun e => e ▸ ⟨rfl, rfl, rfl, Or.inl (zgw_of (List.mem_append_right _ (List.mem_append_right _ (List.mem_append_right _ (List.mem_append_right _ (List.mem_append_left _ (List.mem_of_getElem? (i := 229) (by decide +kernel))))))) rfl)⟩
theorem zl_m_r229 : zl_mP (9, 257, 0, 193, 2, 1) := fun mt h => (show some zm_X9_isOrder = some mt from h) |> Option.some.inj |> fun e => e ▸ ⟨rfl, rfl, rfl, Or.inl (zgw_of (List.mem_append_right _ (List.mem_append_right _ (List.mem_append_right _ (List.mem_append_right _ (List.mem_append_left _ (List.mem_of_getElem? (i := 232) (by decide +kernel))))))) rfl)⟩
theorem zl_m_r230 : zl_mP (9, 260, 0, 192, 2, 1) := fun mt h => (show some zm_X9_restsBy = some mt from h) |> Option.some.inj |> fun e => e ▸ ⟨rfl, rfl, rfl, Or.inl (zgw_of (List.mem_append_right _ (List.mem_append_right _ (List.mem_append_right _ (List.mem_append_right _ (List.mem_append_left _ (List.mem_of_getElem? (i := 236) (by decide +kernel))))))) rfl)⟩
theorem zl_m_r231 : zl_mP (9, 263, 0, 190, 3, 1) := fun mt h => (show some zm_X9_rests = some mt from h) |> Option.some.inj |> fun e => e ▸ ⟨rfl, rfl, rfl, Or.inl (zgw_of (List.mem_append_right _ (List.mem_append_right _ (List.mem_append_right _ (List.mem_append_right _ (List.mem_append_right _ (List.mem_of_getElem? (i := 4) (by decide +kernel))))))) rfl)⟩
theorem zl_m_r232 : zl_mP (9, 265, 0, 197, 1, 1) := fun mt h => (show some zm_X9_runsToRest = some mt from h) |> Option.some.inj |> fun e => e ▸ ⟨rfl, rfl, rfl, Or.inl (zgw_of (List.mem_append_right _ (List.mem_append_right _ (List.mem_append_right _ (List.mem_append_right _ (List.mem_append_right _ (List.mem_of_getElem? (i := 20) (by decide +kernel))))))) rfl)⟩
theorem zl_m_r233 : zl_mP (9, 270, 1, 196, 2, 2) := fun mt h => (show some zm_X9_longPower = some mt from h) |> Option.some.inj |> fun e => e ▸ ⟨rfl, rfl, rfl, Or.inl (zgw_of (List.mem_append_right _ (List.mem_append_right _ (List.mem_append_right _ (List.mem_append_right _ (List.mem_append_right _ (List.mem_of_getElem? (i := 13) (by decide +kernel))))))) rfl)⟩
theorem zl_m_r234 : zl_mP (9, 274, 0, 198, 2, 1) := fun mt h => (show some zm_X9_does = some mt from h) |> Option.some.inj |> fun e => e ▸ ⟨rfl, rfl, rfl, Or.inl (zgw_of (List.mem_append_right _ (List.mem_append_right _ (List.mem_append_right _ (List.mem_append_right _ (List.mem_append_right _ (List.mem_of_getElem? (i := 16) (by decide +kernel))))))) rfl)⟩
theorem zl_m_r235 : zl_mP (9, 280, 0, 202, 2, 1) := fun mt h => (show some zm_X9_agrees = some mt from h) |> Option.some.inj |> fun e => e ▸ ⟨rfl, rfl, rfl, Or.inl (zgw_of (List.mem_append_right _ (List.mem_append_right _ (List.mem_append_right _ (List.mem_append_right _ (List.mem_append_right _ (List.mem_of_getElem? (i := 36) (by decide +kernel))))))) rfl)⟩
theorem zl_m_r236 : zl_mP (9, 283, 1, 204, 2, 1) := fun mt h => (show some zm_X9_divisor = some mt from h) |> Option.some.inj |> fun e => e ▸ ⟨rfl, rfl, rfl, Or.inl (zgw_of (List.mem_append_right _ (List.mem_append_right _ (List.mem_append_right _ (List.mem_append_right _ (List.mem_append_right _ (List.mem_of_getElem? (i := 54) (by decide +kernel))))))) rfl)⟩
theorem zl_m_r237 : zl_mP (9, 286, 0, 207, 2, 1) := fun mt h => (show some zm_X9_unlikeBy = some mt from h) |> Option.some.inj |> fun e => e ▸ ⟨rfl, rfl, rfl, Or.inl (zgw_of (List.mem_append_right _ (List.mem_append_right _ (List.mem_append_right _ (List.mem_append_right _ (List.mem_append_right _ (List.mem_of_getElem? (i := 44) (by decide +kernel))))))) rfl)⟩
theorem zl_m_r238 : zl_mP (9, 289, 1, 206, 1, 1) := fun mt h => (show some zm_X9_factorial = some mt from h) |> Option.some.inj |> fun e => e ▸ ⟨rfl, rfl, rfl, Or.inl (zgw_of (List.mem_append_right _ (List.mem_append_right _ (List.mem_append_right _ (List.mem_append_right _ (List.mem_append_right _ (List.mem_of_getElem? (i := 48) (by decide +kernel))))))) rfl)⟩
theorem zl_m_r239 : zl_mP (9, 292, 1, 205, 3, 1) := fun mt h => (show some zm_X9_fraction = some mt from h) |> Option.some.inj |> fun e => e ▸ ⟨rfl, rfl, rfl, Or.inl (zgw_of (List.mem_append_right _ (List.mem_append_right _ (List.mem_append_right _ (List.mem_append_right _ (List.mem_append_right _ (List.mem_of_getElem? (i := 51) (by decide +kernel))))))) rfl)⟩
theorem zl_m_r240 : zl_mP (9, 308, 0, 214, 2, 1) := fun mt h => (show some zm_X9_joined = some mt from h) |> Option.some.inj |> fun e => e ▸ ⟨rfl, rfl, rfl, Or.inl (zgw_of (List.mem_append_right _ (List.mem_append_right _ (List.mem_append_right _ (List.mem_append_right _ (List.mem_append_right _ (List.mem_of_getElem? (i := 85) (by decide +kernel))))))) rfl)⟩
theorem zl_m_r241 : zl_mP (9, 311, 0, 215, 1, 1) := fun mt h => (show some zm_X9_withFirst = some mt from h) |> Option.some.inj |> fun e => e ▸ ⟨rfl, rfl, rfl, Or.inl (zgw_of (List.mem_append_right _ (List.mem_append_right _ (List.mem_append_right _ (List.mem_append_right _ (List.mem_append_right _ (List.mem_of_getElem? (i := 89) (by decide +kernel))))))) rfl)⟩
set_option maxRecDepth 20000 in
theorem zl_m_ok : ∀ q ∈ zl_m, zl_mP q := List.forall_mem_cons.mpr ⟨zl_m_r0, List.forall_mem_cons.mpr ⟨zl_m_r1, List.forall_mem_cons.mpr ⟨zl_m_r2, List.forall_mem_cons.mpr ⟨zl_m_r3, List.forall_mem_cons.mpr ⟨zl_m_r4, List.forall_mem_cons.mpr ⟨zl_m_r5, List.forall_mem_cons.mpr ⟨zl_m_r6, List.forall_mem_cons.mpr ⟨zl_m_r7, List.forall_mem_cons.mpr ⟨zl_m_r8, List.forall_mem_cons.mpr ⟨zl_m_r9, List.forall_mem_cons.mpr ⟨zl_m_r10, List.forall_mem_cons.mpr ⟨zl_m_r11, List.forall_mem_cons.mpr ⟨zl_m_r12, List.forall_mem_cons.mpr ⟨zl_m_r13, List.forall_mem_cons.mpr ⟨zl_m_r14, List.forall_mem_cons.mpr ⟨zl_m_r15, List.forall_mem_cons.mpr ⟨zl_m_r16, List.forall_mem_cons.mpr ⟨zl_m_r17, List.forall_mem_cons.mpr ⟨zl_m_r18, List.forall_mem_cons.mpr ⟨zl_m_r19, List.forall_mem_cons.mpr ⟨zl_m_r20, List.forall_mem_cons.mpr ⟨zl_m_r21, List.forall_mem_cons.mpr ⟨zl_m_r22, List.forall_mem_cons.mpr ⟨zl_m_r23, List.forall_mem_cons.mpr ⟨zl_m_r24, List.forall_mem_cons.mpr ⟨zl_m_r25, List.forall_mem_cons.mpr ⟨zl_m_r26, List.forall_mem_cons.mpr ⟨zl_m_r27, List.forall_mem_cons.mpr ⟨zl_m_r28, List.forall_mem_cons.mpr ⟨zl_m_r29, List.forall_mem_cons.mpr ⟨zl_m_r30, List.forall_mem_cons.mpr ⟨zl_m_r31, List.forall_mem_cons.mpr ⟨zl_m_r32, List.forall_mem_cons.mpr ⟨zl_m_r33, List.forall_mem_cons.mpr ⟨zl_m_r34, List.forall_mem_cons.mpr ⟨zl_m_r35, List.forall_mem_cons.mpr ⟨zl_m_r36, List.forall_mem_cons.mpr ⟨zl_m_r37, List.forall_mem_cons.mpr ⟨zl_m_r38, List.forall_mem_cons.mpr ⟨zl_m_r39, List.forall_mem_cons.mpr ⟨zl_m_r40, List.forall_mem_cons.mpr ⟨zl_m_r41, List.forall_mem_cons.mpr ⟨zl_m_r42, List.forall_mem_cons.mpr ⟨zl_m_r43, List.forall_mem_cons.mpr ⟨zl_m_r44, List.forall_mem_cons.mpr ⟨zl_m_r45, List.forall_mem_cons.mpr ⟨zl_m_r46, List.forall_mem_cons.mpr ⟨zl_m_r47, List.forall_mem_cons.mpr ⟨zl_m_r48, List.forall_mem_cons.mpr ⟨zl_m_r49, List.forall_mem_cons.mpr ⟨zl_m_r50, List.forall_mem_cons.mpr ⟨zl_m_r51, List.forall_mem_cons.mpr ⟨zl_m_r52, List.forall_mem_cons.mpr ⟨zl_m_r53, List.forall_mem_cons.mpr ⟨zl_m_r54, List.forall_mem_cons.mpr ⟨zl_m_r55, List.forall_mem_cons.mpr ⟨zl_m_r56, List.forall_mem_cons.mpr ⟨zl_m_r57, List.forall_mem_cons.mpr ⟨zl_m_r58, List.forall_mem_cons.mpr ⟨zl_m_r59, List.forall_mem_cons.mpr ⟨zl_m_r60, List.forall_mem_cons.mpr ⟨zl_m_r61, List.forall_mem_cons.mpr ⟨zl_m_r62, List.forall_mem_cons.mpr ⟨zl_m_r63, List.forall_mem_cons.mpr ⟨zl_m_r64, List.forall_mem_cons.mpr ⟨zl_m_r65, List.forall_mem_cons.mpr ⟨zl_m_r66, List.forall_mem_cons.mpr ⟨zl_m_r67, List.forall_mem_cons.mpr ⟨zl_m_r68, List.forall_mem_cons.mpr ⟨zl_m_r69, List.forall_mem_cons.mpr ⟨zl_m_r70, List.forall_mem_cons.mpr ⟨zl_m_r71, List.forall_mem_cons.mpr ⟨zl_m_r72, List.forall_mem_cons.mpr ⟨zl_m_r73, List.forall_mem_cons.mpr ⟨zl_m_r74, List.forall_mem_cons.mpr ⟨zl_m_r75, List.forall_mem_cons.mpr ⟨zl_m_r76, List.forall_mem_cons.mpr ⟨zl_m_r77, List.forall_mem_cons.mpr ⟨zl_m_r78, List.forall_mem_cons.mpr ⟨zl_m_r79, List.forall_mem_cons.mpr ⟨zl_m_r80, List.forall_mem_cons.mpr ⟨zl_m_r81, List.forall_mem_cons.mpr ⟨zl_m_r82, List.forall_mem_cons.mpr ⟨zl_m_r83, List.forall_mem_cons.mpr ⟨zl_m_r84, List.forall_mem_cons.mpr ⟨zl_m_r85, List.forall_mem_cons.mpr ⟨zl_m_r86, List.forall_mem_cons.mpr ⟨zl_m_r87, List.forall_mem_cons.mpr ⟨zl_m_r88, List.forall_mem_cons.mpr ⟨zl_m_r89, List.forall_mem_cons.mpr ⟨zl_m_r90, List.forall_mem_cons.mpr ⟨zl_m_r91, List.forall_mem_cons.mpr ⟨zl_m_r92, List.forall_mem_cons.mpr ⟨zl_m_r93, List.forall_mem_cons.mpr ⟨zl_m_r94, List.forall_mem_cons.mpr ⟨zl_m_r95, List.forall_mem_cons.mpr ⟨zl_m_r96, List.forall_mem_cons.mpr ⟨zl_m_r97, List.forall_mem_cons.mpr ⟨zl_m_r98, List.forall_mem_cons.mpr ⟨zl_m_r99, List.forall_mem_cons.mpr ⟨zl_m_r100, List.forall_mem_cons.mpr ⟨zl_m_r101, List.forall_mem_cons.mpr ⟨zl_m_r102, List.forall_mem_cons.mpr ⟨zl_m_r103, List.forall_mem_cons.mpr ⟨zl_m_r104, List.forall_mem_cons.mpr ⟨zl_m_r105, List.forall_mem_cons.mpr ⟨zl_m_r106, List.forall_mem_cons.mpr ⟨zl_m_r107, List.forall_mem_cons.mpr ⟨zl_m_r108, List.forall_mem_cons.mpr ⟨zl_m_r109, List.forall_mem_cons.mpr ⟨zl_m_r110, List.forall_mem_cons.mpr ⟨zl_m_r111, List.forall_mem_cons.mpr ⟨zl_m_r112, List.forall_mem_cons.mpr ⟨zl_m_r113, List.forall_mem_cons.mpr ⟨zl_m_r114, List.forall_mem_cons.mpr ⟨zl_m_r115, List.forall_mem_cons.mpr ⟨zl_m_r116, List.forall_mem_cons.mpr ⟨zl_m_r117, List.forall_mem_cons.mpr ⟨zl_m_r118, List.forall_mem_cons.mpr ⟨zl_m_r119, List.forall_mem_cons.mpr ⟨zl_m_r120, List.forall_mem_cons.mpr ⟨zl_m_r121, List.forall_mem_cons.mpr ⟨zl_m_r122, List.forall_mem_cons.mpr ⟨zl_m_r123, List.forall_mem_cons.mpr ⟨zl_m_r124, List.forall_mem_cons.mpr ⟨zl_m_r125, List.forall_mem_cons.mpr ⟨zl_m_r126, List.forall_mem_cons.mpr ⟨zl_m_r127, List.forall_mem_cons.mpr ⟨zl_m_r128, List.forall_mem_cons.mpr ⟨zl_m_r129, List.forall_mem_cons.mpr ⟨zl_m_r130, List.forall_mem_cons.mpr ⟨zl_m_r131, List.forall_mem_cons.mpr ⟨zl_m_r132, List.forall_mem_cons.mpr ⟨zl_m_r133, List.forall_mem_cons.mpr ⟨zl_m_r134, List.forall_mem_cons.mpr ⟨zl_m_r135, List.forall_mem_cons.mpr ⟨zl_m_r136, List.forall_mem_cons.mpr ⟨zl_m_r137, List.forall_mem_cons.mpr ⟨zl_m_r138, List.forall_mem_cons.mpr ⟨zl_m_r139, List.forall_mem_cons.mpr ⟨zl_m_r140, List.forall_mem_cons.mpr ⟨zl_m_r141, List.forall_mem_cons.mpr ⟨zl_m_r142, List.forall_mem_cons.mpr ⟨zl_m_r143, List.forall_mem_cons.mpr ⟨zl_m_r144, List.forall_mem_cons.mpr ⟨zl_m_r145, List.forall_mem_cons.mpr ⟨zl_m_r146, List.forall_mem_cons.mpr ⟨zl_m_r147, List.forall_mem_cons.mpr ⟨zl_m_r148, List.forall_mem_cons.mpr ⟨zl_m_r149, List.forall_mem_cons.mpr ⟨zl_m_r150, List.forall_mem_cons.mpr ⟨zl_m_r151, List.forall_mem_cons.mpr ⟨zl_m_r152, List.forall_mem_cons.mpr ⟨zl_m_r153, List.forall_mem_cons.mpr ⟨zl_m_r154, List.forall_mem_cons.mpr ⟨zl_m_r155, List.forall_mem_cons.mpr ⟨zl_m_r156, List.forall_mem_cons.mpr ⟨zl_m_r157, List.forall_mem_cons.mpr ⟨zl_m_r158, List.forall_mem_cons.mpr ⟨zl_m_r159, List.forall_mem_cons.mpr ⟨zl_m_r160, List.forall_mem_cons.mpr ⟨zl_m_r161, List.forall_mem_cons.mpr ⟨zl_m_r162, List.forall_mem_cons.mpr ⟨zl_m_r163, List.forall_mem_cons.mpr ⟨zl_m_r164, List.forall_mem_cons.mpr ⟨zl_m_r165, List.forall_mem_cons.mpr ⟨zl_m_r166, List.forall_mem_cons.mpr ⟨zl_m_r167, List.forall_mem_cons.mpr ⟨zl_m_r168, List.forall_mem_cons.mpr ⟨zl_m_r169, List.forall_mem_cons.mpr ⟨zl_m_r170, List.forall_mem_cons.mpr ⟨zl_m_r171, List.forall_mem_cons.mpr ⟨zl_m_r172, List.forall_mem_cons.mpr ⟨zl_m_r173, List.forall_mem_cons.mpr ⟨zl_m_r174, List.forall_mem_cons.mpr ⟨zl_m_r175, List.forall_mem_cons.mpr ⟨zl_m_r176, List.forall_mem_cons.mpr ⟨zl_m_r177, List.forall_mem_cons.mpr ⟨zl_m_r178, List.forall_mem_cons.mpr ⟨zl_m_r179, List.forall_mem_cons.mpr ⟨zl_m_r180, List.forall_mem_cons.mpr ⟨zl_m_r181, List.forall_mem_cons.mpr ⟨zl_m_r182, List.forall_mem_cons.mpr ⟨zl_m_r183, List.forall_mem_cons.mpr ⟨zl_m_r184, List.forall_mem_cons.mpr ⟨zl_m_r185, List.forall_mem_cons.mpr ⟨zl_m_r186, List.forall_mem_cons.mpr ⟨zl_m_r187, List.forall_mem_cons.mpr ⟨zl_m_r188, List.forall_mem_cons.mpr ⟨zl_m_r189, List.forall_mem_cons.mpr ⟨zl_m_r190, List.forall_mem_cons.mpr ⟨zl_m_r191, List.forall_mem_cons.mpr ⟨zl_m_r192, List.forall_mem_cons.mpr ⟨zl_m_r193, List.forall_mem_cons.mpr ⟨zl_m_r194, List.forall_mem_cons.mpr ⟨zl_m_r195, List.forall_mem_cons.mpr ⟨zl_m_r196, List.forall_mem_cons.mpr ⟨zl_m_r197, List.forall_mem_cons.mpr ⟨zl_m_r198, List.forall_mem_cons.mpr ⟨zl_m_r199, List.forall_mem_cons.mpr ⟨zl_m_r200, List.forall_mem_cons.mpr ⟨zl_m_r201, List.forall_mem_cons.mpr ⟨zl_m_r202, List.forall_mem_cons.mpr ⟨zl_m_r203, List.forall_mem_cons.mpr ⟨zl_m_r204, List.forall_mem_cons.mpr ⟨zl_m_r205, List.forall_mem_cons.mpr ⟨zl_m_r206, List.forall_mem_cons.mpr ⟨zl_m_r207, List.forall_mem_cons.mpr ⟨zl_m_r208, List.forall_mem_cons.mpr ⟨zl_m_r209, List.forall_mem_cons.mpr ⟨zl_m_r210, List.forall_mem_cons.mpr ⟨zl_m_r211, List.forall_mem_cons.mpr ⟨zl_m_r212, List.forall_mem_cons.mpr ⟨zl_m_r213, List.forall_mem_cons.mpr ⟨zl_m_r214, List.forall_mem_cons.mpr ⟨zl_m_r215, List.forall_mem_cons.mpr ⟨zl_m_r216, List.forall_mem_cons.mpr ⟨zl_m_r217, List.forall_mem_cons.mpr ⟨zl_m_r218, List.forall_mem_cons.mpr ⟨zl_m_r219, List.forall_mem_cons.mpr ⟨zl_m_r220, List.forall_mem_cons.mpr ⟨zl_m_r221, List.forall_mem_cons.mpr ⟨zl_m_r222, List.forall_mem_cons.mpr ⟨zl_m_r223, List.forall_mem_cons.mpr ⟨zl_m_r224, List.forall_mem_cons.mpr ⟨zl_m_r225, List.forall_mem_cons.mpr ⟨zl_m_r226, List.forall_mem_cons.mpr ⟨zl_m_r227, List.forall_mem_cons.mpr ⟨zl_m_r228, List.forall_mem_cons.mpr ⟨zl_m_r229, List.forall_mem_cons.mpr ⟨zl_m_r230, List.forall_mem_cons.mpr ⟨zl_m_r231, List.forall_mem_cons.mpr ⟨zl_m_r232, List.forall_mem_cons.mpr ⟨zl_m_r233, List.forall_mem_cons.mpr ⟨zl_m_r234, List.forall_mem_cons.mpr ⟨zl_m_r235, List.forall_mem_cons.mpr ⟨zl_m_r236, List.forall_mem_cons.mpr ⟨zl_m_r237, List.forall_mem_cons.mpr ⟨zl_m_r238, List.forall_mem_cons.mpr ⟨zl_m_r239, List.forall_mem_cons.mpr ⟨zl_m_r240, List.forall_mem_cons.mpr ⟨zl_m_r241, fun _ h => absurd h List.not_mem_nil⟩⟩⟩⟩⟩⟩⟩⟩⟩⟩⟩⟩⟩⟩⟩⟩⟩⟩⟩⟩⟩⟩⟩⟩⟩⟩⟩⟩⟩⟩⟩⟩⟩⟩⟩⟩⟩⟩⟩⟩⟩⟩⟩⟩⟩⟩⟩⟩⟩⟩⟩⟩⟩⟩⟩⟩⟩⟩⟩⟩⟩⟩⟩⟩⟩⟩⟩⟩⟩⟩⟩⟩⟩⟩⟩⟩⟩⟩⟩⟩⟩⟩⟩⟩⟩⟩⟩⟩⟩⟩⟩⟩⟩⟩⟩⟩⟩⟩⟩⟩⟩⟩⟩⟩⟩⟩⟩⟩⟩⟩⟩⟩⟩⟩⟩⟩⟩⟩⟩⟩⟩⟩⟩⟩⟩⟩⟩⟩⟩⟩⟩⟩⟩⟩⟩⟩⟩⟩⟩⟩⟩⟩⟩⟩⟩⟩⟩⟩⟩⟩⟩⟩⟩⟩⟩⟩⟩⟩⟩⟩⟩⟩⟩⟩⟩⟩⟩⟩⟩⟩⟩⟩⟩⟩⟩⟩⟩⟩⟩⟩⟩⟩⟩⟩⟩⟩⟩⟩⟩⟩⟩⟩⟩⟩⟩⟩⟩⟩⟩⟩⟩⟩⟩⟩⟩⟩⟩⟩⟩⟩⟩⟩⟩⟩⟩⟩⟩⟩⟩⟩⟩⟩⟩⟩⟩⟩⟩⟩⟩⟩⟩⟩⟩⟩⟩⟩⟩⟩⟩⟩⟩⟩
def zl_c : List (Nat × Nat × Nat) := [(8, 9, 4), (8, 16, 3), (8, 23, 6), (8, 35, 0), (8, 42, 1), (8, 49, 2), (8, 56, 7), (8, 67, 5), (2, 9, 7), (6, 9, 7), (10, 7, 8), (10, 10, 9)]
def zl_cP (q : Nat × Nat × Nat) : Prop := Cond.classLink (zn_own q.1) q.2.1 (zn_own q.2.2) ∈ zgw ∧ Cond.instantiable (zn_own q.2.2) (zn_nf q.2.2) ∈ zgw ∧ Cond.initialized (zn_own q.2.2) ∈ zgw
theorem zl_c_r0 : zl_cP (8, 9, 4) := ⟨zgw_of (List.mem_append_left _ (List.mem_of_getElem? (i := 23) (by decide +kernel))) rfl, zgw_of (List.mem_append_left _ (List.mem_of_getElem? (i := 24) (by decide +kernel))) rfl, zgw_of (List.mem_append_left _ (List.mem_of_getElem? (i := 2) (by decide +kernel))) rfl⟩
theorem zl_c_r1 : zl_cP (8, 16, 3) := ⟨zgw_of (List.mem_append_left _ (List.mem_of_getElem? (i := 80) (by decide +kernel))) rfl, zgw_of (List.mem_append_left _ (List.mem_of_getElem? (i := 81) (by decide +kernel))) rfl, zgw_of (List.mem_append_left _ (List.mem_of_getElem? (i := 3) (by decide +kernel))) rfl⟩
theorem zl_c_r2 : zl_cP (8, 23, 6) := ⟨zgw_of (List.mem_append_left _ (List.mem_of_getElem? (i := 122) (by decide +kernel))) rfl, zgw_of (List.mem_append_left _ (List.mem_of_getElem? (i := 123) (by decide +kernel))) rfl, zgw_of (List.mem_append_left _ (List.mem_of_getElem? (i := 4) (by decide +kernel))) rfl⟩
theorem zl_c_r3 : zl_cP (8, 35, 0) := ⟨zgw_of (List.mem_append_left _ (List.mem_of_getElem? (i := 223) (by decide +kernel))) rfl, zgw_of (List.mem_append_left _ (List.mem_of_getElem? (i := 224) (by decide +kernel))) rfl, zgw_of (List.mem_append_left _ (List.mem_of_getElem? (i := 8) (by decide +kernel))) rfl⟩
theorem zl_c_r4 : zl_cP (8, 42, 1) := ⟨zgw_of (List.mem_append_right _ (List.mem_append_left _ (List.mem_of_getElem? (i := 5) (by decide +kernel)))) rfl, zgw_of (List.mem_append_right _ (List.mem_append_left _ (List.mem_of_getElem? (i := 6) (by decide +kernel)))) rfl, zgw_of (List.mem_append_left _ (List.mem_of_getElem? (i := 9) (by decide +kernel))) rfl⟩
theorem zl_c_r5 : zl_cP (8, 49, 2) := ⟨zgw_of (List.mem_append_right _ (List.mem_append_left _ (List.mem_of_getElem? (i := 33) (by decide +kernel)))) rfl, zgw_of (List.mem_append_right _ (List.mem_append_left _ (List.mem_of_getElem? (i := 34) (by decide +kernel)))) rfl, zgw_of (List.mem_append_left _ (List.mem_of_getElem? (i := 10) (by decide +kernel))) rfl⟩
theorem zl_c_r6 : zl_cP (8, 56, 7) := ⟨zgw_of (List.mem_append_right _ (List.mem_append_left _ (List.mem_of_getElem? (i := 53) (by decide +kernel)))) rfl, zgw_of (List.mem_append_left _ (List.mem_of_getElem? (i := 129) (by decide +kernel))) rfl, zgw_of (List.mem_append_left _ (List.mem_of_getElem? (i := 5) (by decide +kernel))) rfl⟩
theorem zl_c_r7 : zl_cP (8, 67, 5) := ⟨zgw_of (List.mem_append_right _ (List.mem_append_left _ (List.mem_of_getElem? (i := 55) (by decide +kernel)))) rfl, zgw_of (List.mem_append_right _ (List.mem_append_left _ (List.mem_of_getElem? (i := 56) (by decide +kernel)))) rfl, zgw_of (List.mem_append_left _ (List.mem_of_getElem? (i := 11) (by decide +kernel))) rfl⟩
theorem zl_c_r8 : zl_cP (2, 9, 7) := ⟨zgw_of (List.mem_append_right _ (List.mem_append_left _ (List.mem_of_getElem? (i := 39) (by decide +kernel)))) rfl, zgw_of (List.mem_append_left _ (List.mem_of_getElem? (i := 129) (by decide +kernel))) rfl, zgw_of (List.mem_append_left _ (List.mem_of_getElem? (i := 5) (by decide +kernel))) rfl⟩
theorem zl_c_r9 : zl_cP (6, 9, 7) := ⟨zgw_of (List.mem_append_left _ (List.mem_of_getElem? (i := 128) (by decide +kernel))) rfl, zgw_of (List.mem_append_left _ (List.mem_of_getElem? (i := 129) (by decide +kernel))) rfl, zgw_of (List.mem_append_left _ (List.mem_of_getElem? (i := 5) (by decide +kernel))) rfl⟩
theorem zl_c_r10 : zl_cP (10, 7, 8) := ⟨zgw_of (List.mem_append_left _ (List.mem_of_getElem? (i := 15) (by decide +kernel))) rfl, zgw_of (List.mem_append_left _ (List.mem_of_getElem? (i := 16) (by decide +kernel))) rfl, zgw_of (List.mem_append_left _ (List.mem_of_getElem? (i := 1) (by decide +kernel))) rfl⟩
theorem zl_c_r11 : zl_cP (10, 10, 9) := ⟨zgw_of (List.mem_append_right _ (List.mem_append_right _ (List.mem_append_right _ (List.mem_append_left _ (List.mem_of_getElem? (i := 123) (by decide +kernel)))))) rfl, zgw_of (List.mem_append_right _ (List.mem_append_right _ (List.mem_append_right _ (List.mem_append_left _ (List.mem_of_getElem? (i := 124) (by decide +kernel)))))) rfl, zgw_of (List.mem_append_left _ (List.mem_of_getElem? (i := 12) (by decide +kernel))) rfl⟩
theorem zl_c_ok : ∀ q ∈ zl_c, zl_cP q := List.forall_mem_cons.mpr ⟨zl_c_r0, List.forall_mem_cons.mpr ⟨zl_c_r1, List.forall_mem_cons.mpr ⟨zl_c_r2, List.forall_mem_cons.mpr ⟨zl_c_r3, List.forall_mem_cons.mpr ⟨zl_c_r4, List.forall_mem_cons.mpr ⟨zl_c_r5, List.forall_mem_cons.mpr ⟨zl_c_r6, List.forall_mem_cons.mpr ⟨zl_c_r7, List.forall_mem_cons.mpr ⟨zl_c_r8, List.forall_mem_cons.mpr ⟨zl_c_r9, List.forall_mem_cons.mpr ⟨zl_c_r10, List.forall_mem_cons.mpr ⟨zl_c_r11, fun _ h => absurd h List.not_mem_nil⟩⟩⟩⟩⟩⟩⟩⟩⟩⟩⟩⟩
def zl_l : List (Nat × Nat × Int64) := [(8, 262, 10000), (8, 294, 6364136223846793005), (8, 296, 1442695040888963407), (10, 109, 4294967295), (9, 80, 255), (9, 149, 4), (9, 216, 9), (9, 218, 5), (9, 223, 2), (9, 249, 3), (9, 268, 10000), (9, 296, 10), (9, 302, 20), (9, 304, 6364136223846793005), (9, 306, 1442695040888963407)]
def zl_lP (q : Nat × Nat × Int64) : Prop := Cond.constantLong (zn_own q.1) q.2.1 q.2.2 ∈ zgw
theorem zl_l_r0 : zl_lP (8, 262, 10000) := zgw_of (List.mem_append_right _ (List.mem_append_right _ (List.mem_append_right _ (List.mem_append_left _ (List.mem_of_getElem? (i := 10) (by decide +kernel)))))) rfl
theorem zl_l_r1 : zl_lP (8, 294, 6364136223846793005) := zgw_of (List.mem_append_right _ (List.mem_append_right _ (List.mem_append_right _ (List.mem_append_left _ (List.mem_of_getElem? (i := 96) (by decide +kernel)))))) rfl
theorem zl_l_r2 : zl_lP (8, 296, 1442695040888963407) := zgw_of (List.mem_append_right _ (List.mem_append_right _ (List.mem_append_right _ (List.mem_append_left _ (List.mem_of_getElem? (i := 97) (by decide +kernel)))))) rfl
theorem zl_l_r3 : zl_lP (10, 109, 4294967295) := zgw_of (List.mem_append_right _ (List.mem_append_right _ (List.mem_append_right _ (List.mem_append_right _ (List.mem_append_right _ (List.mem_of_getElem? (i := 93) (by decide +kernel))))))) rfl
theorem zl_l_r4 : zl_lP (9, 80, 255) := zgw_of (List.mem_append_right _ (List.mem_append_right _ (List.mem_append_right _ (List.mem_append_left _ (List.mem_of_getElem? (i := 233) (by decide +kernel)))))) rfl
theorem zl_l_r5 : zl_lP (9, 149, 4) := zgw_of (List.mem_append_right _ (List.mem_append_right _ (List.mem_append_right _ (List.mem_append_right _ (List.mem_append_left _ (List.mem_of_getElem? (i := 75) (by decide +kernel))))))) rfl
theorem zl_l_r6 : zl_lP (9, 216, 9) := zgw_of (List.mem_append_right _ (List.mem_append_right _ (List.mem_append_right _ (List.mem_append_right _ (List.mem_append_left _ (List.mem_of_getElem? (i := 155) (by decide +kernel))))))) rfl
theorem zl_l_r7 : zl_lP (9, 218, 5) := zgw_of (List.mem_append_right _ (List.mem_append_right _ (List.mem_append_right _ (List.mem_append_right _ (List.mem_append_left _ (List.mem_of_getElem? (i := 164) (by decide +kernel))))))) rfl
theorem zl_l_r8 : zl_lP (9, 223, 2) := zgw_of (List.mem_append_right _ (List.mem_append_right _ (List.mem_append_right _ (List.mem_append_right _ (List.mem_append_left _ (List.mem_of_getElem? (i := 176) (by decide +kernel))))))) rfl
theorem zl_l_r9 : zl_lP (9, 249, 3) := zgw_of (List.mem_append_right _ (List.mem_append_right _ (List.mem_append_right _ (List.mem_append_right _ (List.mem_append_left _ (List.mem_of_getElem? (i := 209) (by decide +kernel))))))) rfl
theorem zl_l_r10 : zl_lP (9, 268, 10000) := zgw_of (List.mem_append_right _ (List.mem_append_right _ (List.mem_append_right _ (List.mem_append_right _ (List.mem_append_right _ (List.mem_of_getElem? (i := 12) (by decide +kernel))))))) rfl
theorem zl_l_r11 : zl_lP (9, 296, 10) := zgw_of (List.mem_append_right _ (List.mem_append_right _ (List.mem_append_right _ (List.mem_append_right _ (List.mem_append_right _ (List.mem_of_getElem? (i := 61) (by decide +kernel))))))) rfl
theorem zl_l_r12 : zl_lP (9, 302, 20) := zgw_of (List.mem_append_right _ (List.mem_append_right _ (List.mem_append_right _ (List.mem_append_right _ (List.mem_append_right _ (List.mem_of_getElem? (i := 70) (by decide +kernel))))))) rfl
theorem zl_l_r13 : zl_lP (9, 304, 6364136223846793005) := zgw_of (List.mem_append_right _ (List.mem_append_right _ (List.mem_append_right _ (List.mem_append_right _ (List.mem_append_right _ (List.mem_of_getElem? (i := 71) (by decide +kernel))))))) rfl
theorem zl_l_r14 : zl_lP (9, 306, 1442695040888963407) := zgw_of (List.mem_append_right _ (List.mem_append_right _ (List.mem_append_right _ (List.mem_append_right _ (List.mem_append_right _ (List.mem_of_getElem? (i := 72) (by decide +kernel))))))) rfl
theorem zl_l_ok : ∀ q ∈ zl_l, zl_lP q := List.forall_mem_cons.mpr ⟨zl_l_r0, List.forall_mem_cons.mpr ⟨zl_l_r1, List.forall_mem_cons.mpr ⟨zl_l_r2, List.forall_mem_cons.mpr ⟨zl_l_r3, List.forall_mem_cons.mpr ⟨zl_l_r4, List.forall_mem_cons.mpr ⟨zl_l_r5, List.forall_mem_cons.mpr ⟨zl_l_r6, List.forall_mem_cons.mpr ⟨zl_l_r7, List.forall_mem_cons.mpr ⟨zl_l_r8, List.forall_mem_cons.mpr ⟨zl_l_r9, List.forall_mem_cons.mpr ⟨zl_l_r10, List.forall_mem_cons.mpr ⟨zl_l_r11, List.forall_mem_cons.mpr ⟨zl_l_r12, List.forall_mem_cons.mpr ⟨zl_l_r13, List.forall_mem_cons.mpr ⟨zl_l_r14, fun _ h => absurd h List.not_mem_nil⟩⟩⟩⟩⟩⟩⟩⟩⟩⟩⟩⟩⟩⟩⟩
def zl_i : List (Nat × Nat × Int32) := [(11, 265, 1431655765), (11, 266, 858993459), (11, 267, 252645135)]
def zl_iP (q : Nat × Nat × Int32) : Prop := Cond.constant (zn_own q.1) q.2.1 q.2.2 ∈ zgw
theorem zl_i_r0 : zl_iP (11, 265, 1431655765) := zgw_of (List.mem_append_right _ (List.mem_append_right _ (List.mem_append_left _ (List.mem_of_getElem? (i := 32) (by decide +kernel))))) rfl
theorem zl_i_r1 : zl_iP (11, 266, 858993459) := zgw_of (List.mem_append_right _ (List.mem_append_right _ (List.mem_append_left _ (List.mem_of_getElem? (i := 33) (by decide +kernel))))) rfl
theorem zl_i_r2 : zl_iP (11, 267, 252645135) := zgw_of (List.mem_append_right _ (List.mem_append_right _ (List.mem_append_left _ (List.mem_of_getElem? (i := 34) (by decide +kernel))))) rfl
theorem zl_i_ok : ∀ q ∈ zl_i, zl_iP q := List.forall_mem_cons.mpr ⟨zl_i_r0, List.forall_mem_cons.mpr ⟨zl_i_r1, List.forall_mem_cons.mpr ⟨zl_i_r2, fun _ h => absurd h List.not_mem_nil⟩⟩⟩
def zl_s : List (Nat × Nat × Nat) := [(8, 258, 1000001), (8, 312, 1000002)]
def zl_sP (q : Nat × Nat × Nat) : Prop := (q.2.2 = 1000001 ∧ Cond.fieldLink (zn_own q.1) q.2.1 "HiddenExits" "UNITS" "[J" ∈ zgw) ∨ (q.2.2 = 1000002 ∧ Cond.fieldLink (zn_own q.1) q.2.1 "HiddenExits" "FACTORIALS" "[I" ∈ zgw)
theorem zl_s_r0 : zl_sP (8, 258, 1000001) := Or.inl ⟨rfl, zgw_of (List.mem_append_right _ (List.mem_append_right _ (List.mem_append_right _ (List.mem_append_left _ (List.mem_of_getElem? (i := 8) (by decide +kernel)))))) rfl⟩
theorem zl_s_r1 : zl_sP (8, 312, 1000002) := Or.inr ⟨rfl, zgw_of (List.mem_append_right _ (List.mem_append_right _ (List.mem_append_right _ (List.mem_append_left _ (List.mem_of_getElem? (i := 69) (by decide +kernel)))))) rfl⟩
theorem zl_s_ok : ∀ q ∈ zl_s, zl_sP q := List.forall_mem_cons.mpr ⟨zl_s_r0, List.forall_mem_cons.mpr ⟨zl_s_r1, fun _ h => absurd h List.not_mem_nil⟩⟩
def zl_a : List (Nat × Nat) := [(0, 48), (1, 87), (3, 42), (6, 55), (7, 21)]
def zl_aP (q : Nat × Nat) : Prop := Cond.methodLink (zn_own q.1) q.2 arraycopyName ∈ zgw
theorem zl_a_r0 : zl_aP (0, 48) := zgw_of (List.mem_append_right _ (List.mem_append_right _ (List.mem_append_left _ (List.mem_of_getElem? (i := 184) (by decide +kernel))))) rfl
theorem zl_a_r1 : zl_aP (1, 87) := zgw_of (List.mem_append_right _ (List.mem_append_right _ (List.mem_append_left _ (List.mem_of_getElem? (i := 216) (by decide +kernel))))) rfl
theorem zl_a_r2 : zl_aP (3, 42) := zgw_of (List.mem_append_right _ (List.mem_append_left _ (List.mem_of_getElem? (i := 181) (by decide +kernel)))) rfl
theorem zl_a_r3 : zl_aP (6, 55) := zgw_of (List.mem_append_right _ (List.mem_append_right _ (List.mem_append_left _ (List.mem_of_getElem? (i := 58) (by decide +kernel))))) rfl
theorem zl_a_r4 : zl_aP (7, 21) := zgw_of (List.mem_append_right _ (List.mem_append_left _ (List.mem_of_getElem? (i := 200) (by decide +kernel)))) rfl
theorem zl_a_ok : ∀ q ∈ zl_a, zl_aP q := List.forall_mem_cons.mpr ⟨zl_a_r0, List.forall_mem_cons.mpr ⟨zl_a_r1, List.forall_mem_cons.mpr ⟨zl_a_r2, List.forall_mem_cons.mpr ⟨zl_a_r3, List.forall_mem_cons.mpr ⟨zl_a_r4, fun _ h => absurd h List.not_mem_nil⟩⟩⟩⟩⟩
def zl_o : List (Nat × Nat) := [(8, 3), (0, 3), (1, 3), (2, 3), (3, 3), (4, 3), (5, 3), (6, 3), (7, 3), (9, 1)]
def zl_oP (q : Nat × Nat) : Prop := Cond.methodLink (zn_own q.1) q.2 objectInit ∈ zgw
theorem zl_o_r0 : zl_oP (8, 3) := zgw_of (List.mem_append_left _ (List.mem_of_getElem? (i := 20) (by decide +kernel))) rfl
theorem zl_o_r1 : zl_oP (0, 3) := zgw_of (List.mem_append_left _ (List.mem_of_getElem? (i := 228) (by decide +kernel))) rfl
theorem zl_o_r2 : zl_oP (1, 3) := zgw_of (List.mem_append_right _ (List.mem_append_left _ (List.mem_of_getElem? (i := 10) (by decide +kernel)))) rfl
theorem zl_o_r3 : zl_oP (2, 3) := zgw_of (List.mem_append_right _ (List.mem_append_left _ (List.mem_of_getElem? (i := 38) (by decide +kernel)))) rfl
theorem zl_o_r4 : zl_oP (3, 3) := zgw_of (List.mem_append_left _ (List.mem_of_getElem? (i := 85) (by decide +kernel))) rfl
theorem zl_o_r5 : zl_oP (4, 3) := zgw_of (List.mem_append_left _ (List.mem_of_getElem? (i := 28) (by decide +kernel))) rfl
theorem zl_o_r6 : zl_oP (5, 3) := zgw_of (List.mem_append_right _ (List.mem_append_left _ (List.mem_of_getElem? (i := 60) (by decide +kernel)))) rfl
theorem zl_o_r7 : zl_oP (6, 3) := zgw_of (List.mem_append_left _ (List.mem_of_getElem? (i := 127) (by decide +kernel))) rfl
theorem zl_o_r8 : zl_oP (7, 3) := zgw_of (List.mem_append_left _ (List.mem_of_getElem? (i := 133) (by decide +kernel))) rfl
theorem zl_o_r9 : zl_oP (9, 1) := zgw_of (List.mem_append_right _ (List.mem_append_right _ (List.mem_append_right _ (List.mem_append_left _ (List.mem_of_getElem? (i := 128) (by decide +kernel)))))) rfl
theorem zl_o_ok : ∀ q ∈ zl_o, zl_oP q := List.forall_mem_cons.mpr ⟨zl_o_r0, List.forall_mem_cons.mpr ⟨zl_o_r1, List.forall_mem_cons.mpr ⟨zl_o_r2, List.forall_mem_cons.mpr ⟨zl_o_r3, List.forall_mem_cons.mpr ⟨zl_o_r4, List.forall_mem_cons.mpr ⟨zl_o_r5, List.forall_mem_cons.mpr ⟨zl_o_r6, List.forall_mem_cons.mpr ⟨zl_o_r7, List.forall_mem_cons.mpr ⟨zl_o_r8, List.forall_mem_cons.mpr ⟨zl_o_r9, fun _ h => absurd h List.not_mem_nil⟩⟩⟩⟩⟩⟩⟩⟩⟩⟩
def zl_x : List (Nat × Nat × Nat) := [(8, 315, 995), (1, 33, 997), (2, 29, 997), (2, 35, 996), (6, 77, 997)]
def zl_xn : Nat → MethodName
  | 995 => Lib.Math.abs.name
  | 996 => Lib.Math.max.name
  | _ => Lib.Math.min.name
def zl_xP (q : Nat × Nat × Nat) : Prop := Cond.methodLink (zn_own q.1) q.2.1 (zl_xn q.2.2) ∈ zgw
theorem zl_x_r0 : zl_xP (8, 315, 995) := zgw_of (List.mem_append_right _ (List.mem_append_right _ (List.mem_append_right _ (List.mem_append_left _ (List.mem_of_getElem? (i := 74) (by decide +kernel)))))) rfl
theorem zl_x_r1 : zl_xP (1, 33, 997) := zgw_of (List.mem_append_right _ (List.mem_append_right _ (List.mem_append_left _ (List.mem_of_getElem? (i := 206) (by decide +kernel))))) rfl
theorem zl_x_r2 : zl_xP (2, 29, 997) := zgw_of (List.mem_append_right _ (List.mem_append_right _ (List.mem_append_left _ (List.mem_of_getElem? (i := 4) (by decide +kernel))))) rfl
theorem zl_x_r3 : zl_xP (2, 35, 996) := zgw_of (List.mem_append_right _ (List.mem_append_right _ (List.mem_append_left _ (List.mem_of_getElem? (i := 107) (by decide +kernel))))) rfl
theorem zl_x_r4 : zl_xP (6, 77, 997) := zgw_of (List.mem_append_left _ (List.mem_of_getElem? (i := 169) (by decide +kernel))) rfl
theorem zl_x_ok : ∀ q ∈ zl_x, zl_xP q := List.forall_mem_cons.mpr ⟨zl_x_r0, List.forall_mem_cons.mpr ⟨zl_x_r1, List.forall_mem_cons.mpr ⟨zl_x_r2, List.forall_mem_cons.mpr ⟨zl_x_r3, List.forall_mem_cons.mpr ⟨zl_x_r4, fun _ h => absurd h List.not_mem_nil⟩⟩⟩⟩⟩
theorem zl_xw_abs : Cond.static Lib.Math.abs.name ∈ zgw ∧ Cond.initialized "java/lang/Math" ∈ zgw ∧ Cond.code Lib.Math.abs.name Lib.Math.abs.code 1 (some .int) ∈ zgw := ⟨zgw_of (List.mem_append_right _ (List.mem_append_right _ (List.mem_append_right _ (List.mem_append_left _ (List.mem_of_getElem? (i := 75) (by decide +kernel)))))) rfl, zgw_of (List.mem_append_left _ (List.mem_of_getElem? (i := 6) (by decide +kernel))) rfl, zgw_of (List.mem_append_right _ (List.mem_append_right _ (List.mem_append_right _ (List.mem_append_left _ (List.mem_of_getElem? (i := 76) (by decide +kernel)))))) rfl⟩
theorem zl_xw_max : Cond.static Lib.Math.max.name ∈ zgw ∧ Cond.initialized "java/lang/Math" ∈ zgw ∧ Cond.code Lib.Math.max.name Lib.Math.max.code 2 (some .int) ∈ zgw := ⟨zgw_of (List.mem_append_right _ (List.mem_append_right _ (List.mem_append_left _ (List.mem_of_getElem? (i := 108) (by decide +kernel))))) rfl, zgw_of (List.mem_append_left _ (List.mem_of_getElem? (i := 6) (by decide +kernel))) rfl, zgw_of (List.mem_append_right _ (List.mem_append_right _ (List.mem_append_left _ (List.mem_of_getElem? (i := 109) (by decide +kernel))))) rfl⟩
theorem zl_xw_min : Cond.static Lib.Math.min.name ∈ zgw ∧ Cond.initialized "java/lang/Math" ∈ zgw ∧ Cond.code Lib.Math.min.name Lib.Math.min.code 2 (some .int) ∈ zgw := ⟨zgw_of (List.mem_append_left _ (List.mem_of_getElem? (i := 170) (by decide +kernel))) rfl, zgw_of (List.mem_append_left _ (List.mem_of_getElem? (i := 6) (by decide +kernel))) rfl, zgw_of (List.mem_append_left _ (List.mem_of_getElem? (i := 171) (by decide +kernel))) rfl⟩
theorem zl_acw : Cond.native arraycopyName ∈ zgw ∧ Cond.static arraycopyName ∈ zgw ∧ Cond.initialized "java/lang/System" ∈ zgw := ⟨zgw_of (List.mem_append_right _ (List.mem_append_left _ (List.mem_of_getElem? (i := 183) (by decide +kernel)))) rfl, zgw_of (List.mem_append_right _ (List.mem_append_left _ (List.mem_of_getElem? (i := 182) (by decide +kernel)))) rfl, zgw_of (List.mem_append_left _ (List.mem_of_getElem? (i := 13) (by decide +kernel))) rfl⟩
theorem zl_obw : Cond.instanceMethod objectInit ∈ zgw ∧ Cond.code objectInit ⟨#[0xb1]⟩ 1 none ∈ zgw := ⟨zgw_of (List.mem_append_left _ (List.mem_of_getElem? (i := 21) (by decide +kernel))) rfl, zgw_of (List.mem_append_left _ (List.mem_of_getElem? (i := 22) (by decide +kernel))) rfl⟩
theorem zl_ar_int : Cond.arrayClass .int ∈ zgw := zgw_of (List.mem_append_left _ (List.mem_of_getElem? (i := 79) (by decide +kernel))) rfl
theorem zl_ar_char : Cond.arrayClass .char ∈ zgw := zgw_of (List.mem_append_left _ (List.mem_of_getElem? (i := 78) (by decide +kernel))) rfl
theorem zl_ar_boolean : Cond.arrayClass .boolean ∈ zgw := zgw_of (List.mem_append_right _ (List.mem_append_left _ (List.mem_of_getElem? (i := 75) (by decide +kernel)))) rfl
end
