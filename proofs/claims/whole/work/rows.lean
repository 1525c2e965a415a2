section
-- ===== PART A: goes FIRST, ahead of the names: the tables' words, and 'selects' of the private methods out of them =====
/-- a private method of a class that the tables say can be made, by its rows of tables_1 -/
def lw_okq (q : MethodName × Nat) : Prop := (q.1.cls ≠ "java/lang/invoke/MethodHandle" ∧ q.1.cls ≠ "java/lang/invoke/VarHandle") ∧ Cond.instantiable q.1.cls q.2 ∈ tables_1 ∧ Cond.privateMethod q.1 ∈ tables_1 ∧ Cond.instanceMethod q.1 ∈ tables_1
theorem lw_p0 : lw_okq (⟨"MovedFolders$Pad", "letters", "()I"⟩, 2) := ⟨⟨by decide +kernel, by decide +kernel⟩, List.mem_of_getElem? (i := 24) (by decide +kernel), List.mem_of_getElem? (i := 242) (by decide +kernel), List.mem_of_getElem? (i := 243) (by decide +kernel)⟩
theorem lw_p1 : lw_okq (⟨"MovedFolders$Pad", "runOf", "(IIII)I"⟩, 2) := ⟨⟨by decide +kernel, by decide +kernel⟩, List.mem_of_getElem? (i := 24) (by decide +kernel), List.mem_of_getElem? (i := 246) (by decide +kernel), List.mem_of_getElem? (i := 247) (by decide +kernel)⟩
theorem lw_p2 : lw_okq (⟨"MovedFolders$Pad", "signAt", "(I)I"⟩, 2) := ⟨⟨by decide +kernel, by decide +kernel⟩, List.mem_of_getElem? (i := 24) (by decide +kernel), List.mem_of_getElem? (i := 250) (by decide +kernel), List.mem_of_getElem? (i := 251) (by decide +kernel)⟩
theorem lw_p3 : lw_okq (⟨"MovedFolders$Pad", "figures", "()I"⟩, 2) := ⟨⟨by decide +kernel, by decide +kernel⟩, List.mem_of_getElem? (i := 24) (by decide +kernel), List.mem_of_getElem? (i := 254) (by decide +kernel), List.mem_of_getElem? (i := 255) (by decide +kernel)⟩
theorem lw_p4 : lw_okq (⟨"MovedFolders", "treeOf", "(I)LMovedFolders$Tree;"⟩, 10) := ⟨⟨by decide +kernel, by decide +kernel⟩, List.mem_of_getElem? (i := 16) (by decide +kernel), List.mem_of_getElem? (i := 268) (by decide +kernel), List.mem_of_getElem? (i := 269) (by decide +kernel)⟩
theorem lw_p5 : lw_okq (⟨"MovedFolders$Tree", "openFor", "(I)I"⟩, 3) := ⟨⟨by decide +kernel, by decide +kernel⟩, List.mem_of_getElem? (i := 44) (by decide +kernel), List.mem_of_getElem? (i := 291) (by decide +kernel), List.mem_of_getElem? (i := 292) (by decide +kernel)⟩
theorem lw_p6 : lw_okq (⟨"MovedFolders", "isFile", "(II)Z"⟩, 10) := ⟨⟨by decide +kernel, by decide +kernel⟩, List.mem_of_getElem? (i := 16) (by decide +kernel), List.mem_of_getElem? (i := 303) (by decide +kernel), List.mem_of_getElem? (i := 304) (by decide +kernel)⟩
theorem lw_p7 : lw_okq (⟨"MovedFolders", "refresh", "()V"⟩, 10) := ⟨⟨by decide +kernel, by decide +kernel⟩, List.mem_of_getElem? (i := 16) (by decide +kernel), List.mem_of_getElem? (i := 367) (by decide +kernel), List.mem_of_getElem? (i := 368) (by decide +kernel)⟩
theorem lw_p8 : lw_okq (⟨"MovedFolders$Pairs", "joinStayed", "(LMovedFolders$Tree;LMovedFolders$Tree;)V"⟩, 4) := ⟨⟨by decide +kernel, by decide +kernel⟩, List.mem_of_getElem? (i := 86) (by decide +kernel), List.mem_of_getElem? (i := 375) (by decide +kernel), List.mem_of_getElem? (i := 376) (by decide +kernel)⟩
theorem lw_p9 : lw_okq (⟨"MovedFolders$Pairs", "join", "(III)V"⟩, 4) := ⟨⟨by decide +kernel, by decide +kernel⟩, List.mem_of_getElem? (i := 86) (by decide +kernel), List.mem_of_getElem? (i := 382) (by decide +kernel), List.mem_of_getElem? (i := 383) (by decide +kernel)⟩
theorem lw_p10 : lw_okq (⟨"MovedFolders$Pairs", "rankOthers", "(LMovedFolders$Tree;LMovedFolders$Tree;I)V"⟩, 4) := ⟨⟨by decide +kernel, by decide +kernel⟩, List.mem_of_getElem? (i := 86) (by decide +kernel), List.mem_of_getElem? (i := 386) (by decide +kernel), List.mem_of_getElem? (i := 387) (by decide +kernel)⟩
theorem lw_p11 : lw_okq (⟨"MovedFolders$Pairs", "joinBest", "(LMovedFolders$Tree;LMovedFolders$Tree;)V"⟩, 4) := ⟨⟨by decide +kernel, by decide +kernel⟩, List.mem_of_getElem? (i := 86) (by decide +kernel), List.mem_of_getElem? (i := 402) (by decide +kernel), List.mem_of_getElem? (i := 403) (by decide +kernel)⟩
theorem lw_p12 : lw_okq (⟨"MovedFolders$Moves", "placeOf", "(I)I"⟩, 4) := ⟨⟨by decide +kernel, by decide +kernel⟩, List.mem_of_getElem? (i := 106) (by decide +kernel), List.mem_of_getElem? (i := 418) (by decide +kernel), List.mem_of_getElem? (i := 419) (by decide +kernel)⟩
theorem lw_p13 : lw_okq (⟨"MovedFolders$Moves", "add", "(II)V"⟩, 4) := ⟨⟨by decide +kernel, by decide +kernel⟩, List.mem_of_getElem? (i := 106) (by decide +kernel), List.mem_of_getElem? (i := 440) (by decide +kernel), List.mem_of_getElem? (i := 441) (by decide +kernel)⟩
theorem lw_p14 : lw_okq (⟨"MovedFolders$Loops", "markThose", "(LMovedFolders$Moves;LMovedFolders$Moves;LMovedFolders$Moves;)V"⟩, 2) := ⟨⟨by decide +kernel, by decide +kernel⟩, List.mem_of_getElem? (i := 136) (by decide +kernel), List.mem_of_getElem? (i := 448) (by decide +kernel), List.mem_of_getElem? (i := 449) (by decide +kernel)⟩
theorem lw_p15 : lw_okq (⟨"MovedFolders$Loops", "reachFrom", "(ILMovedFolders$Moves;LMovedFolders$Moves;)V"⟩, 2) := ⟨⟨by decide +kernel, by decide +kernel⟩, List.mem_of_getElem? (i := 136) (by decide +kernel), List.mem_of_getElem? (i := 460) (by decide +kernel), List.mem_of_getElem? (i := 461) (by decide +kernel)⟩
def lw_privs_1 : List (MethodName × Nat) := [(⟨"MovedFolders$Pad", "letters", "()I"⟩, 2), (⟨"MovedFolders$Pad", "runOf", "(IIII)I"⟩, 2), (⟨"MovedFolders$Pad", "signAt", "(I)I"⟩, 2), (⟨"MovedFolders$Pad", "figures", "()I"⟩, 2), (⟨"MovedFolders", "treeOf", "(I)LMovedFolders$Tree;"⟩, 10), (⟨"MovedFolders$Tree", "openFor", "(I)I"⟩, 3), (⟨"MovedFolders", "isFile", "(II)Z"⟩, 10), (⟨"MovedFolders", "refresh", "()V"⟩, 10), (⟨"MovedFolders$Pairs", "joinStayed", "(LMovedFolders$Tree;LMovedFolders$Tree;)V"⟩, 4), (⟨"MovedFolders$Pairs", "join", "(III)V"⟩, 4), (⟨"MovedFolders$Pairs", "rankOthers", "(LMovedFolders$Tree;LMovedFolders$Tree;I)V"⟩, 4), (⟨"MovedFolders$Pairs", "joinBest", "(LMovedFolders$Tree;LMovedFolders$Tree;)V"⟩, 4), (⟨"MovedFolders$Moves", "placeOf", "(I)I"⟩, 4), (⟨"MovedFolders$Moves", "add", "(II)V"⟩, 4), (⟨"MovedFolders$Loops", "markThose", "(LMovedFolders$Moves;LMovedFolders$Moves;LMovedFolders$Moves;)V"⟩, 2), (⟨"MovedFolders$Loops", "reachFrom", "(ILMovedFolders$Moves;LMovedFolders$Moves;)V"⟩, 2)]
theorem lw_r1 : ∀ q ∈ lw_privs_1, lw_okq q := List.forall_mem_cons.mpr ⟨lw_p0, List.forall_mem_cons.mpr ⟨lw_p1, List.forall_mem_cons.mpr ⟨lw_p2, List.forall_mem_cons.mpr ⟨lw_p3, List.forall_mem_cons.mpr ⟨lw_p4, List.forall_mem_cons.mpr ⟨lw_p5, List.forall_mem_cons.mpr ⟨lw_p6, List.forall_mem_cons.mpr ⟨lw_p7, List.forall_mem_cons.mpr ⟨lw_p8, List.forall_mem_cons.mpr ⟨lw_p9, List.forall_mem_cons.mpr ⟨lw_p10, List.forall_mem_cons.mpr ⟨lw_p11, List.forall_mem_cons.mpr ⟨lw_p12, List.forall_mem_cons.mpr ⟨lw_p13, List.forall_mem_cons.mpr ⟨lw_p14, List.forall_mem_cons.mpr ⟨lw_p15, fun _ h => absurd h List.not_mem_nil⟩⟩⟩⟩⟩⟩⟩⟩⟩⟩⟩⟩⟩⟩⟩⟩
theorem lw_p16 : lw_okq (⟨"MovedFolders$Loops", "add", "(I)V"⟩, 2) := ⟨⟨by decide +kernel, by decide +kernel⟩, List.mem_of_getElem? (i := 136) (by decide +kernel), List.mem_of_getElem? (i := 464) (by decide +kernel), List.mem_of_getElem? (i := 465) (by decide +kernel)⟩
theorem lw_p17 : lw_okq (⟨"MovedFolders$Loops", "isReached", "(I)Z"⟩, 2) := ⟨⟨by decide +kernel, by decide +kernel⟩, List.mem_of_getElem? (i := 136) (by decide +kernel), List.mem_of_getElem? (i := 468) (by decide +kernel), List.mem_of_getElem? (i := 469) (by decide +kernel)⟩
theorem lw_p18 : lw_okq (⟨"MovedFolders$Merge", "addOld", "(LMovedFolders$Held;LMovedFolders$Side;LMovedFolders$Side;I)V"⟩, 9) := ⟨⟨by decide +kernel, by decide +kernel⟩, List.mem_of_getElem? (i := 149) (by decide +kernel), List.mem_of_getElem? (i := 490) (by decide +kernel), List.mem_of_getElem? (i := 491) (by decide +kernel)⟩
theorem lw_p19 : lw_okq (⟨"MovedFolders$Merge", "add", "(IIII)V"⟩, 9) := ⟨⟨by decide +kernel, by decide +kernel⟩, List.mem_of_getElem? (i := 149) (by decide +kernel), List.mem_of_getElem? (i := 537) (by decide +kernel), List.mem_of_getElem? (i := 538) (by decide +kernel)⟩
theorem lw_p20 : lw_okq (⟨"MovedFolders$Merge", "isBehind", "(IIIII)Z"⟩, 9) := ⟨⟨by decide +kernel, by decide +kernel⟩, List.mem_of_getElem? (i := 149) (by decide +kernel), List.mem_of_getElem? (i := 541) (by decide +kernel), List.mem_of_getElem? (i := 542) (by decide +kernel)⟩
theorem lw_p21 : lw_okq (⟨"MovedFolders$Merge", "findGoals", "(LMovedFolders$Held;LMovedFolders$Side;LMovedFolders$Side;)V"⟩, 9) := ⟨⟨by decide +kernel, by decide +kernel⟩, List.mem_of_getElem? (i := 149) (by decide +kernel), List.mem_of_getElem? (i := 545) (by decide +kernel), List.mem_of_getElem? (i := 546) (by decide +kernel)⟩
theorem lw_p22 : lw_okq (⟨"MovedFolders$Merge", "addNewOfOne", "(LMovedFolders$Held;LMovedFolders$Side;LMovedFolders$Side;)V"⟩, 9) := ⟨⟨by decide +kernel, by decide +kernel⟩, List.mem_of_getElem? (i := 149) (by decide +kernel), List.mem_of_getElem? (i := 556) (by decide +kernel), List.mem_of_getElem? (i := 557) (by decide +kernel)⟩
theorem lw_p23 : lw_okq (⟨"MovedFolders$Merge", "takeSame", "(LMovedFolders$Tree;II)V"⟩, 9) := ⟨⟨by decide +kernel, by decide +kernel⟩, List.mem_of_getElem? (i := 149) (by decide +kernel), List.mem_of_getElem? (i := 560) (by decide +kernel), List.mem_of_getElem? (i := 561) (by decide +kernel)⟩
theorem lw_p24 : lw_okq (⟨"MovedFolders$Merge", "addNewOfTwo", "(LMovedFolders$Tree;)V"⟩, 9) := ⟨⟨by decide +kernel, by decide +kernel⟩, List.mem_of_getElem? (i := 149) (by decide +kernel), List.mem_of_getElem? (i := 564) (by decide +kernel), List.mem_of_getElem? (i := 565) (by decide +kernel)⟩
theorem lw_p25 : lw_okq (⟨"MovedFolders$Merge", "markMeetings", "()V"⟩, 9) := ⟨⟨by decide +kernel, by decide +kernel⟩, List.mem_of_getElem? (i := 149) (by decide +kernel), List.mem_of_getElem? (i := 568) (by decide +kernel), List.mem_of_getElem? (i := 569) (by decide +kernel)⟩
theorem lw_p26 : lw_okq (⟨"MovedFolders$Merge", "gatherClashes", "()V"⟩, 9) := ⟨⟨by decide +kernel, by decide +kernel⟩, List.mem_of_getElem? (i := 149) (by decide +kernel), List.mem_of_getElem? (i := 572) (by decide +kernel), List.mem_of_getElem? (i := 573) (by decide +kernel)⟩
theorem lw_p27 : lw_okq (⟨"MovedFolders", "sideOf", "(I)LMovedFolders$Side;"⟩, 10) := ⟨⟨by decide +kernel, by decide +kernel⟩, List.mem_of_getElem? (i := 16) (by decide +kernel), List.mem_of_getElem? (i := 576) (by decide +kernel), List.mem_of_getElem? (i := 577) (by decide +kernel)⟩
theorem lw_p28 : lw_okq (⟨"MovedFolders", "imageOf", "(I)LMovedFolders$Held;"⟩, 10) := ⟨⟨by decide +kernel, by decide +kernel⟩, List.mem_of_getElem? (i := 16) (by decide +kernel), List.mem_of_getElem? (i := 657) (by decide +kernel), List.mem_of_getElem? (i := 658) (by decide +kernel)⟩
theorem lw_p29 : lw_okq (⟨"MovedFoldersModel", "goOn", "(II)I"⟩, 27) := ⟨⟨by decide +kernel, by decide +kernel⟩, List.mem_of_getElem? (i := 684) (by decide +kernel), List.mem_of_getElem? (i := 789) (by decide +kernel), List.mem_of_getElem? (i := 790) (by decide +kernel)⟩
theorem lw_p30 : lw_okq (⟨"MovedFoldersModel", "placeOf", "(II)I"⟩, 27) := ⟨⟨by decide +kernel, by decide +kernel⟩, List.mem_of_getElem? (i := 684) (by decide +kernel), List.mem_of_getElem? (i := 811) (by decide +kernel), List.mem_of_getElem? (i := 812) (by decide +kernel)⟩
theorem lw_p31 : lw_okq (⟨"MovedFoldersModel", "layAt", "(IIII)V"⟩, 27) := ⟨⟨by decide +kernel, by decide +kernel⟩, List.mem_of_getElem? (i := 684) (by decide +kernel), List.mem_of_getElem? (i := 815) (by decide +kernel), List.mem_of_getElem? (i := 816) (by decide +kernel)⟩
def lw_privs_2 : List (MethodName × Nat) := [(⟨"MovedFolders$Loops", "add", "(I)V"⟩, 2), (⟨"MovedFolders$Loops", "isReached", "(I)Z"⟩, 2), (⟨"MovedFolders$Merge", "addOld", "(LMovedFolders$Held;LMovedFolders$Side;LMovedFolders$Side;I)V"⟩, 9), (⟨"MovedFolders$Merge", "add", "(IIII)V"⟩, 9), (⟨"MovedFolders$Merge", "isBehind", "(IIIII)Z"⟩, 9), (⟨"MovedFolders$Merge", "findGoals", "(LMovedFolders$Held;LMovedFolders$Side;LMovedFolders$Side;)V"⟩, 9), (⟨"MovedFolders$Merge", "addNewOfOne", "(LMovedFolders$Held;LMovedFolders$Side;LMovedFolders$Side;)V"⟩, 9), (⟨"MovedFolders$Merge", "takeSame", "(LMovedFolders$Tree;II)V"⟩, 9), (⟨"MovedFolders$Merge", "addNewOfTwo", "(LMovedFolders$Tree;)V"⟩, 9), (⟨"MovedFolders$Merge", "markMeetings", "()V"⟩, 9), (⟨"MovedFolders$Merge", "gatherClashes", "()V"⟩, 9), (⟨"MovedFolders", "sideOf", "(I)LMovedFolders$Side;"⟩, 10), (⟨"MovedFolders", "imageOf", "(I)LMovedFolders$Held;"⟩, 10), (⟨"MovedFoldersModel", "goOn", "(II)I"⟩, 27), (⟨"MovedFoldersModel", "placeOf", "(II)I"⟩, 27), (⟨"MovedFoldersModel", "layAt", "(IIII)V"⟩, 27)]
theorem lw_r2 : ∀ q ∈ lw_privs_2, lw_okq q := List.forall_mem_cons.mpr ⟨lw_p16, List.forall_mem_cons.mpr ⟨lw_p17, List.forall_mem_cons.mpr ⟨lw_p18, List.forall_mem_cons.mpr ⟨lw_p19, List.forall_mem_cons.mpr ⟨lw_p20, List.forall_mem_cons.mpr ⟨lw_p21, List.forall_mem_cons.mpr ⟨lw_p22, List.forall_mem_cons.mpr ⟨lw_p23, List.forall_mem_cons.mpr ⟨lw_p24, List.forall_mem_cons.mpr ⟨lw_p25, List.forall_mem_cons.mpr ⟨lw_p26, List.forall_mem_cons.mpr ⟨lw_p27, List.forall_mem_cons.mpr ⟨lw_p28, List.forall_mem_cons.mpr ⟨lw_p29, List.forall_mem_cons.mpr ⟨lw_p30, List.forall_mem_cons.mpr ⟨lw_p31, fun _ h => absurd h List.not_mem_nil⟩⟩⟩⟩⟩⟩⟩⟩⟩⟩⟩⟩⟩⟩⟩⟩
theorem lw_p32 : lw_okq (⟨"MovedFoldersModel", "isFile", "(II)Z"⟩, 27) := ⟨⟨by decide +kernel, by decide +kernel⟩, List.mem_of_getElem? (i := 684) (by decide +kernel), List.mem_of_getElem? (i := 823) (by decide +kernel), List.mem_of_getElem? (i := 824) (by decide +kernel)⟩
theorem lw_p33 : lw_okq (⟨"MovedFoldersModel", "contentAt", "(II)I"⟩, 27) := ⟨⟨by decide +kernel, by decide +kernel⟩, List.mem_of_getElem? (i := 684) (by decide +kernel), List.mem_of_getElem? (i := 831) (by decide +kernel), List.mem_of_getElem? (i := 832) (by decide +kernel)⟩
theorem lw_p34 : lw_okq (⟨"MovedFoldersModel", "findPairs", "(I)V"⟩, 27) := ⟨⟨by decide +kernel, by decide +kernel⟩, List.mem_of_getElem? (i := 684) (by decide +kernel), List.mem_of_getElem? (i := 870) (by decide +kernel), List.mem_of_getElem? (i := 871) (by decide +kernel)⟩
theorem lw_p35 : lw_okq (⟨"MovedFoldersModel", "join", "(IIII)V"⟩, 27) := ⟨⟨by decide +kernel, by decide +kernel⟩, List.mem_of_getElem? (i := 684) (by decide +kernel), List.mem_of_getElem? (i := 874) (by decide +kernel), List.mem_of_getElem? (i := 875) (by decide +kernel)⟩
theorem lw_p36 : lw_okq (⟨"MovedFoldersModel", "isJoined", "(II)Z"⟩, 27) := ⟨⟨by decide +kernel, by decide +kernel⟩, List.mem_of_getElem? (i := 684) (by decide +kernel), List.mem_of_getElem? (i := 878) (by decide +kernel), List.mem_of_getElem? (i := 879) (by decide +kernel)⟩
theorem lw_p37 : lw_okq (⟨"MovedFoldersModel", "closeness", "(IIII)I"⟩, 27) := ⟨⟨by decide +kernel, by decide +kernel⟩, List.mem_of_getElem? (i := 684) (by decide +kernel), List.mem_of_getElem? (i := 882) (by decide +kernel), List.mem_of_getElem? (i := 883) (by decide +kernel)⟩
theorem lw_p38 : lw_okq (⟨"MovedFoldersModel", "isLeft", "(III)Z"⟩, 27) := ⟨⟨by decide +kernel, by decide +kernel⟩, List.mem_of_getElem? (i := 684) (by decide +kernel), List.mem_of_getElem? (i := 886) (by decide +kernel), List.mem_of_getElem? (i := 887) (by decide +kernel)⟩
theorem lw_p39 : lw_okq (⟨"MovedFoldersModel", "nameAt", "(II)I"⟩, 27) := ⟨⟨by decide +kernel, by decide +kernel⟩, List.mem_of_getElem? (i := 684) (by decide +kernel), List.mem_of_getElem? (i := 890) (by decide +kernel), List.mem_of_getElem? (i := 891) (by decide +kernel)⟩
theorem lw_p40 : lw_okq (⟨"MovedFoldersModel", "votesOf", "(III)I"⟩, 27) := ⟨⟨by decide +kernel, by decide +kernel⟩, List.mem_of_getElem? (i := 684) (by decide +kernel), List.mem_of_getElem? (i := 906) (by decide +kernel), List.mem_of_getElem? (i := 907) (by decide +kernel)⟩
theorem lw_p41 : lw_okq (⟨"MovedFoldersModel", "folderAt", "(II)I"⟩, 27) := ⟨⟨by decide +kernel, by decide +kernel⟩, List.mem_of_getElem? (i := 684) (by decide +kernel), List.mem_of_getElem? (i := 910) (by decide +kernel), List.mem_of_getElem? (i := 911) (by decide +kernel)⟩
theorem lw_p42 : lw_okq (⟨"MovedFoldersModel", "findBoth", "()V"⟩, 27) := ⟨⟨by decide +kernel, by decide +kernel⟩, List.mem_of_getElem? (i := 684) (by decide +kernel), List.mem_of_getElem? (i := 918) (by decide +kernel), List.mem_of_getElem? (i := 919) (by decide +kernel)⟩
theorem lw_p43 : lw_okq (⟨"MovedFoldersModel", "findMoves", "(I)V"⟩, 27) := ⟨⟨by decide +kernel, by decide +kernel⟩, List.mem_of_getElem? (i := 684) (by decide +kernel), List.mem_of_getElem? (i := 922) (by decide +kernel), List.mem_of_getElem? (i := 923) (by decide +kernel)⟩
theorem lw_p44 : lw_okq (⟨"MovedFoldersModel", "liesIn", "(II)Z"⟩, 27) := ⟨⟨by decide +kernel, by decide +kernel⟩, List.mem_of_getElem? (i := 684) (by decide +kernel), List.mem_of_getElem? (i := 926) (by decide +kernel), List.mem_of_getElem? (i := 927) (by decide +kernel)⟩
theorem lw_p45 : lw_okq (⟨"MovedFoldersModel", "movedOf", "(II)I"⟩, 27) := ⟨⟨by decide +kernel, by decide +kernel⟩, List.mem_of_getElem? (i := 684) (by decide +kernel), List.mem_of_getElem? (i := 930) (by decide +kernel), List.mem_of_getElem? (i := 931) (by decide +kernel)⟩
theorem lw_p46 : lw_okq (⟨"MovedFoldersModel", "isLoop", "(II)Z"⟩, 27) := ⟨⟨by decide +kernel, by decide +kernel⟩, List.mem_of_getElem? (i := 684) (by decide +kernel), List.mem_of_getElem? (i := 934) (by decide +kernel), List.mem_of_getElem? (i := 935) (by decide +kernel)⟩
theorem lw_p47 : lw_okq (⟨"MovedFoldersModel", "isStep", "(II)Z"⟩, 27) := ⟨⟨by decide +kernel, by decide +kernel⟩, List.mem_of_getElem? (i := 684) (by decide +kernel), List.mem_of_getElem? (i := 938) (by decide +kernel), List.mem_of_getElem? (i := 939) (by decide +kernel)⟩
def lw_privs_3 : List (MethodName × Nat) := [(⟨"MovedFoldersModel", "isFile", "(II)Z"⟩, 27), (⟨"MovedFoldersModel", "contentAt", "(II)I"⟩, 27), (⟨"MovedFoldersModel", "findPairs", "(I)V"⟩, 27), (⟨"MovedFoldersModel", "join", "(IIII)V"⟩, 27), (⟨"MovedFoldersModel", "isJoined", "(II)Z"⟩, 27), (⟨"MovedFoldersModel", "closeness", "(IIII)I"⟩, 27), (⟨"MovedFoldersModel", "isLeft", "(III)Z"⟩, 27), (⟨"MovedFoldersModel", "nameAt", "(II)I"⟩, 27), (⟨"MovedFoldersModel", "votesOf", "(III)I"⟩, 27), (⟨"MovedFoldersModel", "folderAt", "(II)I"⟩, 27), (⟨"MovedFoldersModel", "findBoth", "()V"⟩, 27), (⟨"MovedFoldersModel", "findMoves", "(I)V"⟩, 27), (⟨"MovedFoldersModel", "liesIn", "(II)Z"⟩, 27), (⟨"MovedFoldersModel", "movedOf", "(II)I"⟩, 27), (⟨"MovedFoldersModel", "isLoop", "(II)Z"⟩, 27), (⟨"MovedFoldersModel", "isStep", "(II)Z"⟩, 27)]
theorem lw_r3 : ∀ q ∈ lw_privs_3, lw_okq q := List.forall_mem_cons.mpr ⟨lw_p32, List.forall_mem_cons.mpr ⟨lw_p33, List.forall_mem_cons.mpr ⟨lw_p34, List.forall_mem_cons.mpr ⟨lw_p35, List.forall_mem_cons.mpr ⟨lw_p36, List.forall_mem_cons.mpr ⟨lw_p37, List.forall_mem_cons.mpr ⟨lw_p38, List.forall_mem_cons.mpr ⟨lw_p39, List.forall_mem_cons.mpr ⟨lw_p40, List.forall_mem_cons.mpr ⟨lw_p41, List.forall_mem_cons.mpr ⟨lw_p42, List.forall_mem_cons.mpr ⟨lw_p43, List.forall_mem_cons.mpr ⟨lw_p44, List.forall_mem_cons.mpr ⟨lw_p45, List.forall_mem_cons.mpr ⟨lw_p46, List.forall_mem_cons.mpr ⟨lw_p47, fun _ h => absurd h List.not_mem_nil⟩⟩⟩⟩⟩⟩⟩⟩⟩⟩⟩⟩⟩⟩⟩⟩
theorem lw_p48 : lw_okq (⟨"MovedFoldersModel", "destOf", "(II)I"⟩, 27) := ⟨⟨by decide +kernel, by decide +kernel⟩, List.mem_of_getElem? (i := 684) (by decide +kernel), List.mem_of_getElem? (i := 946) (by decide +kernel), List.mem_of_getElem? (i := 947) (by decide +kernel)⟩
theorem lw_p49 : lw_okq (⟨"MovedFoldersModel", "merge", "()V"⟩, 27) := ⟨⟨by decide +kernel, by decide +kernel⟩, List.mem_of_getElem? (i := 684) (by decide +kernel), List.mem_of_getElem? (i := 967) (by decide +kernel), List.mem_of_getElem? (i := 968) (by decide +kernel)⟩
theorem lw_p50 : lw_okq (⟨"MovedFoldersModel", "mergeOld", "(I)V"⟩, 27) := ⟨⟨by decide +kernel, by decide +kernel⟩, List.mem_of_getElem? (i := 684) (by decide +kernel), List.mem_of_getElem? (i := 971) (by decide +kernel), List.mem_of_getElem? (i := 972) (by decide +kernel)⟩
theorem lw_p51 : lw_okq (⟨"MovedFoldersModel", "isAsBase", "(II)Z"⟩, 27) := ⟨⟨by decide +kernel, by decide +kernel⟩, List.mem_of_getElem? (i := 684) (by decide +kernel), List.mem_of_getElem? (i := 975) (by decide +kernel), List.mem_of_getElem? (i := 976) (by decide +kernel)⟩
theorem lw_p52 : lw_okq (⟨"MovedFoldersModel", "pathOn", "(II)I"⟩, 27) := ⟨⟨by decide +kernel, by decide +kernel⟩, List.mem_of_getElem? (i := 684) (by decide +kernel), List.mem_of_getElem? (i := 979) (by decide +kernel), List.mem_of_getElem? (i := 980) (by decide +kernel)⟩
theorem lw_p53 : lw_okq (⟨"MovedFoldersModel", "folderOf", "(III)I"⟩, 27) := ⟨⟨by decide +kernel, by decide +kernel⟩, List.mem_of_getElem? (i := 684) (by decide +kernel), List.mem_of_getElem? (i := 983) (by decide +kernel), List.mem_of_getElem? (i := 984) (by decide +kernel)⟩
theorem lw_p54 : lw_okq (⟨"MovedFoldersModel", "oneOf", "(IIII)I"⟩, 27) := ⟨⟨by decide +kernel, by decide +kernel⟩, List.mem_of_getElem? (i := 684) (by decide +kernel), List.mem_of_getElem? (i := 987) (by decide +kernel), List.mem_of_getElem? (i := 988) (by decide +kernel)⟩
theorem lw_p55 : lw_okq (⟨"MovedFoldersModel", "contentOn", "(II)I"⟩, 27) := ⟨⟨by decide +kernel, by decide +kernel⟩, List.mem_of_getElem? (i := 684) (by decide +kernel), List.mem_of_getElem? (i := 991) (by decide +kernel), List.mem_of_getElem? (i := 992) (by decide +kernel)⟩
theorem lw_p56 : lw_okq (⟨"MovedFoldersModel", "contentOf", "(III)I"⟩, 27) := ⟨⟨by decide +kernel, by decide +kernel⟩, List.mem_of_getElem? (i := 684) (by decide +kernel), List.mem_of_getElem? (i := 995) (by decide +kernel), List.mem_of_getElem? (i := 996) (by decide +kernel)⟩
theorem lw_p57 : lw_okq (⟨"MovedFoldersModel", "addEntry", "(IIII)V"⟩, 27) := ⟨⟨by decide +kernel, by decide +kernel⟩, List.mem_of_getElem? (i := 684) (by decide +kernel), List.mem_of_getElem? (i := 999) (by decide +kernel), List.mem_of_getElem? (i := 1000) (by decide +kernel)⟩
theorem lw_p58 : lw_okq (⟨"MovedFoldersModel", "mergeNew", "()V"⟩, 27) := ⟨⟨by decide +kernel, by decide +kernel⟩, List.mem_of_getElem? (i := 684) (by decide +kernel), List.mem_of_getElem? (i := 1003) (by decide +kernel), List.mem_of_getElem? (i := 1004) (by decide +kernel)⟩
theorem lw_p59 : lw_okq (⟨"MovedFoldersModel", "newPath", "(II)I"⟩, 27) := ⟨⟨by decide +kernel, by decide +kernel⟩, List.mem_of_getElem? (i := 684) (by decide +kernel), List.mem_of_getElem? (i := 1007) (by decide +kernel), List.mem_of_getElem? (i := 1008) (by decide +kernel)⟩
theorem lw_p60 : lw_okq (⟨"MovedFoldersModel", "twinOf", "(II)I"⟩, 27) := ⟨⟨by decide +kernel, by decide +kernel⟩, List.mem_of_getElem? (i := 684) (by decide +kernel), List.mem_of_getElem? (i := 1011) (by decide +kernel), List.mem_of_getElem? (i := 1012) (by decide +kernel)⟩
theorem lw_p61 : lw_okq (⟨"MovedFoldersModel", "meetAll", "()V"⟩, 27) := ⟨⟨by decide +kernel, by decide +kernel⟩, List.mem_of_getElem? (i := 684) (by decide +kernel), List.mem_of_getElem? (i := 1015) (by decide +kernel), List.mem_of_getElem? (i := 1016) (by decide +kernel)⟩
theorem lw_p62 : lw_okq (⟨"MovedFoldersModel", "sortAll", "()V"⟩, 27) := ⟨⟨by decide +kernel, by decide +kernel⟩, List.mem_of_getElem? (i := 684) (by decide +kernel), List.mem_of_getElem? (i := 1019) (by decide +kernel), List.mem_of_getElem? (i := 1020) (by decide +kernel)⟩
theorem lw_p63 : lw_okq (⟨"MovedFoldersModel", "isBefore", "(II)Z"⟩, 27) := ⟨⟨by decide +kernel, by decide +kernel⟩, List.mem_of_getElem? (i := 684) (by decide +kernel), List.mem_of_getElem? (i := 1023) (by decide +kernel), List.mem_of_getElem? (i := 1024) (by decide +kernel)⟩
def lw_privs_4 : List (MethodName × Nat) := [(⟨"MovedFoldersModel", "destOf", "(II)I"⟩, 27), (⟨"MovedFoldersModel", "merge", "()V"⟩, 27), (⟨"MovedFoldersModel", "mergeOld", "(I)V"⟩, 27), (⟨"MovedFoldersModel", "isAsBase", "(II)Z"⟩, 27), (⟨"MovedFoldersModel", "pathOn", "(II)I"⟩, 27), (⟨"MovedFoldersModel", "folderOf", "(III)I"⟩, 27), (⟨"MovedFoldersModel", "oneOf", "(IIII)I"⟩, 27), (⟨"MovedFoldersModel", "contentOn", "(II)I"⟩, 27), (⟨"MovedFoldersModel", "contentOf", "(III)I"⟩, 27), (⟨"MovedFoldersModel", "addEntry", "(IIII)V"⟩, 27), (⟨"MovedFoldersModel", "mergeNew", "()V"⟩, 27), (⟨"MovedFoldersModel", "newPath", "(II)I"⟩, 27), (⟨"MovedFoldersModel", "twinOf", "(II)I"⟩, 27), (⟨"MovedFoldersModel", "meetAll", "()V"⟩, 27), (⟨"MovedFoldersModel", "sortAll", "()V"⟩, 27), (⟨"MovedFoldersModel", "isBefore", "(II)Z"⟩, 27)]
theorem lw_r4 : ∀ q ∈ lw_privs_4, lw_okq q := List.forall_mem_cons.mpr ⟨lw_p48, List.forall_mem_cons.mpr ⟨lw_p49, List.forall_mem_cons.mpr ⟨lw_p50, List.forall_mem_cons.mpr ⟨lw_p51, List.forall_mem_cons.mpr ⟨lw_p52, List.forall_mem_cons.mpr ⟨lw_p53, List.forall_mem_cons.mpr ⟨lw_p54, List.forall_mem_cons.mpr ⟨lw_p55, List.forall_mem_cons.mpr ⟨lw_p56, List.forall_mem_cons.mpr ⟨lw_p57, List.forall_mem_cons.mpr ⟨lw_p58, List.forall_mem_cons.mpr ⟨lw_p59, List.forall_mem_cons.mpr ⟨lw_p60, List.forall_mem_cons.mpr ⟨lw_p61, List.forall_mem_cons.mpr ⟨lw_p62, List.forall_mem_cons.mpr ⟨lw_p63, fun _ h => absurd h List.not_mem_nil⟩⟩⟩⟩⟩⟩⟩⟩⟩⟩⟩⟩⟩⟩⟩⟩
theorem lw_p64 : lw_okq (⟨"MovedFoldersModel", "causesAt", "(I)I"⟩, 27) := ⟨⟨by decide +kernel, by decide +kernel⟩, List.mem_of_getElem? (i := 684) (by decide +kernel), List.mem_of_getElem? (i := 1034) (by decide +kernel), List.mem_of_getElem? (i := 1035) (by decide +kernel)⟩
theorem lw_p65 : lw_okq (⟨"MovedFoldersModel", "passAll", "()V"⟩, 27) := ⟨⟨by decide +kernel, by decide +kernel⟩, List.mem_of_getElem? (i := 684) (by decide +kernel), List.mem_of_getElem? (i := 1051) (by decide +kernel), List.mem_of_getElem? (i := 1052) (by decide +kernel)⟩
theorem lw_p66 : lw_okq (⟨"MovedFoldersModel", "passRow", "([II)V"⟩, 27) := ⟨⟨by decide +kernel, by decide +kernel⟩, List.mem_of_getElem? (i := 684) (by decide +kernel), List.mem_of_getElem? (i := 1055) (by decide +kernel), List.mem_of_getElem? (i := 1056) (by decide +kernel)⟩
theorem lw_p67 : lw_okq (⟨"MovedFoldersModel", "toldOfSide", "(II)I"⟩, 27) := ⟨⟨by decide +kernel, by decide +kernel⟩, List.mem_of_getElem? (i := 684) (by decide +kernel), List.mem_of_getElem? (i := 1071) (by decide +kernel), List.mem_of_getElem? (i := 1072) (by decide +kernel)⟩
theorem lw_p68 : lw_okq (⟨"MovedFoldersModel", "lackingOf", "([III)I"⟩, 27) := ⟨⟨by decide +kernel, by decide +kernel⟩, List.mem_of_getElem? (i := 684) (by decide +kernel), List.mem_of_getElem? (i := 1075) (by decide +kernel), List.mem_of_getElem? (i := 1076) (by decide +kernel)⟩
theorem lw_p69 : lw_okq (⟨"MovedFoldersModel", "movedMany", "(I)I"⟩, 27) := ⟨⟨by decide +kernel, by decide +kernel⟩, List.mem_of_getElem? (i := 684) (by decide +kernel), List.mem_of_getElem? (i := 1079) (by decide +kernel), List.mem_of_getElem? (i := 1080) (by decide +kernel)⟩
def lw_privs_5 : List (MethodName × Nat) := [(⟨"MovedFoldersModel", "causesAt", "(I)I"⟩, 27), (⟨"MovedFoldersModel", "passAll", "()V"⟩, 27), (⟨"MovedFoldersModel", "passRow", "([II)V"⟩, 27), (⟨"MovedFoldersModel", "toldOfSide", "(II)I"⟩, 27), (⟨"MovedFoldersModel", "lackingOf", "([III)I"⟩, 27), (⟨"MovedFoldersModel", "movedMany", "(I)I"⟩, 27)]
theorem lw_r5 : ∀ q ∈ lw_privs_5, lw_okq q := List.forall_mem_cons.mpr ⟨lw_p64, List.forall_mem_cons.mpr ⟨lw_p65, List.forall_mem_cons.mpr ⟨lw_p66, List.forall_mem_cons.mpr ⟨lw_p67, List.forall_mem_cons.mpr ⟨lw_p68, List.forall_mem_cons.mpr ⟨lw_p69, fun _ h => absurd h List.not_mem_nil⟩⟩⟩⟩⟩⟩
def lw_privs : List (MethodName × Nat) := lw_privs_1 ++ (lw_privs_2 ++ (lw_privs_3 ++ (lw_privs_4 ++ (lw_privs_5))))
def lw_tbl : List Cond := k2_sels lw_privs ++ tables_1
theorem lw_privs_ok : ∀ q ∈ lw_privs, lw_okq q := by
  show ∀ q ∈ lw_privs_1 ++ (lw_privs_2 ++ (lw_privs_3 ++ (lw_privs_4 ++ (lw_privs_5)))), lw_okq q
  exact List.forall_mem_append.mpr ⟨lw_r1, List.forall_mem_append.mpr ⟨lw_r2, List.forall_mem_append.mpr ⟨lw_r3, List.forall_mem_append.mpr ⟨lw_r4, lw_r5⟩⟩⟩⟩
-- classes: names, fields in the order of the slots, types
def R_Held : String := "MovedFolders$Held"
def T_Held : u_T := fun k => match k with
  | 0 => ("MovedFolders$Held", "base", "LMovedFolders$Tree;", true)
  | 1 => ("MovedFolders$Held", "one", "LMovedFolders$Tree;", false)
  | 2 => ("MovedFolders$Held", "two", "LMovedFolders$Tree;", false)
  | _ => ("MovedFolders$Held", "least", "I", false)
def ty_Held : Nat → FieldType := fun k => match k with
  | 0 => (.object "MovedFolders$Tree")
  | 1 => (.object "MovedFolders$Tree")
  | 2 => (.object "MovedFolders$Tree")
  | _ => .int
theorem nm_Held : ∀ a, a < 4 → ∀ b, b < 4 → a ≠ b → (T_Held a).2.1 ≠ (T_Held b).2.1 := by decide +kernel
theorem ty_Held_ok : ∀ k, k < 4 → parseFieldDescriptor (T_Held k).2.2.1 = some (ty_Held k) := by decide +kernel
theorem wi_Held : ∀ w ∈ u_ws R_Held T_Held 4, w ∈ lw_tbl := by
  have h : u_ws R_Held T_Held 4 = [140, 142, 144, 146].filterMap (fun i => lw_tbl[i]?) := by decide +kernel
  intro w hw
  rw [h] at hw
  obtain ⟨i, -, hi⟩ := List.mem_filterMap.mp hw
  exact List.mem_of_getElem? hi
def R_Loops : String := "MovedFolders$Loops"
def T_Loops : u_T := fun k => match k with
  | 0 => ("MovedFolders$Loops", "reached", "[I", true)
  | _ => ("MovedFolders$Loops", "count", "I", false)
def ty_Loops : Nat → FieldType := fun k => match k with
  | 0 => (.array .int)
  | _ => .int
theorem nm_Loops : ∀ a, a < 2 → ∀ b, b < 2 → a ≠ b → (T_Loops a).2.1 ≠ (T_Loops b).2.1 := by decide +kernel
theorem ty_Loops_ok : ∀ k, k < 2 → parseFieldDescriptor (T_Loops k).2.2.1 = some (ty_Loops k) := by decide +kernel
theorem wi_Loops : ∀ w ∈ u_ws R_Loops T_Loops 2, w ∈ lw_tbl := by
  have h : u_ws R_Loops T_Loops 2 = [213, 215].filterMap (fun i => lw_tbl[i]?) := by decide +kernel
  intro w hw
  rw [h] at hw
  obtain ⟨i, -, hi⟩ := List.mem_filterMap.mp hw
  exact List.mem_of_getElem? hi
def R_Merge : String := "MovedFolders$Merge"
def T_Merge : u_T := fun k => match k with
  | 0 => ("MovedFolders$Merge", "paths", "[I", true)
  | 1 => ("MovedFolders$Merge", "contents", "[I", true)
  | 2 => ("MovedFolders$Merge", "causes", "[I", true)
  | 3 => ("MovedFolders$Merge", "sources", "[I", true)
  | 4 => ("MovedFolders$Merge", "count", "I", false)
  | 5 => ("MovedFolders$Merge", "clashPaths", "[I", true)
  | 6 => ("MovedFolders$Merge", "clashCauses", "[I", true)
  | 7 => ("MovedFolders$Merge", "clashCount", "I", false)
  | _ => ("MovedFolders$Merge", "goals", "[I", true)
def ty_Merge : Nat → FieldType := fun k => match k with
  | 0 => (.array .int)
  | 1 => (.array .int)
  | 2 => (.array .int)
  | 3 => (.array .int)
  | 4 => .int
  | 5 => (.array .int)
  | 6 => (.array .int)
  | 7 => .int
  | _ => (.array .int)
theorem nm_Merge : ∀ a, a < 9 → ∀ b, b < 9 → a ≠ b → (T_Merge a).2.1 ≠ (T_Merge b).2.1 := by decide +kernel
theorem ty_Merge_ok : ∀ k, k < 9 → parseFieldDescriptor (T_Merge k).2.2.1 = some (ty_Merge k) := by decide +kernel
theorem wi_Merge : ∀ w ∈ u_ws R_Merge T_Merge 9, w ∈ lw_tbl := by
  have h : u_ws R_Merge T_Merge 9 = [233, 235, 237, 239, 241, 243, 245, 247, 249].filterMap (fun i => lw_tbl[i]?) := by decide +kernel
  intro w hw
  rw [h] at hw
  obtain ⟨i, -, hi⟩ := List.mem_filterMap.mp hw
  exact List.mem_of_getElem? hi
def R_Moves : String := "MovedFolders$Moves"
def T_Moves : u_T := fun k => match k with
  | 0 => ("MovedFolders$Moves", "starts", "[I", true)
  | 1 => ("MovedFolders$Moves", "targets", "[I", true)
  | 2 => ("MovedFolders$Moves", "round", "[Z", true)
  | _ => ("MovedFolders$Moves", "count", "I", false)
def ty_Moves : Nat → FieldType := fun k => match k with
  | 0 => (.array .int)
  | 1 => (.array .int)
  | 2 => (.array .boolean)
  | _ => .int
theorem nm_Moves : ∀ a, a < 4 → ∀ b, b < 4 → a ≠ b → (T_Moves a).2.1 ≠ (T_Moves b).2.1 := by decide +kernel
theorem ty_Moves_ok : ∀ k, k < 4 → parseFieldDescriptor (T_Moves k).2.2.1 = some (ty_Moves k) := by decide +kernel
theorem wi_Moves : ∀ w ∈ u_ws R_Moves T_Moves 4, w ∈ lw_tbl := by
  have h : u_ws R_Moves T_Moves 4 = [185, 187, 189, 191].filterMap (fun i => lw_tbl[i]?) := by decide +kernel
  intro w hw
  rw [h] at hw
  obtain ⟨i, -, hi⟩ := List.mem_filterMap.mp hw
  exact List.mem_of_getElem? hi
def R_Pad : String := "MovedFolders$Pad"
def T_Pad : u_T := fun k => match k with
  | 0 => ("MovedFolders$Pad", "signs", "[I", true)
  | _ => ("MovedFolders$Pad", "count", "I", false)
def ty_Pad : Nat → FieldType := fun k => match k with
  | 0 => (.array .int)
  | _ => .int
theorem nm_Pad : ∀ a, a < 2 → ∀ b, b < 2 → a ≠ b → (T_Pad a).2.1 ≠ (T_Pad b).2.1 := by decide +kernel
theorem ty_Pad_ok : ∀ k, k < 2 → parseFieldDescriptor (T_Pad k).2.2.1 = some (ty_Pad k) := by decide +kernel
theorem wi_Pad : ∀ w ∈ u_ws R_Pad T_Pad 2, w ∈ lw_tbl := by
  have h : u_ws R_Pad T_Pad 2 = [101, 103].filterMap (fun i => lw_tbl[i]?) := by decide +kernel
  intro w hw
  rw [h] at hw
  obtain ⟨i, -, hi⟩ := List.mem_filterMap.mp hw
  exact List.mem_of_getElem? hi
def R_Pairs : String := "MovedFolders$Pairs"
def T_Pairs : u_T := fun k => match k with
  | 0 => ("MovedFolders$Pairs", "mates", "[I", true)
  | 1 => ("MovedFolders$Pairs", "ways", "[I", true)
  | 2 => ("MovedFolders$Pairs", "sources", "[I", true)
  | _ => ("MovedFolders$Pairs", "ranks", "[I", true)
def ty_Pairs : Nat → FieldType := fun k => match k with
  | 0 => (.array .int)
  | 1 => (.array .int)
  | 2 => (.array .int)
  | _ => (.array .int)
theorem nm_Pairs : ∀ a, a < 4 → ∀ b, b < 4 → a ≠ b → (T_Pairs a).2.1 ≠ (T_Pairs b).2.1 := by decide +kernel
theorem ty_Pairs_ok : ∀ k, k < 4 → parseFieldDescriptor (T_Pairs k).2.2.1 = some (ty_Pairs k) := by decide +kernel
theorem wi_Pairs : ∀ w ∈ u_ws R_Pairs T_Pairs 4, w ∈ lw_tbl := by
  have h : u_ws R_Pairs T_Pairs 4 = [165, 167, 169, 171].filterMap (fun i => lw_tbl[i]?) := by decide +kernel
  intro w hw
  rw [h] at hw
  obtain ⟨i, -, hi⟩ := List.mem_filterMap.mp hw
  exact List.mem_of_getElem? hi
def R_Side : String := "MovedFolders$Side"
def T_Side : u_T := fun k => match k with
  | 0 => ("MovedFolders$Side", "pairs", "LMovedFolders$Pairs;", true)
  | _ => ("MovedFolders$Side", "moves", "LMovedFolders$Moves;", true)
def ty_Side : Nat → FieldType := fun k => match k with
  | 0 => (.object "MovedFolders$Pairs")
  | _ => (.object "MovedFolders$Moves")
theorem nm_Side : ∀ a, a < 2 → ∀ b, b < 2 → a ≠ b → (T_Side a).2.1 ≠ (T_Side b).2.1 := by decide +kernel
theorem ty_Side_ok : ∀ k, k < 2 → parseFieldDescriptor (T_Side k).2.2.1 = some (ty_Side k) := by decide +kernel
theorem wi_Side : ∀ w ∈ u_ws R_Side T_Side 2, w ∈ lw_tbl := by
  have h : u_ws R_Side T_Side 2 = [200, 202].filterMap (fun i => lw_tbl[i]?) := by decide +kernel
  intro w hw
  rw [h] at hw
  obtain ⟨i, -, hi⟩ := List.mem_filterMap.mp hw
  exact List.mem_of_getElem? hi
def R_Tree : String := "MovedFolders$Tree"
def T_Tree : u_T := fun k => match k with
  | 0 => ("MovedFolders$Tree", "paths", "[I", true)
  | 1 => ("MovedFolders$Tree", "contents", "[I", true)
  | _ => ("MovedFolders$Tree", "count", "I", false)
def ty_Tree : Nat → FieldType := fun k => match k with
  | 0 => (.array .int)
  | 1 => (.array .int)
  | _ => .int
theorem nm_Tree : ∀ a, a < 3 → ∀ b, b < 3 → a ≠ b → (T_Tree a).2.1 ≠ (T_Tree b).2.1 := by decide +kernel
theorem ty_Tree_ok : ∀ k, k < 3 → parseFieldDescriptor (T_Tree k).2.2.1 = some (ty_Tree k) := by decide +kernel
theorem wi_Tree : ∀ w ∈ u_ws R_Tree T_Tree 3, w ∈ lw_tbl := by
  have h : u_ws R_Tree T_Tree 3 = [122, 124, 126].filterMap (fun i => lw_tbl[i]?) := by decide +kernel
  intro w hw
  rw [h] at hw
  obtain ⟨i, -, hi⟩ := List.mem_filterMap.mp hw
  exact List.mem_of_getElem? hi
def R_MF : String := "MovedFolders"
def T_MF : u_T := fun k => match k with
  | 0 => ("MovedFolders", "pad", "LMovedFolders$Pad;", true)
  | 1 => ("MovedFolders", "held", "LMovedFolders$Held;", true)
  | 2 => ("MovedFolders", "imageZero", "LMovedFolders$Held;", true)
  | 3 => ("MovedFolders", "imageOne", "LMovedFolders$Held;", true)
  | 4 => ("MovedFolders", "kept", "[Z", true)
  | 5 => ("MovedFolders", "sideOne", "LMovedFolders$Side;", true)
  | 6 => ("MovedFolders", "sideTwo", "LMovedFolders$Side;", true)
  | 7 => ("MovedFolders", "loops", "LMovedFolders$Loops;", true)
  | 8 => ("MovedFolders", "merge", "LMovedFolders$Merge;", true)
  | _ => ("MovedFolders", "fresh", "Z", false)
def ty_MF : Nat → FieldType := fun k => match k with
  | 0 => (.object "MovedFolders$Pad")
  | 1 => (.object "MovedFolders$Held")
  | 2 => (.object "MovedFolders$Held")
  | 3 => (.object "MovedFolders$Held")
  | 4 => (.array .boolean)
  | 5 => (.object "MovedFolders$Side")
  | 6 => (.object "MovedFolders$Side")
  | 7 => (.object "MovedFolders$Loops")
  | 8 => (.object "MovedFolders$Merge")
  | _ => .boolean
theorem nm_MF : ∀ a, a < 10 → ∀ b, b < 10 → a ≠ b → (T_MF a).2.1 ≠ (T_MF b).2.1 := by decide +kernel
theorem ty_MF_ok : ∀ k, k < 10 → parseFieldDescriptor (T_MF k).2.2.1 = some (ty_MF k) := by decide +kernel
theorem wi_MF : ∀ w ∈ u_ws R_MF T_MF 10, w ∈ lw_tbl := by
  have h : u_ws R_MF T_MF 10 = [262, 264, 266, 268, 270, 272, 274, 276, 278, 280].filterMap (fun i => lw_tbl[i]?) := by decide +kernel
  intro w hw
  rw [h] at hw
  obtain ⟨i, -, hi⟩ := List.mem_filterMap.mp hw
  exact List.mem_of_getElem? hi
def R_Mo : String := "MovedFoldersModel"
def T_Mo : u_T := fun k => match k with
  | 0 => ("MovedFoldersModel", "paths", "[I", true)
  | 1 => ("MovedFoldersModel", "contents", "[I", true)
  | 2 => ("MovedFoldersModel", "many", "[I", true)
  | 3 => ("MovedFoldersModel", "limitNow", "I", false)
  | 4 => ("MovedFoldersModel", "pad", "[I", true)
  | 5 => ("MovedFoldersModel", "padMany", "I", false)
  | 6 => ("MovedFoldersModel", "readFolder", "I", false)
  | 7 => ("MovedFoldersModel", "readLetters", "I", false)
  | 8 => ("MovedFoldersModel", "readName", "I", false)
  | 9 => ("MovedFoldersModel", "readContent", "I", false)
  | 10 => ("MovedFoldersModel", "readPieces", "I", false)
  | 11 => ("MovedFoldersModel", "mate", "[I", true)
  | 12 => ("MovedFoldersModel", "how", "[I", true)
  | 13 => ("MovedFoldersModel", "origin", "[I", true)
  | 14 => ("MovedFoldersModel", "movedTo", "[I", true)
  | 15 => ("MovedFoldersModel", "met", "[Z", true)
  | 16 => ("MovedFoldersModel", "entryPath", "[I", true)
  | 17 => ("MovedFoldersModel", "entryContent", "[I", true)
  | 18 => ("MovedFoldersModel", "entryCauses", "[I", true)
  | 19 => ("MovedFoldersModel", "entryFrom", "[I", true)
  | 20 => ("MovedFoldersModel", "entries", "I", false)
  | 21 => ("MovedFoldersModel", "causes", "I", false)
  | 22 => ("MovedFoldersModel", "isUsed", "[Z", true)
  | 23 => ("MovedFoldersModel", "kept", "[I", true)
  | 24 => ("MovedFoldersModel", "isKept", "[Z", true)
  | 25 => ("MovedFoldersModel", "keptAt", "I", false)
  | _ => ("MovedFoldersModel", "isWriting", "Z", false)
def ty_Mo : Nat → FieldType := fun k => match k with
  | 0 => (.array .int)
  | 1 => (.array .int)
  | 2 => (.array .int)
  | 3 => .int
  | 4 => (.array .int)
  | 5 => .int
  | 6 => .int
  | 7 => .int
  | 8 => .int
  | 9 => .int
  | 10 => .int
  | 11 => (.array .int)
  | 12 => (.array .int)
  | 13 => (.array .int)
  | 14 => (.array .int)
  | 15 => (.array .boolean)
  | 16 => (.array .int)
  | 17 => (.array .int)
  | 18 => (.array .int)
  | 19 => (.array .int)
  | 20 => .int
  | 21 => .int
  | 22 => (.array .boolean)
  | 23 => (.array .int)
  | 24 => (.array .boolean)
  | 25 => .int
  | _ => .boolean
theorem nm_Mo : ∀ a, a < 27 → ∀ b, b < 27 → a ≠ b → (T_Mo a).2.1 ≠ (T_Mo b).2.1 := by decide +kernel
theorem ty_Mo_ok : ∀ k, k < 27 → parseFieldDescriptor (T_Mo k).2.2.1 = some (ty_Mo k) := by decide +kernel
theorem wi_Mo : ∀ w ∈ u_ws R_Mo T_Mo 27, w ∈ lw_tbl := by
  have h : u_ws R_Mo T_Mo 27 = [786, 788, 790, 792, 794, 796, 798, 800, 802, 804, 806, 808, 810, 812, 814, 816, 818, 820, 822, 824, 826, 828, 830, 832, 834, 836, 838].filterMap (fun i => lw_tbl[i]?) := by decide +kernel
  intro w hw
  rw [h] at hw
  obtain ⟨i, -, hi⟩ := List.mem_filterMap.mp hw
  exact List.mem_of_getElem? hi
abbrev vwCl : List vw_C := [(R_Held, T_Held, 4), (R_Loops, T_Loops, 2), (R_Merge, T_Merge, 9), (R_Moves, T_Moves, 4), (R_Pad, T_Pad, 2), (R_Pairs, T_Pairs, 4), (R_Side, T_Side, 2), (R_Tree, T_Tree, 3), (R_MF, T_MF, 10), (R_Mo, T_Mo, 27)]
-- methods
abbrev b_Held_init : ByteArray := prog_2_method_1_code
abbrev y_Held_init : MethodName := ⟨"MovedFolders$Held", "<init>", "()V"⟩
abbrev b_Held_take : ByteArray := prog_2_method_2_code
abbrev y_Held_take : MethodName := ⟨"MovedFolders$Held", "take", "(LMovedFolders$Held;)V"⟩
abbrev b_Letters_isFolder : ByteArray := prog_3_method_2_code
abbrev y_Letters_isFolder : MethodName := ⟨"MovedFolders$Letters", "isFolder", "(I)Z"⟩
abbrev b_Letters_folderOf : ByteArray := prog_3_method_3_code
abbrev y_Letters_folderOf : MethodName := ⟨"MovedFolders$Letters", "folderOf", "(I)I"⟩
abbrev b_Letters_nameOf : ByteArray := prog_3_method_4_code
abbrev y_Letters_nameOf : MethodName := ⟨"MovedFolders$Letters", "nameOf", "(I)I"⟩
abbrev b_Letters_lengthOf : ByteArray := prog_3_method_5_code
abbrev y_Letters_lengthOf : MethodName := ⟨"MovedFolders$Letters", "lengthOf", "(I)I"⟩
abbrev b_Letters_firstOf : ByteArray := prog_3_method_6_code
abbrev y_Letters_firstOf : MethodName := ⟨"MovedFolders$Letters", "firstOf", "(II)I"⟩
abbrev b_Letters_shift : ByteArray := prog_3_method_7_code
abbrev y_Letters_shift : MethodName := ⟨"MovedFolders$Letters", "shift", "(III)I"⟩
abbrev b_Loops_init : ByteArray := prog_4_method_1_code
abbrev y_Loops_init : MethodName := ⟨"MovedFolders$Loops", "<init>", "()V"⟩
abbrev b_Loops_mark : ByteArray := prog_4_method_2_code
abbrev y_Loops_mark : MethodName := ⟨"MovedFolders$Loops", "mark", "(LMovedFolders$Moves;LMovedFolders$Moves;)V"⟩
abbrev b_Loops_markThose : ByteArray := prog_4_method_3_code
abbrev y_Loops_markThose : MethodName := ⟨"MovedFolders$Loops", "markThose", "(LMovedFolders$Moves;LMovedFolders$Moves;LMovedFolders$Moves;)V"⟩
abbrev b_Loops_reachFrom : ByteArray := prog_4_method_4_code
abbrev y_Loops_reachFrom : MethodName := ⟨"MovedFolders$Loops", "reachFrom", "(ILMovedFolders$Moves;LMovedFolders$Moves;)V"⟩
abbrev b_Loops_add : ByteArray := prog_4_method_5_code
abbrev y_Loops_add : MethodName := ⟨"MovedFolders$Loops", "add", "(I)V"⟩
abbrev b_Loops_isReached : ByteArray := prog_4_method_6_code
abbrev y_Loops_isReached : MethodName := ⟨"MovedFolders$Loops", "isReached", "(I)Z"⟩
abbrev b_Merge_init : ByteArray := prog_5_method_1_code
abbrev y_Merge_init : MethodName := ⟨"MovedFolders$Merge", "<init>", "()V"⟩
abbrev b_Merge_size : ByteArray := prog_5_method_2_code
abbrev y_Merge_size : MethodName := ⟨"MovedFolders$Merge", "size", "()I"⟩
abbrev b_Merge_clashSize : ByteArray := prog_5_method_3_code
abbrev y_Merge_clashSize : MethodName := ⟨"MovedFolders$Merge", "clashSize", "()I"⟩
abbrev b_Merge_tell : ByteArray := prog_5_method_4_code
abbrev y_Merge_tell : MethodName := ⟨"MovedFolders$Merge", "tell", "(II)I"⟩
abbrev b_Merge_tellClash : ByteArray := prog_5_method_5_code
abbrev y_Merge_tellClash : MethodName := ⟨"MovedFolders$Merge", "tellClash", "(II)I"⟩
abbrev b_Merge_writeTo : ByteArray := prog_5_method_6_code
abbrev y_Merge_writeTo : MethodName := ⟨"MovedFolders$Merge", "writeTo", "(LMovedFolders$Tree;)V"⟩
abbrev b_Merge_make : ByteArray := prog_5_method_7_code
abbrev y_Merge_make : MethodName := ⟨"MovedFolders$Merge", "make", "(LMovedFolders$Held;LMovedFolders$Side;LMovedFolders$Side;)V"⟩
abbrev b_Merge_addOld : ByteArray := prog_5_method_8_code
abbrev y_Merge_addOld : MethodName := ⟨"MovedFolders$Merge", "addOld", "(LMovedFolders$Held;LMovedFolders$Side;LMovedFolders$Side;I)V"⟩
abbrev b_Merge_pathsClash : ByteArray := prog_5_method_9_code
abbrev y_Merge_pathsClash : MethodName := ⟨"MovedFolders$Merge", "pathsClash", "(III)Z"⟩
abbrev b_Merge_joinFolders : ByteArray := prog_5_method_10_code
abbrev y_Merge_joinFolders : MethodName := ⟨"MovedFolders$Merge", "joinFolders", "(IIILMovedFolders$Moves;LMovedFolders$Moves;)I"⟩
abbrev b_Merge_newPath : ByteArray := prog_5_method_11_code
abbrev y_Merge_newPath : MethodName := ⟨"MovedFolders$Merge", "newPath", "(ILMovedFolders$Moves;)I"⟩
abbrev b_Merge_findGoals : ByteArray := prog_5_method_12_code
abbrev y_Merge_findGoals : MethodName := ⟨"MovedFolders$Merge", "findGoals", "(LMovedFolders$Held;LMovedFolders$Side;LMovedFolders$Side;)V"⟩
abbrev b_Merge_addNewOfOne : ByteArray := prog_5_method_13_code
abbrev y_Merge_addNewOfOne : MethodName := ⟨"MovedFolders$Merge", "addNewOfOne", "(LMovedFolders$Held;LMovedFolders$Side;LMovedFolders$Side;)V"⟩
abbrev b_Merge_takeSame : ByteArray := prog_5_method_14_code
abbrev y_Merge_takeSame : MethodName := ⟨"MovedFolders$Merge", "takeSame", "(LMovedFolders$Tree;II)V"⟩
abbrev b_Merge_addNewOfTwo : ByteArray := prog_5_method_15_code
abbrev y_Merge_addNewOfTwo : MethodName := ⟨"MovedFolders$Merge", "addNewOfTwo", "(LMovedFolders$Tree;)V"⟩
abbrev b_Merge_add : ByteArray := prog_5_method_16_code
abbrev y_Merge_add : MethodName := ⟨"MovedFolders$Merge", "add", "(IIII)V"⟩
abbrev b_Merge_isBehind : ByteArray := prog_5_method_17_code
abbrev y_Merge_isBehind : MethodName := ⟨"MovedFolders$Merge", "isBehind", "(IIIII)Z"⟩
abbrev b_Merge_markMeetings : ByteArray := prog_5_method_18_code
abbrev y_Merge_markMeetings : MethodName := ⟨"MovedFolders$Merge", "markMeetings", "()V"⟩
abbrev b_Merge_gatherClashes : ByteArray := prog_5_method_19_code
abbrev y_Merge_gatherClashes : MethodName := ⟨"MovedFolders$Merge", "gatherClashes", "()V"⟩
abbrev b_Moves_init : ByteArray := prog_6_method_1_code
abbrev y_Moves_init : MethodName := ⟨"MovedFolders$Moves", "<init>", "()V"⟩
abbrev b_Moves_size : ByteArray := prog_6_method_2_code
abbrev y_Moves_size : MethodName := ⟨"MovedFolders$Moves", "size", "()I"⟩
abbrev b_Moves_startAt : ByteArray := prog_6_method_3_code
abbrev y_Moves_startAt : MethodName := ⟨"MovedFolders$Moves", "startAt", "(I)I"⟩
abbrev b_Moves_targetAt : ByteArray := prog_6_method_4_code
abbrev y_Moves_targetAt : MethodName := ⟨"MovedFolders$Moves", "targetAt", "(I)I"⟩
abbrev b_Moves_markRound : ByteArray := prog_6_method_5_code
abbrev y_Moves_markRound : MethodName := ⟨"MovedFolders$Moves", "markRound", "(IZ)V"⟩
abbrev b_Moves_placeOf : ByteArray := prog_6_method_6_code
abbrev y_Moves_placeOf : MethodName := ⟨"MovedFolders$Moves", "placeOf", "(I)I"⟩
abbrev b_Moves_targetOf : ByteArray := prog_6_method_7_code
abbrev y_Moves_targetOf : MethodName := ⟨"MovedFolders$Moves", "targetOf", "(I)I"⟩
abbrev b_Moves_goesRound : ByteArray := prog_6_method_8_code
abbrev y_Moves_goesRound : MethodName := ⟨"MovedFolders$Moves", "goesRound", "(I)Z"⟩
abbrev b_Moves_follow : ByteArray := prog_6_method_9_code
abbrev y_Moves_follow : MethodName := ⟨"MovedFolders$Moves", "follow", "(I)I"⟩
abbrev b_Moves_find : ByteArray := prog_6_method_10_code
abbrev y_Moves_find : MethodName := ⟨"MovedFolders$Moves", "find", "(LMovedFolders$Tree;LMovedFolders$Tree;LMovedFolders$Pairs;)V"⟩
abbrev b_Moves_add : ByteArray := prog_6_method_11_code
abbrev y_Moves_add : MethodName := ⟨"MovedFolders$Moves", "add", "(II)V"⟩
abbrev b_Moves_mostVoted : ByteArray := prog_6_method_12_code
abbrev y_Moves_mostVoted : MethodName := ⟨"MovedFolders$Moves", "mostVoted", "(LMovedFolders$Tree;LMovedFolders$Tree;LMovedFolders$Pairs;I)I"⟩
abbrev b_Pad_init : ByteArray := prog_7_method_1_code
abbrev y_Pad_init : MethodName := ⟨"MovedFolders$Pad", "<init>", "()V"⟩
abbrev b_Pad_size : ByteArray := prog_7_method_2_code
abbrev y_Pad_size : MethodName := ⟨"MovedFolders$Pad", "size", "()I"⟩
abbrev b_Pad_add : ByteArray := prog_7_method_3_code
abbrev y_Pad_add : MethodName := ⟨"MovedFolders$Pad", "add", "(I)Z"⟩
abbrev b_Pad_clear : ByteArray := prog_7_method_4_code
abbrev y_Pad_clear : MethodName := ⟨"MovedFolders$Pad", "clear", "()V"⟩
abbrev b_Pad_signAt : ByteArray := prog_7_method_5_code
abbrev y_Pad_signAt : MethodName := ⟨"MovedFolders$Pad", "signAt", "(I)I"⟩
abbrev b_Pad_runOf : ByteArray := prog_7_method_6_code
abbrev y_Pad_runOf : MethodName := ⟨"MovedFolders$Pad", "runOf", "(IIII)I"⟩
abbrev b_Pad_letters : ByteArray := prog_7_method_7_code
abbrev y_Pad_letters : MethodName := ⟨"MovedFolders$Pad", "letters", "()I"⟩
abbrev b_Pad_figures : ByteArray := prog_7_method_8_code
abbrev y_Pad_figures : MethodName := ⟨"MovedFolders$Pad", "figures", "()I"⟩
abbrev b_Pad_firstWrong : ByteArray := prog_7_method_9_code
abbrev y_Pad_firstWrong : MethodName := ⟨"MovedFolders$Pad", "firstWrong", "()I"⟩
abbrev b_Pad_readPath : ByteArray := prog_7_method_10_code
abbrev y_Pad_readPath : MethodName := ⟨"MovedFolders$Pad", "readPath", "()I"⟩
abbrev b_Pad_readContent : ByteArray := prog_7_method_11_code
abbrev y_Pad_readContent : MethodName := ⟨"MovedFolders$Pad", "readContent", "()I"⟩
abbrev b_Pairs_init : ByteArray := prog_8_method_1_code
abbrev y_Pairs_init : MethodName := ⟨"MovedFolders$Pairs", "<init>", "()V"⟩
abbrev b_Pairs_mateOf : ByteArray := prog_8_method_2_code
abbrev y_Pairs_mateOf : MethodName := ⟨"MovedFolders$Pairs", "mateOf", "(I)I"⟩
abbrev b_Pairs_wayOf : ByteArray := prog_8_method_3_code
abbrev y_Pairs_wayOf : MethodName := ⟨"MovedFolders$Pairs", "wayOf", "(I)I"⟩
abbrev b_Pairs_sourceOf : ByteArray := prog_8_method_4_code
abbrev y_Pairs_sourceOf : MethodName := ⟨"MovedFolders$Pairs", "sourceOf", "(I)I"⟩
abbrev b_Pairs_countGone : ByteArray := prog_8_method_5_code
abbrev y_Pairs_countGone : MethodName := ⟨"MovedFolders$Pairs", "countGone", "(LMovedFolders$Tree;)I"⟩
abbrev b_Pairs_countNew : ByteArray := prog_8_method_6_code
abbrev y_Pairs_countNew : MethodName := ⟨"MovedFolders$Pairs", "countNew", "(LMovedFolders$Tree;)I"⟩
abbrev b_Pairs_countWent : ByteArray := prog_8_method_7_code
abbrev y_Pairs_countWent : MethodName := ⟨"MovedFolders$Pairs", "countWent", "(LMovedFolders$Tree;LMovedFolders$Tree;II)I"⟩
abbrev b_Pairs_find : ByteArray := prog_8_method_8_code
abbrev y_Pairs_find : MethodName := ⟨"MovedFolders$Pairs", "find", "(LMovedFolders$Tree;LMovedFolders$Tree;I)V"⟩
abbrev b_Pairs_join : ByteArray := prog_8_method_9_code
abbrev y_Pairs_join : MethodName := ⟨"MovedFolders$Pairs", "join", "(III)V"⟩
abbrev b_Pairs_joinStayed : ByteArray := prog_8_method_10_code
abbrev y_Pairs_joinStayed : MethodName := ⟨"MovedFolders$Pairs", "joinStayed", "(LMovedFolders$Tree;LMovedFolders$Tree;)V"⟩
abbrev b_Pairs_rankOthers : ByteArray := prog_8_method_11_code
abbrev y_Pairs_rankOthers : MethodName := ⟨"MovedFolders$Pairs", "rankOthers", "(LMovedFolders$Tree;LMovedFolders$Tree;I)V"⟩
abbrev b_Pairs_rankOf : ByteArray := prog_8_method_12_code
abbrev y_Pairs_rankOf : MethodName := ⟨"MovedFolders$Pairs", "rankOf", "(III)I"⟩
abbrev b_Pairs_joinBest : ByteArray := prog_8_method_13_code
abbrev y_Pairs_joinBest : MethodName := ⟨"MovedFolders$Pairs", "joinBest", "(LMovedFolders$Tree;LMovedFolders$Tree;)V"⟩
abbrev b_Pieces_countOf : ByteArray := prog_9_method_2_code
abbrev y_Pieces_countOf : MethodName := ⟨"MovedFolders$Pieces", "countOf", "(I)I"⟩
abbrev b_Pieces_likeness : ByteArray := prog_9_method_3_code
abbrev y_Pieces_likeness : MethodName := ⟨"MovedFolders$Pieces", "likeness", "(II)I"⟩
abbrev b_Pieces_tally : ByteArray := prog_9_method_4_code
abbrev y_Pieces_tally : MethodName := ⟨"MovedFolders$Pieces", "tally", "(I)J"⟩
abbrev b_Pieces_shared : ByteArray := prog_9_method_5_code
abbrev y_Pieces_shared : MethodName := ⟨"MovedFolders$Pieces", "shared", "(JJ)I"⟩
abbrev b_Side_init : ByteArray := prog_10_method_1_code
abbrev y_Side_init : MethodName := ⟨"MovedFolders$Side", "<init>", "()V"⟩
abbrev b_Three_differ : ByteArray := prog_11_method_2_code
abbrev y_Three_differ : MethodName := ⟨"MovedFolders$Three", "differ", "(III)Z"⟩
abbrev b_Three_join : ByteArray := prog_11_method_3_code
abbrev y_Three_join : MethodName := ⟨"MovedFolders$Three", "join", "(III)I"⟩
abbrev b_Three_sameCount : ByteArray := prog_11_method_4_code
abbrev y_Three_sameCount : MethodName := ⟨"MovedFolders$Three", "sameCount", "(III)Z"⟩
abbrev b_Three_joinContents : ByteArray := prog_11_method_5_code
abbrev y_Three_joinContents : MethodName := ⟨"MovedFolders$Three", "joinContents", "(III)I"⟩
abbrev b_Three_contentsClash : ByteArray := prog_11_method_6_code
abbrev y_Three_contentsClash : MethodName := ⟨"MovedFolders$Three", "contentsClash", "(III)Z"⟩
abbrev b_Tree_init : ByteArray := prog_12_method_1_code
abbrev y_Tree_init : MethodName := ⟨"MovedFolders$Tree", "<init>", "()V"⟩
abbrev b_Tree_size : ByteArray := prog_12_method_2_code
abbrev y_Tree_size : MethodName := ⟨"MovedFolders$Tree", "size", "()I"⟩
abbrev b_Tree_has : ByteArray := prog_12_method_3_code
abbrev y_Tree_has : MethodName := ⟨"MovedFolders$Tree", "has", "(I)Z"⟩
abbrev b_Tree_pathAt : ByteArray := prog_12_method_4_code
abbrev y_Tree_pathAt : MethodName := ⟨"MovedFolders$Tree", "pathAt", "(I)I"⟩
abbrev b_Tree_contentAt : ByteArray := prog_12_method_5_code
abbrev y_Tree_contentAt : MethodName := ⟨"MovedFolders$Tree", "contentAt", "(I)I"⟩
abbrev b_Tree_folderAt : ByteArray := prog_12_method_6_code
abbrev y_Tree_folderAt : MethodName := ⟨"MovedFolders$Tree", "folderAt", "(I)I"⟩
abbrev b_Tree_nameAt : ByteArray := prog_12_method_7_code
abbrev y_Tree_nameAt : MethodName := ⟨"MovedFolders$Tree", "nameAt", "(I)I"⟩
abbrev b_Tree_liesIn : ByteArray := prog_12_method_8_code
abbrev y_Tree_liesIn : MethodName := ⟨"MovedFolders$Tree", "liesIn", "(I)Z"⟩
abbrev b_Tree_find : ByteArray := prog_12_method_9_code
abbrev y_Tree_find : MethodName := ⟨"MovedFolders$Tree", "find", "(I)I"⟩
abbrev b_Tree_lay : ByteArray := prog_12_method_10_code
abbrev y_Tree_lay : MethodName := ⟨"MovedFolders$Tree", "lay", "(II)Z"⟩
abbrev b_Tree_openFor : ByteArray := prog_12_method_11_code
abbrev y_Tree_openFor : MethodName := ⟨"MovedFolders$Tree", "openFor", "(I)I"⟩
abbrev b_Tree_remove : ByteArray := prog_12_method_12_code
abbrev y_Tree_remove : MethodName := ⟨"MovedFolders$Tree", "remove", "(I)V"⟩
abbrev b_Tree_clear : ByteArray := prog_12_method_13_code
abbrev y_Tree_clear : MethodName := ⟨"MovedFolders$Tree", "clear", "()V"⟩
abbrev b_Tree_take : ByteArray := prog_12_method_14_code
abbrev y_Tree_take : MethodName := ⟨"MovedFolders$Tree", "take", "(LMovedFolders$Tree;)V"⟩
abbrev b_MF_init : ByteArray := prog_1_method_1_code
abbrev y_MF_init : MethodName := ⟨"MovedFolders", "<init>", "()V"⟩
abbrev b_MF_say : ByteArray := prog_1_method_2_code
abbrev y_MF_say : MethodName := ⟨"MovedFolders", "say", "(I)I"⟩
abbrev b_MF_wipe : ByteArray := prog_1_method_3_code
abbrev y_MF_wipe : MethodName := ⟨"MovedFolders", "wipe", "()I"⟩
abbrev b_MF_fault : ByteArray := prog_1_method_4_code
abbrev y_MF_fault : MethodName := ⟨"MovedFolders", "fault", "()I"⟩
abbrev b_MF_put : ByteArray := prog_1_method_5_code
abbrev y_MF_put : MethodName := ⟨"MovedFolders", "put", "(I)I"⟩
abbrev b_MF_drop : ByteArray := prog_1_method_6_code
abbrev y_MF_drop : MethodName := ⟨"MovedFolders", "drop", "(II)I"⟩
abbrev b_MF_file : ByteArray := prog_1_method_7_code
abbrev y_MF_file : MethodName := ⟨"MovedFolders", "file", "(III)I"⟩
abbrev b_MF_copy : ByteArray := prog_1_method_8_code
abbrev y_MF_copy : MethodName := ⟨"MovedFolders", "copy", "(I)I"⟩
abbrev b_MF_limit : ByteArray := prog_1_method_9_code
abbrev y_MF_limit : MethodName := ⟨"MovedFolders", "limit", "(I)I"⟩
abbrev b_MF_alike : ByteArray := prog_1_method_10_code
abbrev y_MF_alike : MethodName := ⟨"MovedFolders", "alike", "(IIII)I"⟩
abbrev b_MF_pair : ByteArray := prog_1_method_11_code
abbrev y_MF_pair : MethodName := ⟨"MovedFolders", "pair", "(III)I"⟩
abbrev b_MF_origin : ByteArray := prog_1_method_12_code
abbrev y_MF_origin : MethodName := ⟨"MovedFolders", "origin", "(II)I"⟩
abbrev b_MF_votes : ByteArray := prog_1_method_13_code
abbrev y_MF_votes : MethodName := ⟨"MovedFolders", "votes", "(III)I"⟩
abbrev b_MF_moved : ByteArray := prog_1_method_14_code
abbrev y_MF_moved : MethodName := ⟨"MovedFolders", "moved", "(III)I"⟩
abbrev b_MF_dest : ByteArray := prog_1_method_15_code
abbrev y_MF_dest : MethodName := ⟨"MovedFolders", "dest", "(II)I"⟩
abbrev b_MF_entry : ByteArray := prog_1_method_16_code
abbrev y_MF_entry : MethodName := ⟨"MovedFolders", "entry", "(II)I"⟩
abbrev b_MF_clash : ByteArray := prog_1_method_17_code
abbrev y_MF_clash : MethodName := ⟨"MovedFolders", "clash", "(II)I"⟩
abbrev b_MF_settle : ByteArray := prog_1_method_18_code
abbrev y_MF_settle : MethodName := ⟨"MovedFolders", "settle", "()I"⟩
abbrev b_MF_exchange : ByteArray := prog_1_method_19_code
abbrev y_MF_exchange : MethodName := ⟨"MovedFolders", "exchange", "()I"⟩
abbrev b_MF_image : ByteArray := prog_1_method_20_code
abbrev y_MF_image : MethodName := ⟨"MovedFolders", "image", "(I)I"⟩
abbrev b_MF_restore : ByteArray := prog_1_method_21_code
abbrev y_MF_restore : MethodName := ⟨"MovedFolders", "restore", "(I)I"⟩
abbrev b_MF_told : ByteArray := prog_1_method_22_code
abbrev y_MF_told : MethodName := ⟨"MovedFolders", "told", "(I)I"⟩
abbrev b_MF_isSide : ByteArray := prog_1_method_23_code
abbrev y_MF_isSide : MethodName := ⟨"MovedFolders", "isSide", "(I)Z"⟩
abbrev b_MF_isTree : ByteArray := prog_1_method_24_code
abbrev y_MF_isTree : MethodName := ⟨"MovedFolders", "isTree", "(I)Z"⟩
abbrev b_MF_isFile : ByteArray := prog_1_method_25_code
abbrev y_MF_isFile : MethodName := ⟨"MovedFolders", "isFile", "(II)Z"⟩
abbrev b_MF_treeOf : ByteArray := prog_1_method_26_code
abbrev y_MF_treeOf : MethodName := ⟨"MovedFolders", "treeOf", "(I)LMovedFolders$Tree;"⟩
abbrev b_MF_sideOf : ByteArray := prog_1_method_27_code
abbrev y_MF_sideOf : MethodName := ⟨"MovedFolders", "sideOf", "(I)LMovedFolders$Side;"⟩
abbrev b_MF_imageOf : ByteArray := prog_1_method_28_code
abbrev y_MF_imageOf : MethodName := ⟨"MovedFolders", "imageOf", "(I)LMovedFolders$Held;"⟩
abbrev b_MF_refresh : ByteArray := prog_1_method_29_code
abbrev y_MF_refresh : MethodName := ⟨"MovedFolders", "refresh", "()V"⟩
abbrev b_Mo_init : ByteArray := prog_14_method_1_code
abbrev y_Mo_init : MethodName := ⟨"MovedFoldersModel", "<init>", "()V"⟩
abbrev b_Mo_in : ByteArray := prog_14_method_3_code
abbrev y_Mo_in : MethodName := ⟨"MovedFoldersModel", "in", "(JJJ)Z"⟩
abbrev b_Mo_isTree : ByteArray := prog_14_method_4_code
abbrev y_Mo_isTree : MethodName := ⟨"MovedFoldersModel", "isTree", "(I)Z"⟩
abbrev b_Mo_isSide : ByteArray := prog_14_method_5_code
abbrev y_Mo_isSide : MethodName := ⟨"MovedFoldersModel", "isSide", "(I)Z"⟩
abbrev b_Mo_less : ByteArray := prog_14_method_6_code
abbrev y_Mo_less : MethodName := ⟨"MovedFoldersModel", "less", "(II)I"⟩
abbrev b_Mo_greater : ByteArray := prog_14_method_7_code
abbrev y_Mo_greater : MethodName := ⟨"MovedFoldersModel", "greater", "(II)I"⟩
abbrev b_Mo_isFile : ByteArray := prog_14_method_8_code
abbrev y_Mo_isFile : MethodName := ⟨"MovedFoldersModel", "isFile", "(II)Z"⟩
abbrev b_Mo_folderAt : ByteArray := prog_14_method_9_code
abbrev y_Mo_folderAt : MethodName := ⟨"MovedFoldersModel", "folderAt", "(II)I"⟩
abbrev b_Mo_nameAt : ByteArray := prog_14_method_10_code
abbrev y_Mo_nameAt : MethodName := ⟨"MovedFoldersModel", "nameAt", "(II)I"⟩
abbrev b_Mo_contentAt : ByteArray := prog_14_method_11_code
abbrev y_Mo_contentAt : MethodName := ⟨"MovedFoldersModel", "contentAt", "(II)I"⟩
abbrev b_Mo_isFolder : ByteArray := prog_14_method_12_code
abbrev y_Mo_isFolder : MethodName := ⟨"MovedFoldersModel", "isFolder", "(I)Z"⟩
abbrev b_Mo_say : ByteArray := prog_14_method_13_code
abbrev y_Mo_say : MethodName := ⟨"MovedFoldersModel", "say", "(I)I"⟩
abbrev b_Mo_wipe : ByteArray := prog_14_method_14_code
abbrev y_Mo_wipe : MethodName := ⟨"MovedFoldersModel", "wipe", "()I"⟩
abbrev b_Mo_worth : ByteArray := prog_14_method_15_code
abbrev y_Mo_worth : MethodName := ⟨"MovedFoldersModel", "worth", "(I)I"⟩
abbrev b_Mo_goOn : ByteArray := prog_14_method_16_code
abbrev y_Mo_goOn : MethodName := ⟨"MovedFoldersModel", "goOn", "(II)I"⟩
abbrev b_Mo_fault : ByteArray := prog_14_method_17_code
abbrev y_Mo_fault : MethodName := ⟨"MovedFoldersModel", "fault", "()I"⟩
abbrev b_Mo_placeOf : ByteArray := prog_14_method_18_code
abbrev y_Mo_placeOf : MethodName := ⟨"MovedFoldersModel", "placeOf", "(II)I"⟩
abbrev b_Mo_layAt : ByteArray := prog_14_method_19_code
abbrev y_Mo_layAt : MethodName := ⟨"MovedFoldersModel", "layAt", "(IIII)V"⟩
abbrev b_Mo_put : ByteArray := prog_14_method_20_code
abbrev y_Mo_put : MethodName := ⟨"MovedFoldersModel", "put", "(I)I"⟩
abbrev b_Mo_drop : ByteArray := prog_14_method_21_code
abbrev y_Mo_drop : MethodName := ⟨"MovedFoldersModel", "drop", "(II)I"⟩
abbrev b_Mo_file : ByteArray := prog_14_method_22_code
abbrev y_Mo_file : MethodName := ⟨"MovedFoldersModel", "file", "(III)I"⟩
abbrev b_Mo_copy : ByteArray := prog_14_method_23_code
abbrev y_Mo_copy : MethodName := ⟨"MovedFoldersModel", "copy", "(I)I"⟩
abbrev b_Mo_piecesIn : ByteArray := prog_14_method_24_code
abbrev y_Mo_piecesIn : MethodName := ⟨"MovedFoldersModel", "piecesIn", "(I)I"⟩
abbrev b_Mo_timesIn : ByteArray := prog_14_method_25_code
abbrev y_Mo_timesIn : MethodName := ⟨"MovedFoldersModel", "timesIn", "(II)I"⟩
abbrev b_Mo_alikeOf : ByteArray := prog_14_method_26_code
abbrev y_Mo_alikeOf : MethodName := ⟨"MovedFoldersModel", "alikeOf", "(II)I"⟩
abbrev b_Mo_limit : ByteArray := prog_14_method_27_code
abbrev y_Mo_limit : MethodName := ⟨"MovedFoldersModel", "limit", "(I)I"⟩
abbrev b_Mo_alike : ByteArray := prog_14_method_28_code
abbrev y_Mo_alike : MethodName := ⟨"MovedFoldersModel", "alike", "(IIII)I"⟩
abbrev b_Mo_join : ByteArray := prog_14_method_29_code
abbrev y_Mo_join : MethodName := ⟨"MovedFoldersModel", "join", "(IIII)V"⟩
abbrev b_Mo_isLeft : ByteArray := prog_14_method_30_code
abbrev y_Mo_isLeft : MethodName := ⟨"MovedFoldersModel", "isLeft", "(III)Z"⟩
abbrev b_Mo_closeness : ByteArray := prog_14_method_31_code
abbrev y_Mo_closeness : MethodName := ⟨"MovedFoldersModel", "closeness", "(IIII)I"⟩
abbrev b_Mo_isJoined : ByteArray := prog_14_method_32_code
abbrev y_Mo_isJoined : MethodName := ⟨"MovedFoldersModel", "isJoined", "(II)Z"⟩
abbrev b_Mo_findPairs : ByteArray := prog_14_method_33_code
abbrev y_Mo_findPairs : MethodName := ⟨"MovedFoldersModel", "findPairs", "(I)V"⟩
abbrev b_Mo_pair : ByteArray := prog_14_method_34_code
abbrev y_Mo_pair : MethodName := ⟨"MovedFoldersModel", "pair", "(III)I"⟩
abbrev b_Mo_origin : ByteArray := prog_14_method_35_code
abbrev y_Mo_origin : MethodName := ⟨"MovedFoldersModel", "origin", "(II)I"⟩
abbrev b_Mo_votesOf : ByteArray := prog_14_method_36_code
abbrev y_Mo_votesOf : MethodName := ⟨"MovedFoldersModel", "votesOf", "(III)I"⟩
abbrev b_Mo_liesIn : ByteArray := prog_14_method_37_code
abbrev y_Mo_liesIn : MethodName := ⟨"MovedFoldersModel", "liesIn", "(II)Z"⟩
abbrev b_Mo_movedOf : ByteArray := prog_14_method_38_code
abbrev y_Mo_movedOf : MethodName := ⟨"MovedFoldersModel", "movedOf", "(II)I"⟩
abbrev b_Mo_findMoves : ByteArray := prog_14_method_39_code
abbrev y_Mo_findMoves : MethodName := ⟨"MovedFoldersModel", "findMoves", "(I)V"⟩
abbrev b_Mo_findBoth : ByteArray := prog_14_method_40_code
abbrev y_Mo_findBoth : MethodName := ⟨"MovedFoldersModel", "findBoth", "()V"⟩
abbrev b_Mo_isStep : ByteArray := prog_14_method_41_code
abbrev y_Mo_isStep : MethodName := ⟨"MovedFoldersModel", "isStep", "(II)Z"⟩
abbrev b_Mo_isLoop : ByteArray := prog_14_method_42_code
abbrev y_Mo_isLoop : MethodName := ⟨"MovedFoldersModel", "isLoop", "(II)Z"⟩
abbrev b_Mo_votes : ByteArray := prog_14_method_43_code
abbrev y_Mo_votes : MethodName := ⟨"MovedFoldersModel", "votes", "(III)I"⟩
abbrev b_Mo_moved : ByteArray := prog_14_method_44_code
abbrev y_Mo_moved : MethodName := ⟨"MovedFoldersModel", "moved", "(III)I"⟩
abbrev b_Mo_lettersIn : ByteArray := prog_14_method_45_code
abbrev y_Mo_lettersIn : MethodName := ⟨"MovedFoldersModel", "lettersIn", "(I)I"⟩
abbrev b_Mo_letterOf : ByteArray := prog_14_method_46_code
abbrev y_Mo_letterOf : MethodName := ⟨"MovedFoldersModel", "letterOf", "(II)I"⟩
abbrev b_Mo_headOf : ByteArray := prog_14_method_47_code
abbrev y_Mo_headOf : MethodName := ⟨"MovedFoldersModel", "headOf", "(II)I"⟩
abbrev b_Mo_joined : ByteArray := prog_14_method_48_code
abbrev y_Mo_joined : MethodName := ⟨"MovedFoldersModel", "joined", "(III)I"⟩
abbrev b_Mo_destOf : ByteArray := prog_14_method_49_code
abbrev y_Mo_destOf : MethodName := ⟨"MovedFoldersModel", "destOf", "(II)I"⟩
abbrev b_Mo_dest : ByteArray := prog_14_method_50_code
abbrev y_Mo_dest : MethodName := ⟨"MovedFoldersModel", "dest", "(II)I"⟩
abbrev b_Mo_addEntry : ByteArray := prog_14_method_51_code
abbrev y_Mo_addEntry : MethodName := ⟨"MovedFoldersModel", "addEntry", "(IIII)V"⟩
abbrev b_Mo_oneOf : ByteArray := prog_14_method_52_code
abbrev y_Mo_oneOf : MethodName := ⟨"MovedFoldersModel", "oneOf", "(IIII)I"⟩
abbrev b_Mo_folderOf : ByteArray := prog_14_method_53_code
abbrev y_Mo_folderOf : MethodName := ⟨"MovedFoldersModel", "folderOf", "(III)I"⟩
abbrev b_Mo_contentOf : ByteArray := prog_14_method_54_code
abbrev y_Mo_contentOf : MethodName := ⟨"MovedFoldersModel", "contentOf", "(III)I"⟩
abbrev b_Mo_isAsBase : ByteArray := prog_14_method_55_code
abbrev y_Mo_isAsBase : MethodName := ⟨"MovedFoldersModel", "isAsBase", "(II)Z"⟩
abbrev b_Mo_pathOn : ByteArray := prog_14_method_56_code
abbrev y_Mo_pathOn : MethodName := ⟨"MovedFoldersModel", "pathOn", "(II)I"⟩
abbrev b_Mo_contentOn : ByteArray := prog_14_method_57_code
abbrev y_Mo_contentOn : MethodName := ⟨"MovedFoldersModel", "contentOn", "(II)I"⟩
abbrev b_Mo_mergeOld : ByteArray := prog_14_method_58_code
abbrev y_Mo_mergeOld : MethodName := ⟨"MovedFoldersModel", "mergeOld", "(I)V"⟩
abbrev b_Mo_newPath : ByteArray := prog_14_method_59_code
abbrev y_Mo_newPath : MethodName := ⟨"MovedFoldersModel", "newPath", "(II)I"⟩
abbrev b_Mo_twinOf : ByteArray := prog_14_method_60_code
abbrev y_Mo_twinOf : MethodName := ⟨"MovedFoldersModel", "twinOf", "(II)I"⟩
abbrev b_Mo_mergeNew : ByteArray := prog_14_method_61_code
abbrev y_Mo_mergeNew : MethodName := ⟨"MovedFoldersModel", "mergeNew", "()V"⟩
abbrev b_Mo_meetAll : ByteArray := prog_14_method_62_code
abbrev y_Mo_meetAll : MethodName := ⟨"MovedFoldersModel", "meetAll", "()V"⟩
abbrev b_Mo_isBefore : ByteArray := prog_14_method_63_code
abbrev y_Mo_isBefore : MethodName := ⟨"MovedFoldersModel", "isBefore", "(II)Z"⟩
abbrev b_Mo_change : ByteArray := prog_14_method_64_code
abbrev y_Mo_change : MethodName := ⟨"MovedFoldersModel", "change", "([III)V"⟩
abbrev b_Mo_sortAll : ByteArray := prog_14_method_65_code
abbrev y_Mo_sortAll : MethodName := ⟨"MovedFoldersModel", "sortAll", "()V"⟩
abbrev b_Mo_merge : ByteArray := prog_14_method_66_code
abbrev y_Mo_merge : MethodName := ⟨"MovedFoldersModel", "merge", "()V"⟩
abbrev b_Mo_entry : ByteArray := prog_14_method_67_code
abbrev y_Mo_entry : MethodName := ⟨"MovedFoldersModel", "entry", "(II)I"⟩
abbrev b_Mo_causesAt : ByteArray := prog_14_method_68_code
abbrev y_Mo_causesAt : MethodName := ⟨"MovedFoldersModel", "causesAt", "(I)I"⟩
abbrev b_Mo_clash : ByteArray := prog_14_method_69_code
abbrev y_Mo_clash : MethodName := ⟨"MovedFoldersModel", "clash", "(II)I"⟩
abbrev b_Mo_settle : ByteArray := prog_14_method_70_code
abbrev y_Mo_settle : MethodName := ⟨"MovedFoldersModel", "settle", "()I"⟩
abbrev b_Mo_exchange : ByteArray := prog_14_method_71_code
abbrev y_Mo_exchange : MethodName := ⟨"MovedFoldersModel", "exchange", "()I"⟩
abbrev b_Mo_passRow : ByteArray := prog_14_method_72_code
abbrev y_Mo_passRow : MethodName := ⟨"MovedFoldersModel", "passRow", "([II)V"⟩
abbrev b_Mo_passAll : ByteArray := prog_14_method_73_code
abbrev y_Mo_passAll : MethodName := ⟨"MovedFoldersModel", "passAll", "()V"⟩
abbrev b_Mo_image : ByteArray := prog_14_method_74_code
abbrev y_Mo_image : MethodName := ⟨"MovedFoldersModel", "image", "(I)I"⟩
abbrev b_Mo_restore : ByteArray := prog_14_method_75_code
abbrev y_Mo_restore : MethodName := ⟨"MovedFoldersModel", "restore", "(I)I"⟩
abbrev b_Mo_lackingOf : ByteArray := prog_14_method_76_code
abbrev y_Mo_lackingOf : MethodName := ⟨"MovedFoldersModel", "lackingOf", "([III)I"⟩
abbrev b_Mo_movedMany : ByteArray := prog_14_method_77_code
abbrev y_Mo_movedMany : MethodName := ⟨"MovedFoldersModel", "movedMany", "(I)I"⟩
abbrev b_Mo_toldOfSide : ByteArray := prog_14_method_78_code
abbrev y_Mo_toldOfSide : MethodName := ⟨"MovedFoldersModel", "toldOfSide", "(II)I"⟩
abbrev b_Mo_told : ByteArray := prog_14_method_79_code
abbrev y_Mo_told : MethodName := ⟨"MovedFoldersModel", "told", "(I)I"⟩
abbrev b_Ma_max : ByteArray := prog_15_method_65_code
abbrev y_Ma_max : MethodName := ⟨"java/lang/Math", "max", "(II)I"⟩
abbrev b_Ma_min : ByteArray := prog_15_method_69_code
abbrev y_Ma_min : MethodName := ⟨"java/lang/Math", "min", "(II)I"⟩
abbrev b_Ma_minL : ByteArray := prog_15_method_70_code
abbrev y_Ma_minL : MethodName := ⟨"java/lang/Math", "min", "(JJ)J"⟩
end
section
-- ===== the words that every contract rests on =====
def Tw : List Cond := lw_tbl.filter goodWord
theorem Tw_in {w : Cond} (h : w ∈ lw_tbl) (g : goodWord w = true) : w ∈ Tw := List.mem_filter.mpr ⟨h, g⟩
theorem Tw_good : GoodIn Tw Tw := fun w h => ⟨h, good_of_word (List.mem_filter.mp h).2⟩
theorem Tw_code {y : MethodName} {b : ByteArray} {n : Nat} {r : Option FieldType} (h : Cond.code y b n r ∈ lw_tbl) : GoodIn Tw (Cond.code y b n r :: Tw) := fun w hw => by
  rcases List.mem_cons.mp hw with e | e
  · subst e
    exact Tw_good _ (Tw_in h rfl)
  · exact Tw_good w e
-- ===== the pure heap =====
abbrev cE : Type := (Bool × Nat × (Nat → Int32)) ⊕ (Nat × List Value)
abbrev Hp : Type := List cE
def cv (base : Nat) (v : Value) : Value := match v with
  | .ref k => .ref (base + k)
  | w => w
def ce (base : Nat) (cI cZ : ClassId) (x : cE) : va_E := match x with
  | .inl a => .inl ((if a.1 = true then cZ else cI), a.2.1, .inl a.2.2)
  | .inr o => .inr (o.1, o.2.map (cv base))
def wl (base : Nat) (cI cZ : ClassId) (h : Hp) : va_W := h.mapIdx (fun k x => (base + k, ce base cI cZ x))
theorem wl_get {base : Nat} {cI cZ : ClassId} {h : Hp} {k : Nat} {x : cE} (hk : h[k]? = some x) : (wl base cI cZ h)[k]? = some (base + k, ce base cI cZ x) := by
  unfold wl
  rw [List.getElem?_mapIdx, hk]
  rfl
theorem wl_of {base : Nat} {cI cZ : ClassId} {h : Hp} {k : Nat} {q : Nat × va_E} (hq : (wl base cI cZ h)[k]? = some q) : q.1 = base + k ∧ k < h.length := by
  unfold wl at hq
  rw [List.getElem?_mapIdx] at hq
  cases hx : h[k]? with
  | none => rw [hx] at hq; cases hq
  | some x =>
    rw [hx] at hq
    cases hq
    exact ⟨rfl, (List.getElem?_eq_some_iff.mp hx).1⟩
theorem wl_set {base : Nat} {cI cZ : ClassId} {h : Hp} {k : Nat} {x : cE} : (wl base cI cZ h).set k (base + k, ce base cI cZ x) = wl base cI cZ (h.set k x) := by
  apply List.ext_getElem?
  intro i
  unfold wl
  rw [List.getElem?_set, List.getElem?_mapIdx, List.getElem?_mapIdx, List.getElem?_set, List.length_mapIdx]
  by_cases hi : k = i
  · subst hi
    by_cases hl : k < h.length
    · simp [hl]
    · simp [hl]
  · simp [hi]
theorem wl_push {base : Nat} {cI cZ : ClassId} {h : Hp} {x : cE} : wl base cI cZ (h ++ [x]) = wl base cI cZ h ++ [(base + h.length, ce base cI cZ x)] := by
  unfold wl
  rw [List.mapIdx_append]
  simp
theorem wl_D {base : Nat} {cI cZ : ClassId} {h : Hp} : va_D (fun q => base ≤ q) (wl base cI cZ h) := by
  refine ⟨fun i j x y hi hj hxy => ?_, fun k q hk => ?_⟩
  · have h1 := (wl_of hi).1
    have h2 := (wl_of hj).1
    omega
  · have h1 := (wl_of hk).1
    show base ≤ q.1
    omega
-- ===== reads and writes of the pure heap =====
def isO (h : Hp) (ci r : Nat) : Bool := match h[r]? with
  | some (.inr o) => o.1 == ci
  | _ => false
def ck {α : Type} (h : Hp) (ci r : Nat) (x : Option α) : Option α := if isO h ci r = true then x else none
def gI (h : Hp) (ci r k : Nat) : Option Int32 := match h[r]? with
  | some (.inr o) => if o.1 = ci then (match o.2[k]? with | some (.int x) => some x | _ => none) else none
  | _ => none
def gR (h : Hp) (ci r k : Nat) : Option Nat := match h[r]? with
  | some (.inr o) => if o.1 = ci then (match o.2[k]? with | some (.ref x) => some x | _ => none) else none
  | _ => none
def sI (h : Hp) (ci r k : Nat) (x : Int32) : Option Hp := match h[r]? with
  | some (.inr o) => if o.1 = ci ∧ k < o.2.length then some (h.set r (.inr (ci, o.2.set k (.int x)))) else none
  | _ => none
def sR (h : Hp) (ci r k : Nat) (x : Nat) : Option Hp := match h[r]? with
  | some (.inr o) => if o.1 = ci ∧ k < o.2.length then some (h.set r (.inr (ci, o.2.set k (.ref x)))) else none
  | _ => none
def ix (i : Int32) (n : Nat) : Bool := decide (¬ (i < 0 ∨ n ≤ i.toNatClampNeg))
def gA (h : Hp) (z : Bool) (a : Nat) (i : Int32) : Option Int32 := match h[a]? with
  | some (.inl x) => if x.1 = z ∧ ix i x.2.1 = true then some (x.2.2 i.toNatClampNeg) else none
  | _ => none
def sA (h : Hp) (a : Nat) (i x : Int32) : Option Hp := match h[a]? with
  | some (.inl y) => if y.1 = false ∧ ix i y.2.1 = true then some (h.set a (.inl (false, y.2.1, upd y.2.2 i.toNatClampNeg x))) else none
  | _ => none
def sZ (h : Hp) (a : Nat) (i x : Int32) : Option Hp := match h[a]? with
  | some (.inl y) => if y.1 = true ∧ ix i y.2.1 = true then some (h.set a (.inl (true, y.2.1, upd y.2.2 i.toNatClampNeg (vp_nar .boolean x)))) else none
  | _ => none
def lA (h : Hp) (a : Nat) : Option Int32 := match h[a]? with
  | some (.inl x) => some (Int32.ofNat x.2.1)
  | _ => none
def idv (x y : Int32) : Option Int32 := if y = 0 then none else some (x / y)
def irm (x y : Int32) : Option Int32 := if y = 0 then none else some (x - x / y * y)
def irem (x y : Int32) : Int32 := x - x / y * y
def rz (x : Int32) : Option Int32 := if vp_nar .boolean x = x then some x else none
def FU : Nat := 4000
theorem bS {α β : Type} {o : Option α} {f : α → Option β} {r : β} (h : o.bind f = some r) : ∃ a, o = some a ∧ f a = some r := by
  cases o with
  | none => cases h
  | some a => exact ⟨a, rfl, h⟩
theorem ck_some {α : Type} {h : Hp} {ci r : Nat} {x : Option α} {v : α} (e : ck h ci r x = some v) : isO h ci r = true ∧ x = some v := by
  unfold ck at e
  split at e
  · rename_i q
    exact ⟨q, e⟩
  · cases e
theorem isO_spec {h : Hp} {ci r : Nat} (e : isO h ci r = true) : ∃ fs, h[r]? = some (.inr (ci, fs)) := by
  unfold isO at e
  split at e
  · rename_i o ho
    have := eq_of_beq e
    exact ⟨o.2, by rw [ho, ← this]⟩
  · cases e
theorem gI_spec {h : Hp} {ci r k : Nat} {x : Int32} (e : gI h ci r k = some x) : ∃ fs, h[r]? = some (.inr (ci, fs)) ∧ fs[k]? = some (.int x) := by
  unfold gI at e
  split at e
  · rename_i o ho
    split at e
    · rename_i hc
      split at e
      · rename_i y hy
        cases e
        exact ⟨o.2, by rw [ho, ← hc], hy⟩
      · cases e
    · cases e
  · cases e
theorem gR_spec {h : Hp} {ci r k x : Nat} (e : gR h ci r k = some x) : ∃ fs, h[r]? = some (.inr (ci, fs)) ∧ fs[k]? = some (.ref x) := by
  unfold gR at e
  split at e
  · rename_i o ho
    split at e
    · rename_i hc
      split at e
      · rename_i y hy
        cases e
        exact ⟨o.2, by rw [ho, ← hc], hy⟩
      · cases e
    · cases e
  · cases e
theorem sI_spec {h h' : Hp} {ci r k : Nat} {x : Int32} (e : sI h ci r k x = some h') : ∃ fs, h[r]? = some (.inr (ci, fs)) ∧ k < fs.length ∧ h' = h.set r (.inr (ci, fs.set k (.int x))) := by
  unfold sI at e
  split at e
  · rename_i o ho
    split at e
    · rename_i hc
      cases e
      exact ⟨o.2, by rw [ho, ← hc.1], hc.2, rfl⟩
    · cases e
  · cases e
theorem sR_spec {h h' : Hp} {ci r k x : Nat} (e : sR h ci r k x = some h') : ∃ fs, h[r]? = some (.inr (ci, fs)) ∧ k < fs.length ∧ h' = h.set r (.inr (ci, fs.set k (.ref x))) := by
  unfold sR at e
  split at e
  · rename_i o ho
    split at e
    · rename_i hc
      cases e
      exact ⟨o.2, by rw [ho, ← hc.1], hc.2, rfl⟩
    · cases e
  · cases e
theorem ix_in {i : Int32} {n : Nat} (e : ix i n = true) : vp_in i n := of_decide_eq_true (p := ¬ (i < 0 ∨ n ≤ i.toNatClampNeg)) e
theorem gA_spec {h : Hp} {z : Bool} {a : Nat} {i x : Int32} (e : gA h z a i = some x) : ∃ (n : Nat) (f : Nat → Int32), h[a]? = some (.inl (z, n, f)) ∧ vp_in i n ∧ x = f i.toNatClampNeg := by
  unfold gA at e
  split at e
  · rename_i y hy
    split at e
    · rename_i hc
      cases e
      exact ⟨y.2.1, y.2.2, by rw [hy, ← hc.1], ix_in hc.2, rfl⟩
    · cases e
  · cases e
theorem sA_spec {h h' : Hp} {a : Nat} {i x : Int32} (e : sA h a i x = some h') : ∃ (n : Nat) (f : Nat → Int32), h[a]? = some (.inl (false, n, f)) ∧ vp_in i n ∧ h' = h.set a (.inl (false, n, upd f i.toNatClampNeg x)) := by
  unfold sA at e
  split at e
  · rename_i y hy
    split at e
    · rename_i hc
      cases e
      exact ⟨y.2.1, y.2.2, by rw [hy, ← hc.1], ix_in hc.2, rfl⟩
    · cases e
  · cases e
theorem sZ_spec {h h' : Hp} {a : Nat} {i x : Int32} (e : sZ h a i x = some h') : ∃ (n : Nat) (f : Nat → Int32), h[a]? = some (.inl (true, n, f)) ∧ vp_in i n ∧ h' = h.set a (.inl (true, n, upd f i.toNatClampNeg (vp_nar .boolean x))) := by
  unfold sZ at e
  split at e
  · rename_i y hy
    split at e
    · rename_i hc
      cases e
      exact ⟨y.2.1, y.2.2, by rw [hy, ← hc.1], ix_in hc.2, rfl⟩
    · cases e
  · cases e
theorem lA_spec {h : Hp} {a : Nat} {x : Int32} (e : lA h a = some x) : ∃ (z : Bool) (n : Nat) (f : Nat → Int32), h[a]? = some (.inl (z, n, f)) ∧ Int32.ofNat n = x := by
  unfold lA at e
  split at e
  · rename_i y hy
    cases e
    exact ⟨y.1, y.2.1, y.2.2, hy, rfl⟩
  · cases e
theorem idv_spec {x y z : Int32} (e : idv x y = some z) : ¬ y = 0 ∧ z = x / y := by
  unfold idv at e
  split at e
  · cases e
  · rename_i hy
    cases e
    exact ⟨hy, rfl⟩
theorem irm_spec {x y z : Int32} (e : irm x y = some z) : ¬ y = 0 ∧ z = x - x / y * y := by
  unfold irm at e
  split at e
  · cases e
  · rename_i hy
    cases e
    exact ⟨hy, rfl⟩
theorem rz_spec {x z : Int32} (e : rz x = some z) : z = x ∧ narrow .boolean (.int x) = .int x := by
  unfold rz at e
  split at e
  · rename_i hx
    cases e
    refine ⟨rfl, ?_⟩
    have h1 : vp_nar .boolean x = x := hx
    unfold vp_nar at h1
    first
      | (split at h1
         · rename_i w hw
           rw [hw, h1]
         · rename_i hw
           exfalso
           revert hw
           simp [narrow])
      | (simp [narrow] at h1 ⊢; exact h1)
  · cases e
end
section
-- ===== worlds, contexts, contracts =====
abbrev tyL (cI cZ : ClassId) : List (ClassId × FieldType) := [(cI, .int), (cZ, .boolean)]
def isNst : Cond → Bool
  | .methodLinkNest .. => true
  | _ => false
def lw_nest : List Cond := lw_tbl.filter isNst
/-- the tables' part of a state -/
def KS (D : va_G) (cI cZ : ClassId) (U : State) : Prop := va_K D vwCl (tyL cI cZ) U ∧ ∀ w ∈ lw_nest, va_Nw w U
/-- the heap holds the pure heap, from base on, and nothing behind it -/
def Rep (base : Nat) (D : va_G) (cI cZ : ClassId) (h : Hp) (H : Heap) : Prop := va_P D vwCl (wl base cI cZ h) H ∧ H.size = base + h.length
abbrev Ab (base : Nat) : Nat → Prop := fun q => base ≤ q
def PcW (base : Nat) (D : va_G) (cI cZ : ClassId) (h : Hp) (av : List Value) : Array Value → State → Prop := fun v U => v = av.toArray ∧ Rep base D cI cZ h U.heap ∧ KS D cI cZ U
def QcW (base : Nat) (D : va_G) (cI cZ : ClassId) (h : Hp) (v : Option Value) : Array Value → State → Outcome → State → Prop := fun _ st oc t => oc = .returned v ∧ Rep base D cI cZ h t.heap ∧ va_F (Ab base) st t
/-- a contract: from the pure heap h with arguments av, the method y ends with h' and v -/
abbrev Ct (l : Launch) (base : Nat) (D : va_G) (cI cZ : ClassId) (y : MethodName) (b : ByteArray) (nL : Nat) (ret : Option FieldType) (fr lo mc ms : Nat) (h : Hp) (av : List Value) (h' : Hp) (v : Option Value) : Prop :=
  Met l y (Cond.code y b nL ret :: Tw) ({ frames := fr, cells := mc, slots := ms, locals := lo } : Room) (PcW base D cI cZ h av) (QcW base D cI cZ h' v) mc ms (Ab base)
/-- what stays within a method's walk -/
def Cx (base : Nat) (D : va_G) (cI cZ : ClassId) (cc : ByteArray) (nL : Nat) (own nam : String) (ret : Option FieldType) (p : Program) (s : State) (m : MethodId) (args : Array Value) (meth : Method) (c : Code) : Prop :=
  p.tables.exec = Jvm.exec ∧ c.code = cc ∧ c.maxLocals = nL ∧ s.vm.findClass own = some m.cls ∧ (∀ w ∈ Tw, w.before args s = true) ∧ meth.sig.returnType = ret ∧ meth.locks = false ∧ KS D cI cZ s ∧ base ≤ s.heap.size ∧ meth.name = nam
/-- what moves within a method's walk -/
def RS (base : Nat) (D : va_G) (cI cZ : ClassId) (s : State) (H : Heap) (locs : List Loc) (h : Hp) : Prop := Rep base D cI cZ h H ∧ va_S (Ab base) s.heap H locs
-- bundles of words
def FL (own : String) (idx ci k : Nat) : Prop := ∃ (Cn : String) (T : u_T) (N : Nat), vwCl[ci]? = some (Cn, T, N) ∧ k < N ∧ (∀ w ∈ u_ws Cn T N, w ∈ Tw) ∧ Cond.fieldLink own idx (T k).1 (T k).2.1 (T k).2.2.1 ∈ Tw
def FP (own : String) (idx ci k : Nat) (ty : FieldType) (fin : Bool) : Prop := ∃ (Cn : String) (T : u_T) (N : Nat) (ty0 : Nat → FieldType), vwCl[ci]? = some (Cn, T, N) ∧ k < N ∧ (∀ w ∈ u_ws Cn T N, w ∈ Tw) ∧ Cond.fieldLink own idx (T k).1 (T k).2.1 (T k).2.2.1 ∈ Tw ∧ (∀ k, k < N → parseFieldDescriptor (T k).2.2.1 = some (ty0 k)) ∧ (∀ a, a < N → ∀ b, b < N → a ≠ b → (T a).2.1 ≠ (T b).2.1) ∧ (T k).2.2.2 = fin ∧ parseFieldDescriptor (T k).2.2.1 = some ty ∧ (T k).1 = Cn
def NW (own : String) (idx ci : Nat) (fs : List Value) (N : Nat) : Prop := ∃ (Cn : String) (T : u_T) (ty0 : Nat → FieldType), vwCl[ci]? = some (Cn, T, N) ∧ (∀ w ∈ u_ws Cn T N, w ∈ Tw) ∧ (∀ k, k < N → parseFieldDescriptor (T k).2.2.1 = some (ty0 k)) ∧ Cond.classLink own idx Cn ∈ Tw ∧ Cond.instantiable Cn N ∈ Tw ∧ Cond.initialized Cn ∈ Tw ∧ (∀ j, j < N → defaultValue (ty0 j) = vp_V fs j) ∧ ∀ b, fs.map (cv b) = fs
def CLb (y : MethodName) (b : ByteArray) (nL : Nat) (ret : Option FieldType) (n : Nat) : Prop := Cond.code y b nL ret ∈ lw_tbl ∧ Cond.initialized y.cls ∈ Tw ∧ y.cls ≠ "java/lang/invoke/MethodHandle" ∧ y.cls ≠ "java/lang/invoke/VarHandle" ∧ (parseMethodDescriptor y.desc).map (fun d => d.parameters.length) = some n
section RW
variable {p : Program} {l : Launch} {e : Env} {R : Room} {s : State} {m : MethodId} {args : Array Value} {below : List Frame} {meth : Method} {c : Code} {H : Heap} {locs : List Loc} {cells slots : Nat} {Q : State → Prop}
variable {cc : ByteArray} {nL : Nat} {own nam : String} {ret : Option FieldType} {base : Nat} {D : va_G} {cI cZ : ClassId} {h : Hp} {pc : Nat} {ls : Array Slot} {rest : List Value}
theorem r_getI (C : Cx base D cI cZ cc nL own nam ret p s m args meth c) (hS : RS base D cI cZ s H locs h) {idx ci k r : Nat} {x : Int32} (hf : FL own idx ci k) (hg : gI h ci r k = some x) (hdg : decode cc pc = .ok (.getfield idx, 3)) (kk : W p l e R s m args below meth c H locs cells slots Q (F0 m (pc + 3) ls (.int x :: rest))) : W p l e R s m args below meth c H locs cells slots Q (F0 m pc ls (.ref (base + r) :: rest)) := by
  obtain ⟨fs, h1, h2⟩ := gI_spec hg
  obtain ⟨Cn, T, N, hc, hk, hin, hl⟩ := hf
  obtain ⟨hx, hb, -, hown, hts, -, -, hK, -⟩ := C
  exact va_get (D := D) (cl := vwCl) (tys := tyL cI cZ) (ci := ci) hx hb hts hin hown hK.1 hS.1.1 r (wl_get h1) hc k hk (hts _ hl) (fun _ h9 => h9) (by show (fs.map (cv base))[k]? = _; rw [List.getElem?_map, h2]; rfl) hdg kk
theorem r_getR (C : Cx base D cI cZ cc nL own nam ret p s m args meth c) (hS : RS base D cI cZ s H locs h) {idx ci k r x : Nat} (hf : FL own idx ci k) (hg : gR h ci r k = some x) (hdg : decode cc pc = .ok (.getfield idx, 3)) (kk : W p l e R s m args below meth c H locs cells slots Q (F0 m (pc + 3) ls (.ref (base + x) :: rest))) : W p l e R s m args below meth c H locs cells slots Q (F0 m pc ls (.ref (base + r) :: rest)) := by
  obtain ⟨fs, h1, h2⟩ := gR_spec hg
  obtain ⟨Cn, T, N, hc, hk, hin, hl⟩ := hf
  obtain ⟨hx, hb, -, hown, hts, -, -, hK, -⟩ := C
  exact va_get (D := D) (cl := vwCl) (tys := tyL cI cZ) (ci := ci) hx hb hts hin hown hK.1 hS.1.1 r (wl_get h1) hc k hk (hts _ hl) (fun _ h9 => h9) (by show (fs.map (cv base))[k]? = _; rw [List.getElem?_map, h2]; rfl) hdg kk
theorem r_put0 (C : Cx base D cI cZ cc nL own nam ret p s m args meth c) (hS : RS base D cI cZ s H locs h) {idx ci k r : Nat} {v : Value} {ty : FieldType} {fs : List Value} (hf : FP own idx ci k ty false) (h1 : h[r]? = some (.inr (ci, fs))) (hl2 : k < fs.length) (hn : narrow ty (cv base v) = cv base v) (hfit : fits ty (cv base v) = true) (hdg : decode cc pc = .ok (.putfield idx, 3)) (kk : ∀ (H1 : Heap) (locs1 : List Loc), RS base D cI cZ s H1 locs1 (h.set r (.inr (ci, fs.set k v))) → W p l e R s m args below meth c H1 locs1 cells slots Q (F0 m (pc + 3) ls rest)) : W p l e R s m args below meth c H locs cells slots Q (F0 m pc ls (cv base v :: .ref (base + r) :: rest)) := by
  obtain ⟨Cn, T, N, ty0, hc, hk, hin, hl, hty, hnm, hfin, hd, -⟩ := hf
  obtain ⟨hx, hb, -, hown, hts, -, -, hK0, -⟩ := C
  have hK := hK0.1
  have he := wl_get (base := base) (cI := cI) (cZ := cZ) h1
  have hap := va_apart (own := own) hts hin ty0 hty hnm hK hc
  obtain ⟨r0, h10, cell, q1, q2, q3, q4⟩ := hS.1.1 r _ he
  have hr : r0 = (Cn, T, N) := Option.some.inj (h10.symm.trans hc)
  subst hr
  obtain ⟨hSl, hfc, kC, hkC, hkind⟩ := hK.1 ci _ hc
  obtain ⟨cf, kf, fi, f, hi, hsl⟩ := hSl k hk
  have hlay := hts _ (hin _ (u_in_lay hk))
  unfold u_lay at hlay
  rw [if_neg (by rw [hfin]; decide)] at hlay
  have hst := (u_facts hfc hkC (u_lays hts hin hk) hi).1
  have h6 := u_store hfc hkC hkind hlay hi hd hn hfit
  refine W.putK hx hb (f := f) ⟨hown, hts _ hl, ⟨_, _, _, hi⟩, hst⟩ (by rw [q2]; exact h6) q1 q3 (by rw [hsl]; exact k2_hasslot (q4 k hk)) rfl rfl hdg fun H' e1 e2 e3 => ?_
  rw [hsl] at e1 ⊢
  have hw : (wl base cI cZ h).set r (base + r, .inr (ci, (fs.map (cv base)).set k (cv base v))) = wl base cI cZ (h.set r (.inr (ci, fs.set k v))) := by
    rw [← wl_set]
    show _ = (wl base cI cZ h).set r (base + r, .inr (ci, (fs.set k v).map (cv base)))
    rw [List.map_set]
  refine kk H' _ ⟨⟨?_, ?_⟩, hS.2.put e2 e3 (Nat.le_add_right _ _)⟩
  · rw [← hw]
    exact hS.1.1.set wl_D he ⟨_, hc, t_OB.to (V := updV (vp_V (fs.map (cv base))) k (cv base v)) ⟨_, e1, q2, q3, t_set q4 hap hk (cv base v)⟩ (fun j _ => vp_updV_set (by rw [List.length_map]; exact hl2) (cv base v) j)⟩ e3
  · rw [e2, List.length_set]
    exact hS.1.2
theorem r_putI (C : Cx base D cI cZ cc nL own nam ret p s m args meth c) (hS : RS base D cI cZ s H locs h) {idx ci k r : Nat} {x : Int32} {h' : Hp} (hf : FP own idx ci k .int false) (hg : sI h ci r k x = some h') (hdg : decode cc pc = .ok (.putfield idx, 3)) (kk : ∀ (H1 : Heap) (locs1 : List Loc), RS base D cI cZ s H1 locs1 h' → W p l e R s m args below meth c H1 locs1 cells slots Q (F0 m (pc + 3) ls rest)) : W p l e R s m args below meth c H locs cells slots Q (F0 m pc ls (.int x :: .ref (base + r) :: rest)) := by
  obtain ⟨fs, h1, h2, rfl⟩ := sI_spec hg
  exact r_put0 (v := .int x) C hS hf h1 h2 rfl rfl hdg kk
theorem r_putZ (C : Cx base D cI cZ cc nL own nam ret p s m args meth c) (hS : RS base D cI cZ s H locs h) {idx ci k r : Nat} {x : Int32} {h' : Hp} (hf : FP own idx ci k .boolean false) (hg : sI h ci r k x = some h') (hn : narrow .boolean (.int x) = .int x) (hfit : fits .boolean (.int x) = true) (hdg : decode cc pc = .ok (.putfield idx, 3)) (kk : ∀ (H1 : Heap) (locs1 : List Loc), RS base D cI cZ s H1 locs1 h' → W p l e R s m args below meth c H1 locs1 cells slots Q (F0 m (pc + 3) ls rest)) : W p l e R s m args below meth c H locs cells slots Q (F0 m pc ls (.int x :: .ref (base + r) :: rest)) := by
  obtain ⟨fs, h1, h2, rfl⟩ := sI_spec hg
  exact r_put0 (v := .int x) C hS hf h1 h2 hn hfit hdg kk
theorem r_putR (C : Cx base D cI cZ cc nL own nam ret p s m args meth c) (hS : RS base D cI cZ s H locs h) {idx ci k r x : Nat} {ty : FieldType} {h' : Hp} (hf : FP own idx ci k ty false) (hg : sR h ci r k x = some h') (hn : narrow ty (.ref (base + x)) = .ref (base + x)) (hfit : fits ty (.ref (base + x)) = true) (hdg : decode cc pc = .ok (.putfield idx, 3)) (kk : ∀ (H1 : Heap) (locs1 : List Loc), RS base D cI cZ s H1 locs1 h' → W p l e R s m args below meth c H1 locs1 cells slots Q (F0 m (pc + 3) ls rest)) : W p l e R s m args below meth c H locs cells slots Q (F0 m pc ls (.ref (base + x) :: .ref (base + r) :: rest)) := by
  obtain ⟨fs, h1, h2, rfl⟩ := sR_spec hg
  exact r_put0 (v := .ref x) C hS hf h1 h2 hn hfit hdg kk
/-- a final field, in its class's constructor -/
theorem r_putF (C : Cx base D cI cZ cc nL own "<init>" ret p s m args meth c) (hS : RS base D cI cZ s H locs h) {idx ci k r x : Nat} {ty : FieldType} {h' : Hp} (hf : FP own idx ci k ty true) (hown2 : ∀ q, vwCl[ci]? = some q → q.1 = own) (hg : sR h ci r k x = some h') (hn : narrow ty (.ref (base + x)) = .ref (base + x)) (hfit : fits ty (.ref (base + x)) = true) (hdg : decode cc pc = .ok (.putfield idx, 3)) (kk : ∀ (H1 : Heap) (locs1 : List Loc), RS base D cI cZ s H1 locs1 h' → W p l e R s m args below meth c H1 locs1 cells slots Q (F0 m (pc + 3) ls rest)) : W p l e R s m args below meth c H locs cells slots Q (F0 m pc ls (.ref (base + x) :: .ref (base + r) :: rest)) := by
  obtain ⟨fs, h1, h2, rfl⟩ := sR_spec hg
  obtain ⟨Cn, T, N, ty0, hc, hk, hin, hl, hty, hnm, hfin, hd, hdecl⟩ := hf
  have hCn : Cn = own := hown2 _ hc
  obtain ⟨hx, hb, -, hown, hts, -, -, hK0, -, hin2⟩ := C
  have hK := hK0.1
  have he := wl_get (base := base) (cI := cI) (cZ := cZ) h1
  have hap := va_apart (own := own) hts hin ty0 hty hnm hK hc
  obtain ⟨r0, h10, cell, q1, q2, q3, q4⟩ := hS.1.1 r _ he
  have hr : r0 = (Cn, T, N) := Option.some.inj (h10.symm.trans hc)
  subst hr
  obtain ⟨hSl, hfc, kC, hkC, hkind⟩ := hK.1 ci _ hc
  obtain ⟨cf, kf, fi, f, hi, hsl⟩ := hSl k hk
  have hlay := hts _ (hin _ (u_in_lay hk))
  unfold u_lay at hlay
  rw [if_pos hfin] at hlay
  have hst := (u_facts hfc hkC (u_lays hts hin hk) hi).1
  have hcf : m.cls = cf := by
    obtain ⟨_, _, c', _, _, _, -, -, hf', -, -, -, hown3, -⟩ := Cond.laysFinal_spec hlay
    have e1 : c' = cf := by have := hi.symm.trans hf'; simp at this; exact this.1.symm
    rw [hdecl, hCn] at hown3
    rw [← e1]; exact Option.some.inj (hown.symm.trans hown3)
  have h6 := u_fits hfc hkC hkind (Or.inr hlay) hi hd hn hfit
  refine W.putFinK hx hb hown (hts _ hl) hi hst hcf hin2 (by rw [q2]; exact h6) q1 q3 (by rw [hsl]; exact k2_hasslot (q4 k hk)) rfl rfl hdg fun H' e1 e2 e3 => ?_
  rw [hsl] at e1 ⊢
  have hw : (wl base cI cZ h).set r (base + r, .inr (ci, (fs.map (cv base)).set k (cv base (.ref x)))) = wl base cI cZ (h.set r (.inr (ci, fs.set k (.ref x)))) := by
    rw [← wl_set]
    show _ = (wl base cI cZ h).set r (base + r, .inr (ci, (fs.set k (.ref x)).map (cv base)))
    rw [List.map_set]
  refine kk H' _ ⟨⟨?_, ?_⟩, hS.2.put e2 e3 (Nat.le_add_right _ _)⟩
  · rw [← hw]
    exact hS.1.1.set wl_D he ⟨_, hc, t_OB.to (V := updV (vp_V (fs.map (cv base))) k (cv base (.ref x))) ⟨_, e1, q2, q3, t_set q4 hap hk (cv base (.ref x))⟩ (fun j _ => vp_updV_set (by rw [List.length_map]; exact h2) (cv base (.ref x)) j)⟩ e3
  · rw [e2, List.length_set]
    exact hS.1.2
theorem r_iald (C : Cx base D cI cZ cc nL own nam ret p s m args meth c) (hS : RS base D cI cZ s H locs h) {a : Nat} {i x : Int32} (hg : gA h false a i = some x) (hdg : decode cc pc = .ok (.iaload, 1)) (kk : W p l e R s m args below meth c H locs cells slots Q (F0 m (pc + 1) ls (.int x :: rest))) : W p l e R s m args below meth c H locs cells slots Q (F0 m pc ls (.int i :: .ref (base + a) :: rest)) := by
  obtain ⟨n, f, h1, hin, rfl⟩ := gA_spec hg
  obtain ⟨hx, hb, -, hown, hts, -, -, hK, -⟩ := C
  exact va_iald (D := D) (cl := vwCl) (tys := tyL cI cZ) hx hb hK.1 hS.1.1 a 0 (wl_get h1) rfl hin hdg kk
theorem r_zald (C : Cx base D cI cZ cc nL own nam ret p s m args meth c) (hS : RS base D cI cZ s H locs h) {a : Nat} {i x : Int32} (hg : gA h true a i = some x) (hdg : decode cc pc = .ok (.baload, 1)) (kk : W p l e R s m args below meth c H locs cells slots Q (F0 m (pc + 1) ls (.int x :: rest))) : W p l e R s m args below meth c H locs cells slots Q (F0 m pc ls (.int i :: .ref (base + a) :: rest)) := by
  obtain ⟨n, f, h1, hin, rfl⟩ := gA_spec hg
  obtain ⟨hx, hb, -, hown, hts, -, -, hK, -⟩ := C
  exact va_zald (D := D) (cl := vwCl) (tys := tyL cI cZ) hx hb hK.1 hS.1.1 a 1 (wl_get h1) rfl hin hdg kk
theorem r_alen (C : Cx base D cI cZ cc nL own nam ret p s m args meth c) (hS : RS base D cI cZ s H locs h) {a : Nat} {x : Int32} (hg : lA h a = some x) (hdg : decode cc pc = .ok (.arraylength, 1)) (kk : W p l e R s m args below meth c H locs cells slots Q (F0 m (pc + 1) ls (.int x :: rest))) : W p l e R s m args below meth c H locs cells slots Q (F0 m pc ls (.ref (base + a) :: rest)) := by
  obtain ⟨z, n, f, h1, rfl⟩ := lA_spec hg
  obtain ⟨hx, hb, -, hown, hts, -, -, hK, -⟩ := C
  cases z with
  | false => exact va_alen (D := D) (cl := vwCl) (tys := tyL cI cZ) hx hb hK.1 hS.1.1 a 0 (wl_get h1) (ty := .int) rfl rfl hdg kk
  | true => exact va_alen (D := D) (cl := vwCl) (tys := tyL cI cZ) hx hb hK.1 hS.1.1 a 1 (wl_get h1) (ty := .boolean) rfl rfl hdg kk
theorem r_iast (C : Cx base D cI cZ cc nL own nam ret p s m args meth c) (hS : RS base D cI cZ s H locs h) {a : Nat} {i x : Int32} {h' : Hp} (hg : sA h a i x = some h') (hdg : decode cc pc = .ok (.iastore, 1)) (kk : ∀ (H1 : Heap) (locs1 : List Loc), RS base D cI cZ s H1 locs1 h' → W p l e R s m args below meth c H1 locs1 cells slots Q (F0 m (pc + 1) ls rest)) : W p l e R s m args below meth c H locs cells slots Q (F0 m pc ls (.int x :: .int i :: .ref (base + a) :: rest)) := by
  obtain ⟨n, f, h1, hin, rfl⟩ := sA_spec hg
  obtain ⟨hx, hb, -, hown, hts, -, -, hK0, -⟩ := C
  have hK := hK0.1
  have ha := wl_get (base := base) (cI := cI) (cZ := cZ) h1
  refine W.iast hx hb (hS.1.1 a _ ha) ((hK.2 0 (cI, .int) rfl).1 n (fun j => .int (f j))) (fun q => by cases q) (by show ¬ (i < 0 ∨ (arrV _ _ _).slots.size ≤ _); rw [arrV_size]; exact hin) rfl rfl hdg fun H1 e1 z oq => ?_
  refine kk H1 _ ⟨⟨?_, ?_⟩, hS.2.put z oq (Nat.le_add_right _ _)⟩
  · rw [← wl_set]
    refine hS.1.1.set wl_D ha ?_ oq
    show H1[base + a]? = some (vp_cell _ _)
    rw [e1]
    rw [vp_cell_i, vp_cell_i, arrV_store]
    congr 2
    funext q
    by_cases hq : q = i.toNatClampNeg
    · subst hq
      simp [updV, upd]
    · simp [updV, upd, hq]
  · rw [z, List.length_set]
    exact hS.1.2
theorem r_zast (C : Cx base D cI cZ cc nL own nam ret p s m args meth c) (hS : RS base D cI cZ s H locs h) {a : Nat} {i x : Int32} {h' : Hp} (hg : sZ h a i x = some h') (hdg : decode cc pc = .ok (.bastore, 1)) (kk : ∀ (H1 : Heap) (locs1 : List Loc), RS base D cI cZ s H1 locs1 h' → W p l e R s m args below meth c H1 locs1 cells slots Q (F0 m (pc + 1) ls rest)) : W p l e R s m args below meth c H locs cells slots Q (F0 m pc ls (.int x :: .int i :: .ref (base + a) :: rest)) := by
  obtain ⟨n, f, h1, hin, rfl⟩ := sZ_spec hg
  obtain ⟨hx, hb, -, hown, hts, -, -, hK0, -⟩ := C
  have hK := hK0.1
  have ha := wl_get (base := base) (cI := cI) (cZ := cZ) h1
  refine W.zast hx hb (hS.1.1 a _ ha) ((hK.2 1 (cZ, .boolean) rfl).1 n (fun j => .int (f j))) (fun q => by cases q) (by show ¬ (i < 0 ∨ (arrV _ _ _).slots.size ≤ _); rw [arrV_size]; exact hin) rfl rfl hdg fun H1 e1 z oq => ?_
  refine kk H1 _ ⟨⟨?_, ?_⟩, hS.2.put z oq (Nat.le_add_right _ _)⟩
  · rw [← wl_set]
    refine hS.1.1.set wl_D ha ?_ oq
    show H1[base + a]? = some (vp_cell _ _)
    rw [e1]
    rw [vp_cell_i, vp_cell_i, arrV_store]
    congr 2
    funext q
    by_cases hq : q = i.toNatClampNeg
    · subst hq
      simp [updV, upd, vp_nar]
      try rfl
    · simp [updV, upd, hq]
  · rw [z, List.length_set]
    exact hS.1.2
end RW
end
section
-- ===== nest words move with the tables =====
theorem lw_nest_ok : lw_nest.all isNst = true := List.all_eq_true.mpr (fun w h => (List.mem_filter.mp h).2)
theorem Nst_warm {w : Cond} (hw : w ∈ lw_nest) {s U : State} (hW : s.WarmedH U.vm) (h : va_Nw w s) : va_Nw w U := by
  have h1 := List.all_eq_true.mp lw_nest_ok w hw
  unfold isNst at h1
  split at h1
  · exact va_Nw.warmM hW h
  · cases h1
theorem Nst_same {w : Cond} (hw : w ∈ lw_nest) {s U : State} (hW : s.vm = U.vm) (h : va_Nw w s) : va_Nw w U := by
  have h1 := List.all_eq_true.mp lw_nest_ok w hw
  unfold isNst at h1
  split at h1
  · exact va_Nw.same rfl hW h
  · cases h1
theorem KS.warm {D : va_G} {cI cZ : ClassId} {s U : State} (hW : s.WarmedH U.vm) (h : KS D cI cZ s) : KS D cI cZ U := ⟨va_K.moved hW.alike h.1, fun w hw => Nst_warm hw hW (h.2 w hw)⟩
theorem PcW.blind {base : Nat} {D : va_G} {cI cZ : ClassId} {h : Hp} {av : List Value} : FrameBlind (PcW base D cI cZ h av) := fun a U g mk q => ⟨q.1, q.2.1, va_K.moved (u := U) (U := U.calling g mk a) (Vm.Alike.refl U.vm) q.2.2.1, fun w hw => Nst_same hw (s := U) (U := U.calling g mk a) rfl (q.2.2.2 w hw)⟩
-- bundles of a call's words
def CV (own : String) (idx ci : Nat) (y : MethodName) (b : ByteArray) (nL : Nat) (ret : Option FieldType) (n : Nat) : Prop := CLb y b nL ret n ∧ Cond.methodLink own idx y ∈ Tw ∧ Cond.instanceMethod y ∈ Tw ∧ Cond.selects y.cls y y ∈ Tw ∧ (vwCl[ci]?).map (fun q => q.1) = some y.cls
def CS (own : String) (idx : Nat) (y : MethodName) (b : ByteArray) (nL : Nat) (ret : Option FieldType) (n : Nat) : Prop := CLb y b nL ret n ∧ Cond.methodLink own idx y ∈ Tw ∧ Cond.static y ∈ Tw
def CI (own : String) (idx : Nat) (y : MethodName) (b : ByteArray) (nL : Nat) (n : Nat) : Prop := CLb y b nL none n ∧ Cond.methodLink own idx y ∈ Tw ∧ Cond.instanceMethod y ∈ Tw ∧ y.name = "<init>"
def CN (own : String) (idx : Nat) (y : MethodName) (b : ByteArray) (nL : Nat) (n : Nat) (host : String) : Prop := CLb y b nL none n ∧ Cond.methodLinkNest own idx y host ∈ lw_nest ∧ Cond.instanceMethod y ∈ Tw ∧ y.name = "<init>"
def OI (own : String) (idx : Nat) : Prop := Cond.methodLink own idx Lib.objectInit ∈ Tw ∧ Cond.instanceMethod Lib.objectInit ∈ Tw ∧ Cond.code Lib.objectInit ⟨#[0xb1]⟩ 1 none ∈ Tw
section RC
variable {p : Program} {l : Launch} {e : Env} {R : Room} {s : State} {m : MethodId} {args : Array Value} {below : List Frame} {meth : Method} {c : Code} {H : Heap} {locs : List Loc} {cells slots : Nat} {Q : State → Prop}
variable {cc : ByteArray} {nL : Nat} {own nam : String} {ret : Option FieldType} {base : Nat} {D : va_G} {cI cZ : ClassId} {h : Hp} {pc : Nat} {ls : Array Slot} {rest : List Value}
theorem r_cont {mc ms : Nat} {h' : Hp} {v : Option Value} {a : Array Value} {st0 : List Value} (hS : RS base D cI cZ s H locs h) (hr : va_Run p l e R s m args below meth c H locs cells slots mc ms (F0 m pc ls st0) rest (QcW base D cI cZ h' v a) (Ab base)) (kk : ∀ (H1 : Heap) (locs1 : List Loc), RS base D cI cZ s H1 locs1 h' → W p l e R s m args below meth c H1 locs1 (cells + mc) (slots + ms) Q (F0 m (pc + 3) ls (v.toList ++ rest))) : W p l e R s m args below meth c H locs cells slots Q (F0 m pc ls st0) := by
  intro T hT X
  obtain ⟨v', st₀, t, T', L, h0, X', hL, e1, e2, ⟨hv, hb, hz, hk⟩, st⟩ := hr T hT X
  cases hv
  rw [h0] at hz hk
  obtain ⟨t2, a1, b1⟩ := kk T'.heap (locs ++ L) ⟨by rw [e1]; exact hb, Nat.le_trans hS.2.1 (by rw [e1]; exact hz), fun q h1 h2 => by rw [e1, hk q (Nat.lt_of_lt_of_le h1 hS.2.1) h2]; exact hS.2.2.1 q h1 h2, fun q hq => by
      rcases List.mem_append.mp hq with h | h
      · exact hS.2.2.2 q h
      · exact hL q h⟩ T' rfl X'
  exact ⟨t2, st t2 a1, b1⟩
theorem r_CB (C : Cx base D cI cZ cc nL own nam ret p s m args meth c) {y : MethodName} {b : ByteArray} {maxL fr lo mc ms n idx : Nat} {ret' : Option FieldType} (hcl : CLb y b maxL ret' n) (hlk : Cond.methodLink own idx y ∈ Tw) (hR : fr + 1 ≤ R.frames ∧ 8 + (maxL + 11) + lo ≤ R.locals) : CallB R s args own idx y b maxL ret' (Cond.code y b maxL ret' :: Tw) ({ frames := fr, cells := mc, slots := ms, locals := lo } : Room) mc ms n :=
  callB_of n C.2.2.2.2.1 (Tw_code hcl.1) rfl rfl rfl (C.2.2.2.2.1 _ hcl.2.1) (C.2.2.2.2.1 _ hlk) hcl.2.2 hR
theorem r_callV (C : Cx base D cI cZ cc nL own nam ret p s m args meth c) (hS : RS base D cI cZ s H locs h) {y : MethodName} {b : ByteArray} {maxL fr lo mc ms n idx ci r : Nat} {ret' : Option FieldType} {As st0 : List Value} {h' : Hp} {v : Option Value} (hcl : CV own idx ci y b maxL ret' n) (hM : Ct l base D cI cZ y b maxL ret' fr lo mc ms h (.ref (base + r) :: As) h' v) (hO : isO h ci r = true) (hn : As.length = n) (hls : ls.size = nL) (hst : st0 = As.reverse ++ .ref (base + r) :: rest) (hrest : (rest.map fun v => v.category).sum ≤ 8) (hR : fr + 1 ≤ R.frames ∧ 8 + (maxL + 11) + lo ≤ R.locals) (hf : cells + mc ≤ R.cells ∧ slots + ms ≤ R.slots) (hdg : decode cc pc = .ok (.invokevirtual idx, 3))
    (kk : ∀ (H1 : Heap) (locs1 : List Loc), RS base D cI cZ s H1 locs1 h' → W p l e R s m args below meth c H1 locs1 (cells + mc) (slots + ms) Q (F0 m (pc + 3) ls (v.toList ++ rest))) : W p l e R s m args below meth c H locs cells slots Q (F0 m pc ls st0) := by
  obtain ⟨hcb, hlk, hin, hse, hci⟩ := hcl
  obtain ⟨fs, hfs⟩ := isO_spec hO
  have hts := C.2.2.2.2.1
  have hK := C.2.2.2.2.2.2.2.1
  cases hq : vwCl[ci]? with
  | none => rw [hq] at hci; cases hci
  | some q =>
    rw [hq] at hci
    have hqn : q.1 = y.cls := Option.some.inj hci
    have hrec := va_recv (q := q) hK.1 hS.1.1 hq (wl_get hfs)
    rw [hqn] at hrec
    exact r_cont hS (va_runV (Ts := Tw) (own := own) (C := y.cls) ⟨C.1, C.2.1, C.2.2.1, C.2.2.2.1, hts⟩ hM ⟨r_CB C hcb hlk hR, hts _ hin, hts _ hse⟩ ⟨PcW.blind, hrec, fun U hU hW => ⟨rfl, by rw [hU]; exact hS.1, hK.warm hW⟩⟩ rfl hn hls hst (lv_room hrest) hdg hf) kk
theorem r_callS (C : Cx base D cI cZ cc nL own nam ret p s m args meth c) (hS : RS base D cI cZ s H locs h) {y : MethodName} {b : ByteArray} {maxL fr lo mc ms n idx : Nat} {ret' : Option FieldType} {As st0 : List Value} {h' : Hp} {v : Option Value} (hcl : CS own idx y b maxL ret' n) (hM : Ct l base D cI cZ y b maxL ret' fr lo mc ms h As h' v) (hn : As.length = n) (hls : ls.size = nL) (hst : st0 = As.reverse ++ rest) (hrest : (rest.map fun v => v.category).sum ≤ 8) (hR : fr + 1 ≤ R.frames ∧ 8 + (maxL + 11) + lo ≤ R.locals) (hf : cells + mc ≤ R.cells ∧ slots + ms ≤ R.slots) (hdg : decode cc pc = .ok (.invokestatic idx, 3))
    (kk : ∀ (H1 : Heap) (locs1 : List Loc), RS base D cI cZ s H1 locs1 h' → W p l e R s m args below meth c H1 locs1 (cells + mc) (slots + ms) Q (F0 m (pc + 3) ls (v.toList ++ rest))) : W p l e R s m args below meth c H locs cells slots Q (F0 m pc ls st0) := by
  obtain ⟨hcb, hlk, hst2⟩ := hcl
  have hts := C.2.2.2.2.1
  have hK := C.2.2.2.2.2.2.2.1
  exact r_cont hS (va_runS (Ts := Tw) (own := own) ⟨C.1, C.2.1, C.2.2.1, C.2.2.2.1, hts⟩ hM ⟨r_CB C hcb hlk hR, hts _ hst2⟩ ⟨PcW.blind, fun U hU hW => ⟨rfl, by rw [hU]; exact hS.1, hK.warm hW⟩⟩ rfl hn hls hst (lv_room hrest) hdg hf) kk
theorem r_callN (C : Cx base D cI cZ cc nL own nam ret p s m args meth c) (hS : RS base D cI cZ s H locs h) {y : MethodName} {b : ByteArray} {maxL fr lo mc ms n idx r : Nat} {host : String} {As st0 : List Value} {h' : Hp} {v : Option Value} (hcl : CN own idx y b maxL n host) (hM : Ct l base D cI cZ y b maxL none fr lo mc ms h (.ref (base + r) :: As) h' v) (hn : As.length = n) (hls : ls.size = nL) (hst : st0 = As.reverse ++ .ref (base + r) :: rest) (hrest : (rest.map fun v => v.category).sum ≤ 8) (hR : fr + 1 ≤ R.frames ∧ 8 + (maxL + 11) + lo ≤ R.locals) (hf : cells + mc ≤ R.cells ∧ slots + ms ≤ R.slots) (hdg : decode cc pc = .ok (.invokespecial idx, 3))
    (kk : ∀ (H1 : Heap) (locs1 : List Loc), RS base D cI cZ s H1 locs1 h' → W p l e R s m args below meth c H1 locs1 (cells + mc) (slots + ms) Q (F0 m (pc + 3) ls (v.toList ++ rest))) : W p l e R s m args below meth c H locs cells slots Q (F0 m pc ls st0) := by
  obtain ⟨hcb, hlk, hin, hnm⟩ := hcl
  have hts := C.2.2.2.2.1
  have hK := C.2.2.2.2.2.2.2.1
  exact r_cont hS (va_runIN (Ts := Tw) (own := own) ⟨C.1, C.2.1, C.2.2.1, C.2.2.2.1, hts⟩ hM ⟨va_cnB n hts (Tw_code hcb.1) rfl rfl rfl (hK.2 _ hlk) (hts _ hcb.2.1) hcb.2.2 hR, hnm, hts _ hin⟩ ⟨PcW.blind, fun U hU hW => ⟨rfl, by rw [hU]; exact hS.1, hK.warm hW⟩⟩ rfl hn hls hst (lv_room hrest) hdg hf) kk
theorem r_callI (C : Cx base D cI cZ cc nL own nam ret p s m args meth c) (hS : RS base D cI cZ s H locs h) {y : MethodName} {b : ByteArray} {maxL fr lo mc ms n idx r : Nat} {As st0 : List Value} {h' : Hp} {v : Option Value} (hcl : CI own idx y b maxL n) (hM : Ct l base D cI cZ y b maxL none fr lo mc ms h (.ref (base + r) :: As) h' v) (hn : As.length = n) (hls : ls.size = nL) (hst : st0 = As.reverse ++ .ref (base + r) :: rest) (hrest : (rest.map fun v => v.category).sum ≤ 8) (hR : fr + 1 ≤ R.frames ∧ 8 + (maxL + 11) + lo ≤ R.locals) (hf : cells + mc ≤ R.cells ∧ slots + ms ≤ R.slots) (hdg : decode cc pc = .ok (.invokespecial idx, 3))
    (kk : ∀ (H1 : Heap) (locs1 : List Loc), RS base D cI cZ s H1 locs1 h' → W p l e R s m args below meth c H1 locs1 (cells + mc) (slots + ms) Q (F0 m (pc + 3) ls (v.toList ++ rest))) : W p l e R s m args below meth c H locs cells slots Q (F0 m pc ls st0) := by
  obtain ⟨hcb, hlk, hin, hnm⟩ := hcl
  have hts := C.2.2.2.2.1
  have hK := C.2.2.2.2.2.2.2.1
  exact r_cont hS (va_runI (Ts := Tw) (own := own) ⟨C.1, C.2.1, C.2.2.1, C.2.2.2.1, hts⟩ hM ⟨r_CB C hcb hlk hR, hnm, hts _ hin⟩ ⟨PcW.blind, fun U hU hW => ⟨rfl, by rw [hU]; exact hS.1, hK.warm hW⟩⟩ rfl hn hls hst (lv_room hrest) hdg hf) kk
theorem r_obj (C : Cx base D cI cZ cc nL own nam ret p s m args meth c) {idx r : Nat} (hoi : OI own idx) (hls : ls.size = nL) (hrest : (rest.map fun v => v.category).sum = 0) (hR : 1 ≤ R.frames ∧ 12 ≤ R.locals) (hdg : decode cc pc = .ok (.invokespecial idx, 3)) (kk : W p l e R s m args below meth c H locs cells slots Q (F0 m (pc + 3) ls rest)) : W p l e R s m args below meth c H locs cells slots Q (F0 m pc ls (.ref r :: rest)) := by
  have hts := C.2.2.2.2.1
  refine W.objInit C.1 C.2.1 C.2.2.2.1 (hts _ hoi.1) (hts _ hoi.2.1) (hts _ hoi.2.2) rfl (by rw [C.2.2.1]; exact hls) rfl hdg hR.1 ?_ kk
  show 2 * 0 + (rest.map fun v => v.category).sum + 12 ≤ R.locals
  rw [hrest]
  exact hR.2
theorem r_new (C : Cx base D cI cZ cc nL own nam ret p s m args meth c) (hS : RS base D cI cZ s H locs h) {idx ci N : Nat} {fs : List Value} (hw : NW own idx ci fs N) (hcells : cells + 1 ≤ R.cells) (hslots : slots + N ≤ R.slots) (hdg : decode cc pc = .ok (.new idx, 3))
    (kk : ∀ (H1 : Heap), RS base D cI cZ s H1 locs (h ++ [.inr (ci, fs)]) → W p l e R s m args below meth c H1 locs (cells + 1) (slots + N) Q (F0 m (pc + 3) ls (.ref (base + h.length) :: rest))) : W p l e R s m args below meth c H locs cells slots Q (F0 m pc ls rest) := by
  obtain ⟨Cn, T, ty0, hc, hin, hty, hcl, hinst, hini, hfs, hnr⟩ := hw
  obtain ⟨hx, hb, -, hown, hts, -, -, hK0, hbs, -⟩ := C
  have hKn := hK0.1.1 ci _ hc
  refine W.newcK hx hb hown (hts _ hcl) (hts _ hinst) (hts _ hini) rfl hdg hcells hslots hKn.2.1 hS.1.2 fun H1 kC hkC e1 z1 o1 => ?_
  have hk : ∀ (k : Nat) (x : Nat × va_E), (wl base cI cZ h)[k]? = some x → H1[x.1]? = H[x.1]? := fun k x hx => o1 x.1 (by rw [← hS.1.2]; exact (hS.1.1 k x hx).lt)
  refine kk H1 ⟨⟨?_, ?_⟩, ⟨Nat.le_trans hS.2.1 (by rw [z1, hS.1.2]; omega), fun x h1 h2 => (o1 x (by rw [← hS.1.2]; exact Nat.lt_of_lt_of_le h1 hS.2.1)).trans (hS.2.2.1 x h1 h2), hS.2.2.2⟩⟩
  · rw [wl_push]
    refine (hS.1.1.kept hk).app (fun k x hx => ?_)
    have hz : k < 1 := (List.getElem?_eq_some_iff.mp hx).1
    rw [show k = 0 by omega] at hx
    cases hx
    show ∃ r : vw_C, vwCl[ci]? = some r ∧ t_OB (base + h.length) (D.1 ci) r.2.2 (D.2 ci) H1 (vp_V (fs.map (cv base)))
    rw [hnr]
    exact ⟨_, hc, (u_born ty0 hts hin hKn hkC e1 hty).to hfs⟩
  · rw [z1]
    simp
    omega
theorem r_newI (C : Cx base D cI cZ cc nL own nam ret p s m args meth c) (hS : RS base D cI cZ s H locs h) {n : Int32} {N : Nat} (hac : Cond.arrayClass .int ∈ Tw) (hn : ¬ n < 0) (hN : n.toNatClampNeg = N) (hby : N * componentBytes .int ≤ 536870912) (hcells : cells + 1 ≤ R.cells) (hslots : slots + N ≤ R.slots) (hdg : decode cc pc = .ok (.newarray .int, 2))
    (kk : ∀ (H1 : Heap), RS base D cI cZ s H1 locs (h ++ [.inl (false, N, fun _ => 0)]) → W p l e R s m args below meth c H1 locs (cells + 1) (slots + N) Q (F0 m (pc + 2) ls (.ref (base + h.length) :: rest))) : W p l e R s m args below meth c H locs cells slots Q (F0 m pc ls (.int n :: rest)) := by
  obtain ⟨hx, hb, -, hown, hts, -, -, hK0, hbs, -⟩ := C
  refine va_newaK (atype := .int) hx hb (hts _ hac) rfl hdg rfl hn hN hby hcells hslots hS.1.2 fun H1 cA e1 z1 o1 hAr hNm => ?_
  have hcA : cA = cI := Option.some.inj (hNm.symm.trans (hK0.1.2 0 (cI, .int) rfl).2)
  have hk : ∀ (k : Nat) (x : Nat × va_E), (wl base cI cZ h)[k]? = some x → H1[x.1]? = H[x.1]? := fun k x hx => o1 x.1 (by rw [← hS.1.2]; exact (hS.1.1 k x hx).lt)
  refine kk H1 ⟨⟨?_, ?_⟩, ⟨Nat.le_trans hS.2.1 (by rw [z1, hS.1.2]; omega), fun x h1 h2 => (o1 x (by rw [← hS.1.2]; exact Nat.lt_of_lt_of_le h1 hS.2.1)).trans (hS.2.2.1 x h1 h2), hS.2.2.2⟩⟩
  · rw [wl_push]
    refine (hS.1.1.kept hk).app (fun k x hx => ?_)
    have hz : k < 1 := (List.getElem?_eq_some_iff.mp hx).1
    rw [show k = 0 by omega] at hx
    cases hx
    show H1[base + h.length]? = some (vp_cell cI (N, .inl (fun _ => 0)))
    rw [e1, hcA]
    rfl
  · rw [z1]
    simp
    omega
theorem r_newZ (C : Cx base D cI cZ cc nL own nam ret p s m args meth c) (hS : RS base D cI cZ s H locs h) {n : Int32} {N : Nat} (hac : Cond.arrayClass .boolean ∈ Tw) (hn : ¬ n < 0) (hN : n.toNatClampNeg = N) (hby : N * componentBytes .boolean ≤ 536870912) (hcells : cells + 1 ≤ R.cells) (hslots : slots + N ≤ R.slots) (hdg : decode cc pc = .ok (.newarray .boolean, 2))
    (kk : ∀ (H1 : Heap), RS base D cI cZ s H1 locs (h ++ [.inl (true, N, fun _ => 0)]) → W p l e R s m args below meth c H1 locs (cells + 1) (slots + N) Q (F0 m (pc + 2) ls (.ref (base + h.length) :: rest))) : W p l e R s m args below meth c H locs cells slots Q (F0 m pc ls (.int n :: rest)) := by
  obtain ⟨hx, hb, -, hown, hts, -, -, hK0, hbs, -⟩ := C
  refine va_newaK (atype := .boolean) hx hb (hts _ hac) rfl hdg rfl hn hN hby hcells hslots hS.1.2 fun H1 cA e1 z1 o1 hAr hNm => ?_
  have hcA : cA = cZ := Option.some.inj (hNm.symm.trans (hK0.1.2 1 (cZ, .boolean) rfl).2)
  have hk : ∀ (k : Nat) (x : Nat × va_E), (wl base cI cZ h)[k]? = some x → H1[x.1]? = H[x.1]? := fun k x hx => o1 x.1 (by rw [← hS.1.2]; exact (hS.1.1 k x hx).lt)
  refine kk H1 ⟨⟨?_, ?_⟩, ⟨Nat.le_trans hS.2.1 (by rw [z1, hS.1.2]; omega), fun x h1 h2 => (o1 x (by rw [← hS.1.2]; exact Nat.lt_of_lt_of_le h1 hS.2.1)).trans (hS.2.2.1 x h1 h2), hS.2.2.2⟩⟩
  · rw [wl_push]
    refine (hS.1.1.kept hk).app (fun k x hx => ?_)
    have hz : k < 1 := (List.getElem?_eq_some_iff.mp hx).1
    rw [show k = 0 by omega] at hx
    cases hx
    show H1[base + h.length]? = some (vp_cell cZ (N, .inl (fun _ => 0)))
    rw [e1, hcA]
    rfl
  · rw [z1]
    simp
    omega
-- ===== ends =====
theorem r_iret (C : Cx base D cI cZ cc nL own nam (some .int) p s m args meth c) (hS : RS base D cI cZ s H locs h) {v : Int32} (hdg : decode cc pc = .ok (.ireturn, 1)) : W p l e R s m args below meth c H locs cells slots (MQ below (QcW base D cI cZ h (some (.int v))) args s cells slots (Ab base)) (F0 m pc ls [.int v]) :=
  W.iret C.1 C.2.1 C.2.2.2.2.2.1 (fun t ht hW => ⟨rfl, by rw [ht]; exact hS.1, hS.2.F ht⟩) hS.2.2.2 hdg C.2.2.2.2.2.2.1
theorem r_zret (C : Cx base D cI cZ cc nL own nam (some .boolean) p s m args meth c) (hS : RS base D cI cZ s H locs h) {v z : Int32} (hz : rz v = some z) (hdg : decode cc pc = .ok (.ireturn, 1)) : W p l e R s m args below meth c H locs cells slots (MQ below (QcW base D cI cZ h (some (.int z))) args s cells slots (Ab base)) (F0 m pc ls [.int v]) := by
  obtain ⟨rfl, hn⟩ := rz_spec hz
  exact W.zret C.1 C.2.1 C.2.2.2.2.2.1 hn (fun t ht hW => ⟨rfl, by rw [ht]; exact hS.1, hS.2.F ht⟩) hS.2.2.2 hdg C.2.2.2.2.2.2.1
theorem r_lret (C : Cx base D cI cZ cc nL own nam (some .long) p s m args meth c) (hS : RS base D cI cZ s H locs h) {v : Int64} (hdg : decode cc pc = .ok (.lreturn, 1)) : W p l e R s m args below meth c H locs cells slots (MQ below (QcW base D cI cZ h (some (.long v))) args s cells slots (Ab base)) (F0 m pc ls [.long v]) :=
  W.lret C.1 C.2.1 C.2.2.2.2.2.1 (fun t ht hW => ⟨rfl, by rw [ht]; exact hS.1, hS.2.F ht⟩) hS.2.2.2 hdg C.2.2.2.2.2.2.1
theorem r_aret {rt : String} (C : Cx base D cI cZ cc nL own nam (some (.object rt)) p s m args meth c) (hS : RS base D cI cZ s H locs h) {v : Nat} (hdg : decode cc pc = .ok (.areturn, 1)) : W p l e R s m args below meth c H locs cells slots (MQ below (QcW base D cI cZ h (some (.ref (base + v)))) args s cells slots (Ab base)) (F0 m pc ls [.ref (base + v)]) :=
  W.aret C.1 C.2.1 C.2.2.2.2.2.1 (Or.inl ⟨_, rfl⟩) (Or.inr ⟨_, rfl⟩) (fun t ht hW => ⟨rfl, by rw [ht]; exact hS.1, hS.2.F ht⟩) hS.2.2.2 hdg C.2.2.2.2.2.2.1
theorem r_vret (C : Cx base D cI cZ cc nL own nam none p s m args meth c) (hS : RS base D cI cZ s H locs h) (hdg : decode cc pc = .ok (.return_, 1)) : W p l e R s m args below meth c H locs cells slots (MQ below (QcW base D cI cZ h none) args s cells slots (Ab base)) (F0 m pc ls []) :=
  W.vret C.1 C.2.1 C.2.2.2.2.2.1 (fun t ht hW => ⟨rfl, by rw [ht]; exact hS.1, hS.2.F ht⟩) hS.2.2.2 hdg C.2.2.2.2.2.2.1
end RC
/-- a contract out of the walk of the body -/
theorem ct_of {l : Launch} {base : Nat} {D : va_G} {cI cZ : ClassId} {y : MethodName} {b : ByteArray} {nL : Nat} {ret : Option FieldType} {fr lo mc ms : Nat} {h : Hp} {av : List Value} {h' : Hp} {v : Option Value} (hy : plainName y.cls = true) (hav : (lg_sl av).length ≤ nL)
    (body : ∀ (p : Program) (e : Env) (s : State) (m : MethodId) (below : List Frame) (meth : Method) (c : Code) (ls : Array Slot), Cx base D cI cZ b nL y.cls y.name ret p s m av.toArray meth c → RS base D cI cZ s s.heap [] h → lv_has ls nL (lv_args 0 av) →
      W p l e ({ frames := fr, cells := mc, slots := ms, locals := lo } : Room) s m av.toArray below meth c s.heap [] 0 0 (MQ below (QcW base D cI cZ h' v) av.toArray s mc ms (Ab base)) (F0 m 0 ls [])) : Ct l base D cI cZ y b nL ret fr lo mc ms h av h' v := by
  refine Met.ofW (cc := b) (maxL := nL) (ret := ret) hy rfl ?_
  intro p e s m args below meth c s₁ B hml hv
  obtain ⟨rfl, hRep, hK⟩ := hv
  have hts0 := atoms_spec (ws := Cond.code y b nL ret :: Tw) B.pre
  rw [lg_entry_eq]
  exact body p e s m below meth c _ ⟨B.exec, B.bytes, hml, findClass_of_methodNamed B.named, fun w hw => hts0 w (List.mem_cons_of_mem _ hw), B.returns, B.notSynchronized, hK, by rw [hRep.2]; exact Nat.le_add_right _ _, (name_of_methodNamed B.named B.method).1⟩ ⟨hRep, va_S.rf⟩ (lv_entry av hav)
-- ===== rows of the printed walks =====
theorem oi_1 : Int32.ofInt 1 = (1 : Int32) := by first | rfl | decide
theorem oi_5 : Int32.ofInt 5 = (5 : Int32) := by first | rfl | decide
theorem oi_m1 : Int32.ofInt (-1) = (-1 : Int32) := by first | rfl | decide
abbrev Wg (l : Launch) (base : Nat) (D : va_G) (cI cZ : ClassId) (fr lo mc ms : Nat) (h' : Hp) (v : Option Value) (p : Program) (e : Env) (s : State) (m : MethodId) (args : Array Value) (below : List Frame) (meth : Method) (c : Code) (H : Heap) (locs : List Loc) (cells slots : Nat) (g : JFrame) : Prop :=
  W p l e ({ frames := fr, cells := mc, slots := ms, locals := lo } : Room) s m args below meth c H locs cells slots (MQ below (QcW base D cI cZ h' v) args s mc ms (Ab base)) g
section RD
variable {p : Program} {l : Launch} {e : Env} {R : Room} {s : State} {m : MethodId} {args : Array Value} {below : List Frame} {meth : Method} {c : Code} {H : Heap} {locs : List Loc} {cells slots : Nat} {Q : State → Prop}
variable {cc : ByteArray} {nL : Nat} {own nam : String} {ret : Option FieldType} {base : Nat} {D : va_G} {cI cZ : ClassId} {h : Hp} {pc : Nat} {ls : Array Slot} {rest : List Value}
theorem r_irem (hx : p.tables.exec = Jvm.exec) (hb : c.code = cc) {x y : Int32} (hdg : decode cc pc = .ok (.irem, 1)) (hne : ¬ y = 0) (k : W p l e R s m args below meth c H locs cells slots Q (F0 m (pc + 1) ls (.int (irem x y) :: rest))) : W p l e R s m args below meth c H locs cells slots Q (F0 m pc ls (.int y :: .int x :: rest)) := lv_irem hx hb hdg hne k
theorem r_idivS (hx : p.tables.exec = Jvm.exec) (hb : c.code = cc) {x y z : Int32} (hdg : decode cc pc = .ok (.idiv, 1)) (hz : idv x y = some z) (k : W p l e R s m args below meth c H locs cells slots Q (F0 m (pc + 1) ls (.int z :: rest))) : W p l e R s m args below meth c H locs cells slots Q (F0 m pc ls (.int y :: .int x :: rest)) := by
  obtain ⟨h1, rfl⟩ := idv_spec hz
  exact lv_idiv hx hb hdg h1 k
theorem r_iremS (hx : p.tables.exec = Jvm.exec) (hb : c.code = cc) {x y z : Int32} (hdg : decode cc pc = .ok (.irem, 1)) (hz : irm x y = some z) (k : W p l e R s m args below meth c H locs cells slots Q (F0 m (pc + 1) ls (.int z :: rest))) : W p l e R s m args below meth c H locs cells slots Q (F0 m pc ls (.int y :: .int x :: rest)) := by
  obtain ⟨h1, rfl⟩ := irm_spec hz
  exact lv_irem hx hb hdg h1 k
/-- a tableswitch's default: out of its rows, or at a row that leads there too -/
theorem r_tabD (hx : p.tables.exec = Jvm.exec) (hb : c.code = cc) {dflt lo hi : Int} {offs : Array Int} {len : Nat} {x : Int32} {tgt : Nat} (hdg : decode cc pc = .ok (.tableswitch dflt lo hi offs, len)) (keys : List Int) (hk : ∀ k ∈ keys, ¬ x.toInt = k) (hall : ∀ j : Nat, j < (hi - lo + 1).toNat → offs[j]? = some dflt ∨ (lo + (j : Int)) ∈ keys) (ht : (pc : Int) + dflt = (tgt : Int)) (k : W p l e R s m args below meth c H locs cells slots Q (F0 m tgt ls rest)) : W p l e R s m args below meth c H locs cells slots Q (F0 m pc ls (.int x :: rest)) := by
  by_cases h0 : x.toInt < lo ∨ hi < x.toInt
  · exact lv_tableOut hx hb hdg h0 ht k
  · have h1 : ¬ x.toInt < lo := fun q => h0 (Or.inl q)
    have h2 : ¬ hi < x.toInt := fun q => h0 (Or.inr q)
    rcases hall (x.toInt - lo).toNat (by omega) with q | q
    · exact lv_tableIn hx hb hdg h1 h2 q ht k
    · exact absurd (by omega) (hk _ q)
theorem r_callVi (C : Cx base D cI cZ cc nL own nam ret p s m args meth c) (hS : RS base D cI cZ s H locs h) {y : MethodName} {b : ByteArray} {maxL fr lo n idx ci r : Nat} {ret' : Option FieldType} {As st0 : List Value} {h' : Hp} {x : Int32} (hcl : CV own idx ci y b maxL ret' n) (hM : Ct l base D cI cZ y b maxL ret' fr lo 0 0 h (.ref (base + r) :: As) h' (some (.int x))) (hO : isO h ci r = true) (hn : As.length = n) (hls : ls.size = nL) (hst : st0 = As.reverse ++ .ref (base + r) :: rest) (hrest : (rest.map fun v => v.category).sum ≤ 8) (hR : fr + 1 ≤ R.frames ∧ 8 + (maxL + 11) + lo ≤ R.locals) (hf : cells + 0 ≤ R.cells ∧ slots + 0 ≤ R.slots) (hdg : decode cc pc = .ok (.invokevirtual idx, 3))
    (kk : ∀ (H1 : Heap) (locs1 : List Loc), RS base D cI cZ s H1 locs1 h' → W p l e R s m args below meth c H1 locs1 cells slots Q (F0 m (pc + 3) ls (.int x :: rest))) : W p l e R s m args below meth c H locs cells slots Q (F0 m pc ls st0) := r_callV C hS hcl hM hO hn hls hst hrest hR hf hdg kk
theorem r_callVl (C : Cx base D cI cZ cc nL own nam ret p s m args meth c) (hS : RS base D cI cZ s H locs h) {y : MethodName} {b : ByteArray} {maxL fr lo n idx ci r : Nat} {ret' : Option FieldType} {As st0 : List Value} {h' : Hp} {x : Int64} (hcl : CV own idx ci y b maxL ret' n) (hM : Ct l base D cI cZ y b maxL ret' fr lo 0 0 h (.ref (base + r) :: As) h' (some (.long x))) (hO : isO h ci r = true) (hn : As.length = n) (hls : ls.size = nL) (hst : st0 = As.reverse ++ .ref (base + r) :: rest) (hrest : (rest.map fun v => v.category).sum ≤ 8) (hR : fr + 1 ≤ R.frames ∧ 8 + (maxL + 11) + lo ≤ R.locals) (hf : cells + 0 ≤ R.cells ∧ slots + 0 ≤ R.slots) (hdg : decode cc pc = .ok (.invokevirtual idx, 3))
    (kk : ∀ (H1 : Heap) (locs1 : List Loc), RS base D cI cZ s H1 locs1 h' → W p l e R s m args below meth c H1 locs1 cells slots Q (F0 m (pc + 3) ls (.long x :: rest))) : W p l e R s m args below meth c H locs cells slots Q (F0 m pc ls st0) := r_callV C hS hcl hM hO hn hls hst hrest hR hf hdg kk
theorem r_callVr (C : Cx base D cI cZ cc nL own nam ret p s m args meth c) (hS : RS base D cI cZ s H locs h) {y : MethodName} {b : ByteArray} {maxL fr lo n idx ci r : Nat} {ret' : Option FieldType} {As st0 : List Value} {h' : Hp} {x : Nat} (hcl : CV own idx ci y b maxL ret' n) (hM : Ct l base D cI cZ y b maxL ret' fr lo 0 0 h (.ref (base + r) :: As) h' (some (.ref (base + x)))) (hO : isO h ci r = true) (hn : As.length = n) (hls : ls.size = nL) (hst : st0 = As.reverse ++ .ref (base + r) :: rest) (hrest : (rest.map fun v => v.category).sum ≤ 8) (hR : fr + 1 ≤ R.frames ∧ 8 + (maxL + 11) + lo ≤ R.locals) (hf : cells + 0 ≤ R.cells ∧ slots + 0 ≤ R.slots) (hdg : decode cc pc = .ok (.invokevirtual idx, 3))
    (kk : ∀ (H1 : Heap) (locs1 : List Loc), RS base D cI cZ s H1 locs1 h' → W p l e R s m args below meth c H1 locs1 cells slots Q (F0 m (pc + 3) ls (.ref (base + x) :: rest))) : W p l e R s m args below meth c H locs cells slots Q (F0 m pc ls st0) := r_callV C hS hcl hM hO hn hls hst hrest hR hf hdg kk
theorem r_callVv (C : Cx base D cI cZ cc nL own nam ret p s m args meth c) (hS : RS base D cI cZ s H locs h) {y : MethodName} {b : ByteArray} {maxL fr lo n idx ci r : Nat} {ret' : Option FieldType} {As st0 : List Value} {h' : Hp} (hcl : CV own idx ci y b maxL ret' n) (hM : Ct l base D cI cZ y b maxL ret' fr lo 0 0 h (.ref (base + r) :: As) h' none) (hO : isO h ci r = true) (hn : As.length = n) (hls : ls.size = nL) (hst : st0 = As.reverse ++ .ref (base + r) :: rest) (hrest : (rest.map fun v => v.category).sum ≤ 8) (hR : fr + 1 ≤ R.frames ∧ 8 + (maxL + 11) + lo ≤ R.locals) (hf : cells + 0 ≤ R.cells ∧ slots + 0 ≤ R.slots) (hdg : decode cc pc = .ok (.invokevirtual idx, 3))
    (kk : ∀ (H1 : Heap) (locs1 : List Loc), RS base D cI cZ s H1 locs1 h' → W p l e R s m args below meth c H1 locs1 cells slots Q (F0 m (pc + 3) ls rest)) : W p l e R s m args below meth c H locs cells slots Q (F0 m pc ls st0) := r_callV C hS hcl hM hO hn hls hst hrest hR hf hdg kk
theorem r_callSi (C : Cx base D cI cZ cc nL own nam ret p s m args meth c) (hS : RS base D cI cZ s H locs h) {y : MethodName} {b : ByteArray} {maxL fr lo n idx : Nat} {ret' : Option FieldType} {As st0 : List Value} {h' : Hp} {x : Int32} (hcl : CS own idx y b maxL ret' n) (hM : Ct l base D cI cZ y b maxL ret' fr lo 0 0 h As h' (some (.int x))) (hn : As.length = n) (hls : ls.size = nL) (hst : st0 = As.reverse ++ rest) (hrest : (rest.map fun v => v.category).sum ≤ 8) (hR : fr + 1 ≤ R.frames ∧ 8 + (maxL + 11) + lo ≤ R.locals) (hf : cells + 0 ≤ R.cells ∧ slots + 0 ≤ R.slots) (hdg : decode cc pc = .ok (.invokestatic idx, 3))
    (kk : ∀ (H1 : Heap) (locs1 : List Loc), RS base D cI cZ s H1 locs1 h' → W p l e R s m args below meth c H1 locs1 cells slots Q (F0 m (pc + 3) ls (.int x :: rest))) : W p l e R s m args below meth c H locs cells slots Q (F0 m pc ls st0) := r_callS C hS hcl hM hn hls hst hrest hR hf hdg kk
theorem r_callSl (C : Cx base D cI cZ cc nL own nam ret p s m args meth c) (hS : RS base D cI cZ s H locs h) {y : MethodName} {b : ByteArray} {maxL fr lo n idx : Nat} {ret' : Option FieldType} {As st0 : List Value} {h' : Hp} {x : Int64} (hcl : CS own idx y b maxL ret' n) (hM : Ct l base D cI cZ y b maxL ret' fr lo 0 0 h As h' (some (.long x))) (hn : As.length = n) (hls : ls.size = nL) (hst : st0 = As.reverse ++ rest) (hrest : (rest.map fun v => v.category).sum ≤ 8) (hR : fr + 1 ≤ R.frames ∧ 8 + (maxL + 11) + lo ≤ R.locals) (hf : cells + 0 ≤ R.cells ∧ slots + 0 ≤ R.slots) (hdg : decode cc pc = .ok (.invokestatic idx, 3))
    (kk : ∀ (H1 : Heap) (locs1 : List Loc), RS base D cI cZ s H1 locs1 h' → W p l e R s m args below meth c H1 locs1 cells slots Q (F0 m (pc + 3) ls (.long x :: rest))) : W p l e R s m args below meth c H locs cells slots Q (F0 m pc ls st0) := r_callS C hS hcl hM hn hls hst hrest hR hf hdg kk
theorem r_callSv (C : Cx base D cI cZ cc nL own nam ret p s m args meth c) (hS : RS base D cI cZ s H locs h) {y : MethodName} {b : ByteArray} {maxL fr lo n idx : Nat} {ret' : Option FieldType} {As st0 : List Value} {h' : Hp} (hcl : CS own idx y b maxL ret' n) (hM : Ct l base D cI cZ y b maxL ret' fr lo 0 0 h As h' none) (hn : As.length = n) (hls : ls.size = nL) (hst : st0 = As.reverse ++ rest) (hrest : (rest.map fun v => v.category).sum ≤ 8) (hR : fr + 1 ≤ R.frames ∧ 8 + (maxL + 11) + lo ≤ R.locals) (hf : cells + 0 ≤ R.cells ∧ slots + 0 ≤ R.slots) (hdg : decode cc pc = .ok (.invokestatic idx, 3))
    (kk : ∀ (H1 : Heap) (locs1 : List Loc), RS base D cI cZ s H1 locs1 h' → W p l e R s m args below meth c H1 locs1 cells slots Q (F0 m (pc + 3) ls rest)) : W p l e R s m args below meth c H locs cells slots Q (F0 m pc ls st0) := r_callS C hS hcl hM hn hls hst hrest hR hf hdg kk
end RD
end
section
-- words of fields, calls, constants, by their places
theorem wt_Held : ∀ w ∈ u_ws R_Held T_Held 4, w ∈ Tw := fun w hw => Tw_in (wi_Held w hw) (List.all_eq_true.mp (show (u_ws R_Held T_Held 4).all goodWord = true by decide +kernel) w hw)
theorem wt_Loops : ∀ w ∈ u_ws R_Loops T_Loops 2, w ∈ Tw := fun w hw => Tw_in (wi_Loops w hw) (List.all_eq_true.mp (show (u_ws R_Loops T_Loops 2).all goodWord = true by decide +kernel) w hw)
theorem wt_Merge : ∀ w ∈ u_ws R_Merge T_Merge 9, w ∈ Tw := fun w hw => Tw_in (wi_Merge w hw) (List.all_eq_true.mp (show (u_ws R_Merge T_Merge 9).all goodWord = true by decide +kernel) w hw)
theorem wt_Moves : ∀ w ∈ u_ws R_Moves T_Moves 4, w ∈ Tw := fun w hw => Tw_in (wi_Moves w hw) (List.all_eq_true.mp (show (u_ws R_Moves T_Moves 4).all goodWord = true by decide +kernel) w hw)
theorem wt_Pad : ∀ w ∈ u_ws R_Pad T_Pad 2, w ∈ Tw := fun w hw => Tw_in (wi_Pad w hw) (List.all_eq_true.mp (show (u_ws R_Pad T_Pad 2).all goodWord = true by decide +kernel) w hw)
theorem wt_Pairs : ∀ w ∈ u_ws R_Pairs T_Pairs 4, w ∈ Tw := fun w hw => Tw_in (wi_Pairs w hw) (List.all_eq_true.mp (show (u_ws R_Pairs T_Pairs 4).all goodWord = true by decide +kernel) w hw)
theorem wt_Side : ∀ w ∈ u_ws R_Side T_Side 2, w ∈ Tw := fun w hw => Tw_in (wi_Side w hw) (List.all_eq_true.mp (show (u_ws R_Side T_Side 2).all goodWord = true by decide +kernel) w hw)
theorem wt_Tree : ∀ w ∈ u_ws R_Tree T_Tree 3, w ∈ Tw := fun w hw => Tw_in (wi_Tree w hw) (List.all_eq_true.mp (show (u_ws R_Tree T_Tree 3).all goodWord = true by decide +kernel) w hw)
theorem wt_MF : ∀ w ∈ u_ws R_MF T_MF 10, w ∈ Tw := fun w hw => Tw_in (wi_MF w hw) (List.all_eq_true.mp (show (u_ws R_MF T_MF 10).all goodWord = true by decide +kernel) w hw)
theorem wt_Mo : ∀ w ∈ u_ws R_Mo T_Mo 27, w ∈ Tw := fun w hw => Tw_in (wi_Mo w hw) (List.all_eq_true.mp (show (u_ws R_Mo T_Mo 27).all goodWord = true by decide +kernel) w hw)
set_option maxRecDepth 100000 in
theorem oi_Tree_3 : OI "MovedFolders$Tree" 3 := ⟨(Tw_in (List.mem_of_getElem? (i := 118) (by decide +kernel)) rfl), (Tw_in (List.mem_of_getElem? (i := 91) (by decide +kernel)) rfl), (Tw_in (List.mem_of_getElem? (i := 92) rfl) rfl)⟩
theorem ac_int : Cond.arrayClass .int ∈ Tw := (Tw_in (List.mem_of_getElem? (i := 106) (by decide +kernel)) rfl)
theorem fp_Tree_9 : FP "MovedFolders$Tree" 9 7 0 (.array .int) true := ⟨R_Tree, T_Tree, 3, ty_Tree, rfl, by decide, wt_Tree, (Tw_in (List.mem_of_getElem? (i := 119) (by decide +kernel)) rfl), ty_Tree_ok, nm_Tree, rfl, by decide +kernel, rfl⟩
theorem fp_Tree_15 : FP "MovedFolders$Tree" 15 7 1 (.array .int) true := ⟨R_Tree, T_Tree, 3, ty_Tree, rfl, by decide, wt_Tree, (Tw_in (List.mem_of_getElem? (i := 120) (by decide +kernel)) rfl), ty_Tree_ok, nm_Tree, rfl, by decide +kernel, rfl⟩
theorem fp_Tree_18 : FP "MovedFolders$Tree" 18 7 2 .int false := ⟨R_Tree, T_Tree, 3, ty_Tree, rfl, by decide, wt_Tree, (Tw_in (List.mem_of_getElem? (i := 121) (by decide +kernel)) rfl), ty_Tree_ok, nm_Tree, rfl, by decide +kernel, rfl⟩
set_option maxRecDepth 100000 in
theorem oi_Held_3 : OI "MovedFolders$Held" 3 := ⟨(Tw_in (List.mem_of_getElem? (i := 112) (by decide +kernel)) rfl), (Tw_in (List.mem_of_getElem? (i := 91) (by decide +kernel)) rfl), (Tw_in (List.mem_of_getElem? (i := 92) rfl) rfl)⟩
theorem nw_Held_9 : NW "MovedFolders$Held" 9 7 [.null, .null, .int 0] 3 := ⟨R_Tree, T_Tree, ty_Tree, rfl, wt_Tree, ty_Tree_ok, (Tw_in (List.mem_of_getElem? (i := 113) (by decide +kernel)) rfl), (Tw_in (List.mem_of_getElem? (i := 114) (by decide +kernel)) rfl), (Tw_in (List.mem_of_getElem? (i := 74) (by decide +kernel)) rfl), by decide +kernel, fun _ => rfl⟩
set_option maxRecDepth 100000 in
theorem cb_Tree_init : CLb y_Tree_init b_Tree_init 1 none 0 := ⟨(List.mem_of_getElem? (i := 117) rfl), (Tw_in (List.mem_of_getElem? (i := 74) (by decide +kernel)) rfl), by decide, by decide, by decide +kernel⟩
theorem cn_Held_11 : CN "MovedFolders$Held" 11 y_Tree_init b_Tree_init 1 0 "MovedFolders" := ⟨cb_Tree_init, List.mem_filter.mpr ⟨(List.mem_of_getElem? (i := 115) (by decide +kernel)), rfl⟩, (Tw_in (List.mem_of_getElem? (i := 116) (by decide +kernel)) rfl), rfl⟩
theorem fp_Held_12 : FP "MovedFolders$Held" 12 0 0 (.object "MovedFolders$Tree") true := ⟨R_Held, T_Held, 4, ty_Held, rfl, by decide, wt_Held, (Tw_in (List.mem_of_getElem? (i := 129) (by decide +kernel)) rfl), ty_Held_ok, nm_Held, rfl, by decide +kernel, rfl⟩
theorem fp_Held_18 : FP "MovedFolders$Held" 18 0 1 (.object "MovedFolders$Tree") false := ⟨R_Held, T_Held, 4, ty_Held, rfl, by decide, wt_Held, (Tw_in (List.mem_of_getElem? (i := 132) (by decide +kernel)) rfl), ty_Held_ok, nm_Held, rfl, by decide +kernel, rfl⟩
theorem fp_Held_21 : FP "MovedFolders$Held" 21 0 2 (.object "MovedFolders$Tree") false := ⟨R_Held, T_Held, 4, ty_Held, rfl, by decide, wt_Held, (Tw_in (List.mem_of_getElem? (i := 135) (by decide +kernel)) rfl), ty_Held_ok, nm_Held, rfl, by decide +kernel, rfl⟩
theorem fp_Held_24 : FP "MovedFolders$Held" 24 0 3 .int false := ⟨R_Held, T_Held, 4, ty_Held, rfl, by decide, wt_Held, (Tw_in (List.mem_of_getElem? (i := 138) (by decide +kernel)) rfl), ty_Held_ok, nm_Held, rfl, by decide +kernel, rfl⟩
theorem fl_Tree_18 : FL "MovedFolders$Tree" 18 7 2 := ⟨R_Tree, T_Tree, 3, rfl, by decide, wt_Tree, (Tw_in (List.mem_of_getElem? (i := 121) (by decide +kernel)) rfl)⟩
theorem fl_Tree_9 : FL "MovedFolders$Tree" 9 7 0 := ⟨R_Tree, T_Tree, 3, rfl, by decide, wt_Tree, (Tw_in (List.mem_of_getElem? (i := 119) (by decide +kernel)) rfl)⟩
theorem fl_Tree_15 : FL "MovedFolders$Tree" 15 7 1 := ⟨R_Tree, T_Tree, 3, rfl, by decide, wt_Tree, (Tw_in (List.mem_of_getElem? (i := 120) (by decide +kernel)) rfl)⟩
theorem fl_Held_12 : FL "MovedFolders$Held" 12 0 0 := ⟨R_Held, T_Held, 4, rfl, by decide, wt_Held, (Tw_in (List.mem_of_getElem? (i := 129) (by decide +kernel)) rfl)⟩
set_option maxRecDepth 100000 in
theorem cb_Tree_take : CLb y_Tree_take b_Tree_take 3 none 1 := ⟨(List.mem_of_getElem? (i := 404) rfl), (Tw_in (List.mem_of_getElem? (i := 74) (by decide +kernel)) rfl), by decide, by decide, by decide +kernel⟩
theorem cv_Held_28 : CV "MovedFolders$Held" 28 7 y_Tree_take b_Tree_take 3 none 1 := ⟨cb_Tree_take, (Tw_in (List.mem_of_getElem? (i := 734) (by decide +kernel)) rfl), (Tw_in (List.mem_of_getElem? (i := 402) (by decide +kernel)) rfl), (Tw_in (List.mem_of_getElem? (i := 403) (by decide +kernel)) rfl), rfl⟩
theorem fl_Held_18 : FL "MovedFolders$Held" 18 0 1 := ⟨R_Held, T_Held, 4, rfl, by decide, wt_Held, (Tw_in (List.mem_of_getElem? (i := 132) (by decide +kernel)) rfl)⟩
theorem fl_Held_21 : FL "MovedFolders$Held" 21 0 2 := ⟨R_Held, T_Held, 4, rfl, by decide, wt_Held, (Tw_in (List.mem_of_getElem? (i := 135) (by decide +kernel)) rfl)⟩
theorem fl_Held_24 : FL "MovedFolders$Held" 24 0 3 := ⟨R_Held, T_Held, 4, rfl, by decide, wt_Held, (Tw_in (List.mem_of_getElem? (i := 138) (by decide +kernel)) rfl)⟩
set_option maxRecDepth 100000 in
theorem oi_Loops_3 : OI "MovedFolders$Loops" 3 := ⟨(Tw_in (List.mem_of_getElem? (i := 210) (by decide +kernel)) rfl), (Tw_in (List.mem_of_getElem? (i := 91) (by decide +kernel)) rfl), (Tw_in (List.mem_of_getElem? (i := 92) rfl) rfl)⟩
theorem fp_Loops_9 : FP "MovedFolders$Loops" 9 1 0 (.array .int) true := ⟨R_Loops, T_Loops, 2, ty_Loops, rfl, by decide, wt_Loops, (Tw_in (List.mem_of_getElem? (i := 211) (by decide +kernel)) rfl), ty_Loops_ok, nm_Loops, rfl, by decide +kernel, rfl⟩
theorem fp_Loops_15 : FP "MovedFolders$Loops" 15 1 1 .int false := ⟨R_Loops, T_Loops, 2, ty_Loops, rfl, by decide, wt_Loops, (Tw_in (List.mem_of_getElem? (i := 212) (by decide +kernel)) rfl), ty_Loops_ok, nm_Loops, rfl, by decide +kernel, rfl⟩
theorem fl_Moves_22 : FL "MovedFolders$Moves" 22 3 3 := ⟨R_Moves, T_Moves, 4, rfl, by decide, wt_Moves, (Tw_in (List.mem_of_getElem? (i := 184) (by decide +kernel)) rfl)⟩
theorem fl_Moves_15 : FL "MovedFolders$Moves" 15 3 1 := ⟨R_Moves, T_Moves, 4, rfl, by decide, wt_Moves, (Tw_in (List.mem_of_getElem? (i := 182) (by decide +kernel)) rfl)⟩
theorem fl_Loops_15 : FL "MovedFolders$Loops" 15 1 1 := ⟨R_Loops, T_Loops, 2, rfl, by decide, wt_Loops, (Tw_in (List.mem_of_getElem? (i := 212) (by decide +kernel)) rfl)⟩
theorem fl_Loops_9 : FL "MovedFolders$Loops" 9 1 0 := ⟨R_Loops, T_Loops, 2, rfl, by decide, wt_Loops, (Tw_in (List.mem_of_getElem? (i := 211) (by decide +kernel)) rfl)⟩
set_option maxRecDepth 100000 in
theorem cb_Loops_isReached : CLb y_Loops_isReached b_Loops_isReached 3 (some .boolean) 1 := ⟨(List.mem_of_getElem? (i := 540) rfl), (Tw_in (List.mem_of_getElem? (i := 78) (by decide +kernel)) rfl), by decide, by decide, by decide +kernel⟩
theorem cv_Loops_40 : CV "MovedFolders$Loops" 40 1 y_Loops_isReached b_Loops_isReached 3 (some .boolean) 1 := ⟨cb_Loops_isReached, (Tw_in (List.mem_of_getElem? (i := 537) (by decide +kernel)) rfl), (Tw_in (List.mem_of_getElem? (i := 539) (by decide +kernel)) rfl), (Tw_in (List.mem_of_getElem? (i := 17) (by decide +kernel)) rfl), rfl⟩
theorem fl_Moves_9 : FL "MovedFolders$Moves" 9 3 0 := ⟨R_Moves, T_Moves, 4, rfl, by decide, wt_Moves, (Tw_in (List.mem_of_getElem? (i := 181) (by decide +kernel)) rfl)⟩
set_option maxRecDepth 100000 in
theorem cb_Moves_placeOf : CLb y_Moves_placeOf b_Moves_placeOf 3 (some .int) 1 := ⟨(List.mem_of_getElem? (i := 490) rfl), (Tw_in (List.mem_of_getElem? (i := 77) (by decide +kernel)) rfl), by decide, by decide, by decide +kernel⟩
theorem cv_Moves_26 : CV "MovedFolders$Moves" 26 3 y_Moves_placeOf b_Moves_placeOf 3 (some .int) 1 := ⟨cb_Moves_placeOf, (Tw_in (List.mem_of_getElem? (i := 487) (by decide +kernel)) rfl), (Tw_in (List.mem_of_getElem? (i := 489) (by decide +kernel)) rfl), (Tw_in (List.mem_of_getElem? (i := 12) (by decide +kernel)) rfl), rfl⟩
set_option maxRecDepth 100000 in
theorem cb_Moves_targetAt : CLb y_Moves_targetAt b_Moves_targetAt 2 (some .int) 1 := ⟨(List.mem_of_getElem? (i := 528) rfl), (Tw_in (List.mem_of_getElem? (i := 77) (by decide +kernel)) rfl), by decide, by decide, by decide +kernel⟩
theorem cv_Moves_30 : CV "MovedFolders$Moves" 30 3 y_Moves_targetAt b_Moves_targetAt 2 (some .int) 1 := ⟨cb_Moves_targetAt, (Tw_in (List.mem_of_getElem? (i := 545) (by decide +kernel)) rfl), (Tw_in (List.mem_of_getElem? (i := 526) (by decide +kernel)) rfl), (Tw_in (List.mem_of_getElem? (i := 527) (by decide +kernel)) rfl), rfl⟩
set_option maxRecDepth 100000 in
theorem cb_Loops_add : CLb y_Loops_add b_Loops_add 2 none 1 := ⟨(List.mem_of_getElem? (i := 536) rfl), (Tw_in (List.mem_of_getElem? (i := 78) (by decide +kernel)) rfl), by decide, by decide, by decide +kernel⟩
theorem cv_Loops_48 : CV "MovedFolders$Loops" 48 1 y_Loops_add b_Loops_add 2 none 1 := ⟨cb_Loops_add, (Tw_in (List.mem_of_getElem? (i := 533) (by decide +kernel)) rfl), (Tw_in (List.mem_of_getElem? (i := 535) (by decide +kernel)) rfl), (Tw_in (List.mem_of_getElem? (i := 16) (by decide +kernel)) rfl), rfl⟩
set_option maxRecDepth 100000 in
theorem cb_Moves_targetOf : CLb y_Moves_targetOf b_Moves_targetOf 2 (some .int) 1 := ⟨(List.mem_of_getElem? (i := 544) rfl), (Tw_in (List.mem_of_getElem? (i := 77) (by decide +kernel)) rfl), by decide, by decide, by decide +kernel⟩
theorem cv_Loops_52 : CV "MovedFolders$Loops" 52 3 y_Moves_targetOf b_Moves_targetOf 2 (some .int) 1 := ⟨cb_Moves_targetOf, (Tw_in (List.mem_of_getElem? (i := 541) (by decide +kernel)) rfl), (Tw_in (List.mem_of_getElem? (i := 542) (by decide +kernel)) rfl), (Tw_in (List.mem_of_getElem? (i := 543) (by decide +kernel)) rfl), rfl⟩
theorem fl_Moves_18 : FL "MovedFolders$Moves" 18 3 2 := ⟨R_Moves, T_Moves, 4, rfl, by decide, wt_Moves, (Tw_in (List.mem_of_getElem? (i := 183) (by decide +kernel)) rfl)⟩
set_option maxRecDepth 100000 in
theorem cb_Moves_size : CLb y_Moves_size b_Moves_size 1 (some .int) 0 := ⟨(List.mem_of_getElem? (i := 524) rfl), (Tw_in (List.mem_of_getElem? (i := 77) (by decide +kernel)) rfl), by decide, by decide, by decide +kernel⟩
theorem cv_Loops_23 : CV "MovedFolders$Loops" 23 3 y_Moves_size b_Moves_size 1 (some .int) 0 := ⟨cb_Moves_size, (Tw_in (List.mem_of_getElem? (i := 521) (by decide +kernel)) rfl), (Tw_in (List.mem_of_getElem? (i := 522) (by decide +kernel)) rfl), (Tw_in (List.mem_of_getElem? (i := 523) (by decide +kernel)) rfl), rfl⟩
theorem cv_Loops_29 : CV "MovedFolders$Loops" 29 3 y_Moves_targetAt b_Moves_targetAt 2 (some .int) 1 := ⟨cb_Moves_targetAt, (Tw_in (List.mem_of_getElem? (i := 525) (by decide +kernel)) rfl), (Tw_in (List.mem_of_getElem? (i := 526) (by decide +kernel)) rfl), (Tw_in (List.mem_of_getElem? (i := 527) (by decide +kernel)) rfl), rfl⟩
set_option maxRecDepth 100000 in
theorem cb_Loops_reachFrom : CLb y_Loops_reachFrom b_Loops_reachFrom 5 none 3 := ⟨(List.mem_of_getElem? (i := 532) rfl), (Tw_in (List.mem_of_getElem? (i := 78) (by decide +kernel)) rfl), by decide, by decide, by decide +kernel⟩
theorem cv_Loops_33 : CV "MovedFolders$Loops" 33 1 y_Loops_reachFrom b_Loops_reachFrom 5 none 3 := ⟨cb_Loops_reachFrom, (Tw_in (List.mem_of_getElem? (i := 529) (by decide +kernel)) rfl), (Tw_in (List.mem_of_getElem? (i := 531) (by decide +kernel)) rfl), (Tw_in (List.mem_of_getElem? (i := 15) (by decide +kernel)) rfl), rfl⟩
set_option maxRecDepth 100000 in
theorem cb_Moves_startAt : CLb y_Moves_startAt b_Moves_startAt 2 (some .int) 1 := ⟨(List.mem_of_getElem? (i := 549) rfl), (Tw_in (List.mem_of_getElem? (i := 77) (by decide +kernel)) rfl), by decide, by decide, by decide +kernel⟩
theorem cv_Loops_37 : CV "MovedFolders$Loops" 37 3 y_Moves_startAt b_Moves_startAt 2 (some .int) 1 := ⟨cb_Moves_startAt, (Tw_in (List.mem_of_getElem? (i := 546) (by decide +kernel)) rfl), (Tw_in (List.mem_of_getElem? (i := 547) (by decide +kernel)) rfl), (Tw_in (List.mem_of_getElem? (i := 548) (by decide +kernel)) rfl), rfl⟩
set_option maxRecDepth 100000 in
theorem cb_Moves_markRound : CLb y_Moves_markRound b_Moves_markRound 3 none 2 := ⟨(List.mem_of_getElem? (i := 553) rfl), (Tw_in (List.mem_of_getElem? (i := 77) (by decide +kernel)) rfl), by decide, by decide, by decide +kernel⟩
theorem cv_Loops_44 : CV "MovedFolders$Loops" 44 3 y_Moves_markRound b_Moves_markRound 3 none 2 := ⟨cb_Moves_markRound, (Tw_in (List.mem_of_getElem? (i := 550) (by decide +kernel)) rfl), (Tw_in (List.mem_of_getElem? (i := 551) (by decide +kernel)) rfl), (Tw_in (List.mem_of_getElem? (i := 552) (by decide +kernel)) rfl), rfl⟩
set_option maxRecDepth 100000 in
theorem cb_Loops_markThose : CLb y_Loops_markThose b_Loops_markThose 5 none 3 := ⟨(List.mem_of_getElem? (i := 520) rfl), (Tw_in (List.mem_of_getElem? (i := 78) (by decide +kernel)) rfl), by decide, by decide, by decide +kernel⟩
theorem cv_Loops_19 : CV "MovedFolders$Loops" 19 1 y_Loops_markThose b_Loops_markThose 5 none 3 := ⟨cb_Loops_markThose, (Tw_in (List.mem_of_getElem? (i := 517) (by decide +kernel)) rfl), (Tw_in (List.mem_of_getElem? (i := 519) (by decide +kernel)) rfl), (Tw_in (List.mem_of_getElem? (i := 14) (by decide +kernel)) rfl), rfl⟩
set_option maxRecDepth 100000 in
theorem oi_Merge_3 : OI "MovedFolders$Merge" 3 := ⟨(Tw_in (List.mem_of_getElem? (i := 223) (by decide +kernel)) rfl), (Tw_in (List.mem_of_getElem? (i := 91) (by decide +kernel)) rfl), (Tw_in (List.mem_of_getElem? (i := 92) rfl) rfl)⟩
theorem fp_Merge_9 : FP "MovedFolders$Merge" 9 2 0 (.array .int) true := ⟨R_Merge, T_Merge, 9, ty_Merge, rfl, by decide, wt_Merge, (Tw_in (List.mem_of_getElem? (i := 224) (by decide +kernel)) rfl), ty_Merge_ok, nm_Merge, rfl, by decide +kernel, rfl⟩
theorem fp_Merge_15 : FP "MovedFolders$Merge" 15 2 1 (.array .int) true := ⟨R_Merge, T_Merge, 9, ty_Merge, rfl, by decide, wt_Merge, (Tw_in (List.mem_of_getElem? (i := 225) (by decide +kernel)) rfl), ty_Merge_ok, nm_Merge, rfl, by decide +kernel, rfl⟩
theorem fp_Merge_18 : FP "MovedFolders$Merge" 18 2 2 (.array .int) true := ⟨R_Merge, T_Merge, 9, ty_Merge, rfl, by decide, wt_Merge, (Tw_in (List.mem_of_getElem? (i := 226) (by decide +kernel)) rfl), ty_Merge_ok, nm_Merge, rfl, by decide +kernel, rfl⟩
theorem fp_Merge_21 : FP "MovedFolders$Merge" 21 2 3 (.array .int) true := ⟨R_Merge, T_Merge, 9, ty_Merge, rfl, by decide, wt_Merge, (Tw_in (List.mem_of_getElem? (i := 227) (by decide +kernel)) rfl), ty_Merge_ok, nm_Merge, rfl, by decide +kernel, rfl⟩
theorem fp_Merge_24 : FP "MovedFolders$Merge" 24 2 4 .int false := ⟨R_Merge, T_Merge, 9, ty_Merge, rfl, by decide, wt_Merge, (Tw_in (List.mem_of_getElem? (i := 228) (by decide +kernel)) rfl), ty_Merge_ok, nm_Merge, rfl, by decide +kernel, rfl⟩
theorem fp_Merge_28 : FP "MovedFolders$Merge" 28 2 5 (.array .int) true := ⟨R_Merge, T_Merge, 9, ty_Merge, rfl, by decide, wt_Merge, (Tw_in (List.mem_of_getElem? (i := 229) (by decide +kernel)) rfl), ty_Merge_ok, nm_Merge, rfl, by decide +kernel, rfl⟩
theorem fp_Merge_31 : FP "MovedFolders$Merge" 31 2 6 (.array .int) true := ⟨R_Merge, T_Merge, 9, ty_Merge, rfl, by decide, wt_Merge, (Tw_in (List.mem_of_getElem? (i := 230) (by decide +kernel)) rfl), ty_Merge_ok, nm_Merge, rfl, by decide +kernel, rfl⟩
theorem fp_Merge_34 : FP "MovedFolders$Merge" 34 2 7 .int false := ⟨R_Merge, T_Merge, 9, ty_Merge, rfl, by decide, wt_Merge, (Tw_in (List.mem_of_getElem? (i := 231) (by decide +kernel)) rfl), ty_Merge_ok, nm_Merge, rfl, by decide +kernel, rfl⟩
theorem fp_Merge_37 : FP "MovedFolders$Merge" 37 2 8 (.array .int) true := ⟨R_Merge, T_Merge, 9, ty_Merge, rfl, by decide, wt_Merge, (Tw_in (List.mem_of_getElem? (i := 232) (by decide +kernel)) rfl), ty_Merge_ok, nm_Merge, rfl, by decide +kernel, rfl⟩
theorem fl_Merge_24 : FL "MovedFolders$Merge" 24 2 4 := ⟨R_Merge, T_Merge, 9, rfl, by decide, wt_Merge, (Tw_in (List.mem_of_getElem? (i := 228) (by decide +kernel)) rfl)⟩
theorem fl_Merge_34 : FL "MovedFolders$Merge" 34 2 7 := ⟨R_Merge, T_Merge, 9, rfl, by decide, wt_Merge, (Tw_in (List.mem_of_getElem? (i := 231) (by decide +kernel)) rfl)⟩
theorem fl_Merge_9 : FL "MovedFolders$Merge" 9 2 0 := ⟨R_Merge, T_Merge, 9, rfl, by decide, wt_Merge, (Tw_in (List.mem_of_getElem? (i := 224) (by decide +kernel)) rfl)⟩
theorem fl_Merge_15 : FL "MovedFolders$Merge" 15 2 1 := ⟨R_Merge, T_Merge, 9, rfl, by decide, wt_Merge, (Tw_in (List.mem_of_getElem? (i := 225) (by decide +kernel)) rfl)⟩
theorem fl_Merge_18 : FL "MovedFolders$Merge" 18 2 2 := ⟨R_Merge, T_Merge, 9, rfl, by decide, wt_Merge, (Tw_in (List.mem_of_getElem? (i := 226) (by decide +kernel)) rfl)⟩
theorem fl_Merge_21 : FL "MovedFolders$Merge" 21 2 3 := ⟨R_Merge, T_Merge, 9, rfl, by decide, wt_Merge, (Tw_in (List.mem_of_getElem? (i := 227) (by decide +kernel)) rfl)⟩
theorem fl_Merge_31 : FL "MovedFolders$Merge" 31 2 6 := ⟨R_Merge, T_Merge, 9, rfl, by decide, wt_Merge, (Tw_in (List.mem_of_getElem? (i := 230) (by decide +kernel)) rfl)⟩
theorem fl_Merge_28 : FL "MovedFolders$Merge" 28 2 5 := ⟨R_Merge, T_Merge, 9, rfl, by decide, wt_Merge, (Tw_in (List.mem_of_getElem? (i := 229) (by decide +kernel)) rfl)⟩
set_option maxRecDepth 100000 in
theorem cb_Tree_find : CLb y_Tree_find b_Tree_find 3 (some .int) 1 := ⟨(List.mem_of_getElem? (i := 359) rfl), (Tw_in (List.mem_of_getElem? (i := 74) (by decide +kernel)) rfl), by decide, by decide, by decide +kernel⟩
theorem cv_Tree_38 : CV "MovedFolders$Tree" 38 7 y_Tree_find b_Tree_find 3 (some .int) 1 := ⟨cb_Tree_find, (Tw_in (List.mem_of_getElem? (i := 356) (by decide +kernel)) rfl), (Tw_in (List.mem_of_getElem? (i := 357) (by decide +kernel)) rfl), (Tw_in (List.mem_of_getElem? (i := 358) (by decide +kernel)) rfl), rfl⟩
set_option maxRecDepth 100000 in
theorem cb_Tree_openFor : CLb y_Tree_openFor b_Tree_openFor 4 (some .int) 1 := ⟨(List.mem_of_getElem? (i := 363) rfl), (Tw_in (List.mem_of_getElem? (i := 74) (by decide +kernel)) rfl), by decide, by decide, by decide +kernel⟩
theorem cv_Tree_41 : CV "MovedFolders$Tree" 41 7 y_Tree_openFor b_Tree_openFor 4 (some .int) 1 := ⟨cb_Tree_openFor, (Tw_in (List.mem_of_getElem? (i := 360) (by decide +kernel)) rfl), (Tw_in (List.mem_of_getElem? (i := 362) (by decide +kernel)) rfl), (Tw_in (List.mem_of_getElem? (i := 5) (by decide +kernel)) rfl), rfl⟩
set_option maxRecDepth 100000 in
theorem cb_Tree_clear : CLb y_Tree_clear b_Tree_clear 1 none 0 := ⟨(List.mem_of_getElem? (i := 716) rfl), (Tw_in (List.mem_of_getElem? (i := 74) (by decide +kernel)) rfl), by decide, by decide, by decide +kernel⟩
theorem cv_Merge_40 : CV "MovedFolders$Merge" 40 7 y_Tree_clear b_Tree_clear 1 none 0 := ⟨cb_Tree_clear, (Tw_in (List.mem_of_getElem? (i := 713) (by decide +kernel)) rfl), (Tw_in (List.mem_of_getElem? (i := 714) (by decide +kernel)) rfl), (Tw_in (List.mem_of_getElem? (i := 715) (by decide +kernel)) rfl), rfl⟩
set_option maxRecDepth 100000 in
theorem cb_Tree_lay : CLb y_Tree_lay b_Tree_lay 4 (some .boolean) 2 := ⟨(List.mem_of_getElem? (i := 355) rfl), (Tw_in (List.mem_of_getElem? (i := 74) (by decide +kernel)) rfl), by decide, by decide, by decide +kernel⟩
theorem cv_Merge_45 : CV "MovedFolders$Merge" 45 7 y_Tree_lay b_Tree_lay 4 (some .boolean) 2 := ⟨cb_Tree_lay, (Tw_in (List.mem_of_getElem? (i := 717) (by decide +kernel)) rfl), (Tw_in (List.mem_of_getElem? (i := 353) (by decide +kernel)) rfl), (Tw_in (List.mem_of_getElem? (i := 354) (by decide +kernel)) rfl), rfl⟩
theorem fl_Pairs_9 : FL "MovedFolders$Pairs" 9 5 0 := ⟨R_Pairs, T_Pairs, 4, rfl, by decide, wt_Pairs, (Tw_in (List.mem_of_getElem? (i := 161) (by decide +kernel)) rfl)⟩
set_option maxRecDepth 100000 in
theorem cb_Tree_has : CLb y_Tree_has b_Tree_has 2 (some .boolean) 1 := ⟨(List.mem_of_getElem? (i := 379) rfl), (Tw_in (List.mem_of_getElem? (i := 74) (by decide +kernel)) rfl), by decide, by decide, by decide +kernel⟩
theorem cv_Tree_22 : CV "MovedFolders$Tree" 22 7 y_Tree_has b_Tree_has 2 (some .boolean) 1 := ⟨cb_Tree_has, (Tw_in (List.mem_of_getElem? (i := 384) (by decide +kernel)) rfl), (Tw_in (List.mem_of_getElem? (i := 377) (by decide +kernel)) rfl), (Tw_in (List.mem_of_getElem? (i := 378) (by decide +kernel)) rfl), rfl⟩
set_option maxRecDepth 100000 in
theorem cb_Letters_folderOf : CLb y_Letters_folderOf b_Letters_folderOf 1 (some .int) 1 := ⟨(List.mem_of_getElem? (i := 486) rfl), (Tw_in (List.mem_of_getElem? (i := 81) (by decide +kernel)) rfl), by decide, by decide, by decide +kernel⟩
theorem cs_Merge_137 : CS "MovedFolders$Merge" 137 y_Letters_folderOf b_Letters_folderOf 1 (some .int) 1 := ⟨cb_Letters_folderOf, (Tw_in (List.mem_of_getElem? (i := 569) (by decide +kernel)) rfl), (Tw_in (List.mem_of_getElem? (i := 485) (by decide +kernel)) rfl)⟩
set_option maxRecDepth 100000 in
theorem cb_Three_differ : CLb y_Three_differ b_Three_differ 3 (some .boolean) 3 := ⟨(List.mem_of_getElem? (i := 572) rfl), (Tw_in (List.mem_of_getElem? (i := 84) (by decide +kernel)) rfl), by decide, by decide, by decide +kernel⟩
theorem cs_Merge_140 : CS "MovedFolders$Merge" 140 y_Three_differ b_Three_differ 3 (some .boolean) 3 := ⟨cb_Three_differ, (Tw_in (List.mem_of_getElem? (i := 570) (by decide +kernel)) rfl), (Tw_in (List.mem_of_getElem? (i := 571) (by decide +kernel)) rfl)⟩
set_option maxRecDepth 100000 in
theorem cb_Letters_nameOf : CLb y_Letters_nameOf b_Letters_nameOf 1 (some .int) 1 := ⟨(List.mem_of_getElem? (i := 470) rfl), (Tw_in (List.mem_of_getElem? (i := 81) (by decide +kernel)) rfl), by decide, by decide, by decide +kernel⟩
theorem cs_Merge_121 : CS "MovedFolders$Merge" 121 y_Letters_nameOf b_Letters_nameOf 1 (some .int) 1 := ⟨cb_Letters_nameOf, (Tw_in (List.mem_of_getElem? (i := 573) (by decide +kernel)) rfl), (Tw_in (List.mem_of_getElem? (i := 469) (by decide +kernel)) rfl)⟩
set_option maxRecDepth 100000 in
theorem cb_Pieces_countOf : CLb y_Pieces_countOf b_Pieces_countOf 4 (some .int) 1 := ⟨(List.mem_of_getElem? (i := 418) rfl), (Tw_in (List.mem_of_getElem? (i := 82) (by decide +kernel)) rfl), by decide, by decide, by decide +kernel⟩
theorem cs_Three_15 : CS "MovedFolders$Three" 15 y_Pieces_countOf b_Pieces_countOf 4 (some .int) 1 := ⟨cb_Pieces_countOf, (Tw_in (List.mem_of_getElem? (i := 581) (by decide +kernel)) rfl), (Tw_in (List.mem_of_getElem? (i := 417) (by decide +kernel)) rfl)⟩
theorem cs_Three_21 : CS "MovedFolders$Three" 21 y_Three_differ b_Three_differ 3 (some .boolean) 3 := ⟨cb_Three_differ, (Tw_in (List.mem_of_getElem? (i := 577) (by decide +kernel)) rfl), (Tw_in (List.mem_of_getElem? (i := 571) (by decide +kernel)) rfl)⟩
set_option maxRecDepth 100000 in
theorem cb_Three_sameCount : CLb y_Three_sameCount b_Three_sameCount 4 (some .boolean) 3 := ⟨(List.mem_of_getElem? (i := 580) rfl), (Tw_in (List.mem_of_getElem? (i := 84) (by decide +kernel)) rfl), by decide, by decide, by decide +kernel⟩
theorem cs_Three_27 : CS "MovedFolders$Three" 27 y_Three_sameCount b_Three_sameCount 4 (some .boolean) 3 := ⟨cb_Three_sameCount, (Tw_in (List.mem_of_getElem? (i := 578) (by decide +kernel)) rfl), (Tw_in (List.mem_of_getElem? (i := 579) (by decide +kernel)) rfl)⟩
set_option maxRecDepth 100000 in
theorem cb_Letters_lengthOf : CLb y_Letters_lengthOf b_Letters_lengthOf 1 (some .int) 1 := ⟨(List.mem_of_getElem? (i := 591) rfl), (Tw_in (List.mem_of_getElem? (i := 81) (by decide +kernel)) rfl), by decide, by decide, by decide +kernel⟩
theorem cs_Moves_33 : CS "MovedFolders$Moves" 33 y_Letters_lengthOf b_Letters_lengthOf 1 (some .int) 1 := ⟨cb_Letters_lengthOf, (Tw_in (List.mem_of_getElem? (i := 589) (by decide +kernel)) rfl), (Tw_in (List.mem_of_getElem? (i := 590) (by decide +kernel)) rfl)⟩
set_option maxRecDepth 100000 in
theorem cb_Letters_firstOf : CLb y_Letters_firstOf b_Letters_firstOf 2 (some .int) 2 := ⟨(List.mem_of_getElem? (i := 594) rfl), (Tw_in (List.mem_of_getElem? (i := 81) (by decide +kernel)) rfl), by decide, by decide, by decide +kernel⟩
theorem cs_Moves_38 : CS "MovedFolders$Moves" 38 y_Letters_firstOf b_Letters_firstOf 2 (some .int) 2 := ⟨cb_Letters_firstOf, (Tw_in (List.mem_of_getElem? (i := 592) (by decide +kernel)) rfl), (Tw_in (List.mem_of_getElem? (i := 593) (by decide +kernel)) rfl)⟩
set_option maxRecDepth 100000 in
theorem cb_Letters_shift : CLb y_Letters_shift b_Letters_shift 5 (some .int) 3 := ⟨(List.mem_of_getElem? (i := 347) rfl), (Tw_in (List.mem_of_getElem? (i := 81) (by decide +kernel)) rfl), by decide, by decide, by decide +kernel⟩
theorem cs_Moves_42 : CS "MovedFolders$Moves" 42 y_Letters_shift b_Letters_shift 5 (some .int) 3 := ⟨cb_Letters_shift, (Tw_in (List.mem_of_getElem? (i := 595) (by decide +kernel)) rfl), (Tw_in (List.mem_of_getElem? (i := 346) (by decide +kernel)) rfl)⟩
set_option maxRecDepth 100000 in
theorem cb_Ma_min : CLb y_Ma_min b_Ma_min 2 (some .int) 2 := ⟨(List.mem_of_getElem? (i := 601) rfl), (Tw_in (List.mem_of_getElem? (i := 83) (by decide +kernel)) rfl), by decide, by decide, by decide +kernel⟩
theorem cs_Three_9 : CS "MovedFolders$Three" 9 y_Ma_min b_Ma_min 2 (some .int) 2 := ⟨cb_Ma_min, (Tw_in (List.mem_of_getElem? (i := 599) (by decide +kernel)) rfl), (Tw_in (List.mem_of_getElem? (i := 600) (by decide +kernel)) rfl)⟩
set_option maxRecDepth 100000 in
theorem cb_Three_join : CLb y_Three_join b_Three_join 3 (some .int) 3 := ⟨(List.mem_of_getElem? (i := 598) rfl), (Tw_in (List.mem_of_getElem? (i := 84) (by decide +kernel)) rfl), by decide, by decide, by decide +kernel⟩
theorem cs_Merge_126 : CS "MovedFolders$Merge" 126 y_Three_join b_Three_join 3 (some .int) 3 := ⟨cb_Three_join, (Tw_in (List.mem_of_getElem? (i := 596) (by decide +kernel)) rfl), (Tw_in (List.mem_of_getElem? (i := 597) (by decide +kernel)) rfl)⟩
set_option maxRecDepth 100000 in
theorem cb_Moves_follow : CLb y_Moves_follow b_Moves_follow 8 (some .int) 1 := ⟨(List.mem_of_getElem? (i := 588) rfl), (Tw_in (List.mem_of_getElem? (i := 77) (by decide +kernel)) rfl), by decide, by decide, by decide +kernel⟩
theorem cv_Merge_143 : CV "MovedFolders$Merge" 143 3 y_Moves_follow b_Moves_follow 8 (some .int) 1 := ⟨cb_Moves_follow, (Tw_in (List.mem_of_getElem? (i := 585) (by decide +kernel)) rfl), (Tw_in (List.mem_of_getElem? (i := 586) (by decide +kernel)) rfl), (Tw_in (List.mem_of_getElem? (i := 587) (by decide +kernel)) rfl), rfl⟩
theorem cs_Three_30 : CS "MovedFolders$Three" 30 y_Three_join b_Three_join 3 (some .int) 3 := ⟨cb_Three_join, (Tw_in (List.mem_of_getElem? (i := 605) (by decide +kernel)) rfl), (Tw_in (List.mem_of_getElem? (i := 597) (by decide +kernel)) rfl)⟩
set_option maxRecDepth 100000 in
theorem cb_Merge_isBehind : CLb y_Merge_isBehind b_Merge_isBehind 6 (some .boolean) 5 := ⟨(List.mem_of_getElem? (i := 613) rfl), (Tw_in (List.mem_of_getElem? (i := 79) (by decide +kernel)) rfl), by decide, by decide, by decide +kernel⟩
theorem cv_Merge_159 : CV "MovedFolders$Merge" 159 2 y_Merge_isBehind b_Merge_isBehind 6 (some .boolean) 5 := ⟨cb_Merge_isBehind, (Tw_in (List.mem_of_getElem? (i := 610) (by decide +kernel)) rfl), (Tw_in (List.mem_of_getElem? (i := 612) (by decide +kernel)) rfl), (Tw_in (List.mem_of_getElem? (i := 20) (by decide +kernel)) rfl), rfl⟩
theorem fl_Merge_83 : FL "MovedFolders$Merge" 83 6 0 := ⟨R_Side, T_Side, 2, rfl, by decide, wt_Side, (Tw_in (List.mem_of_getElem? (i := 195) (by decide +kernel)) rfl)⟩
set_option maxRecDepth 100000 in
theorem cb_Pairs_mateOf : CLb y_Pairs_mateOf b_Pairs_mateOf 2 (some .int) 1 := ⟨(List.mem_of_getElem? (i := 502) rfl), (Tw_in (List.mem_of_getElem? (i := 76) (by decide +kernel)) rfl), by decide, by decide, by decide +kernel⟩
theorem cv_Merge_89 : CV "MovedFolders$Merge" 89 5 y_Pairs_mateOf b_Pairs_mateOf 2 (some .int) 1 := ⟨cb_Pairs_mateOf, (Tw_in (List.mem_of_getElem? (i := 563) (by decide +kernel)) rfl), (Tw_in (List.mem_of_getElem? (i := 500) (by decide +kernel)) rfl), (Tw_in (List.mem_of_getElem? (i := 501) (by decide +kernel)) rfl), rfl⟩
theorem fl_Merge_49 : FL "MovedFolders$Merge" 49 0 0 := ⟨R_Held, T_Held, 4, rfl, by decide, wt_Held, (Tw_in (List.mem_of_getElem? (i := 130) (by decide +kernel)) rfl)⟩
set_option maxRecDepth 100000 in
theorem cb_Tree_pathAt : CLb y_Tree_pathAt b_Tree_pathAt 2 (some .int) 1 := ⟨(List.mem_of_getElem? (i := 392) rfl), (Tw_in (List.mem_of_getElem? (i := 74) (by decide +kernel)) rfl), by decide, by decide, by decide +kernel⟩
theorem cv_Merge_95 : CV "MovedFolders$Merge" 95 7 y_Tree_pathAt b_Tree_pathAt 2 (some .int) 1 := ⟨cb_Tree_pathAt, (Tw_in (List.mem_of_getElem? (i := 564) (by decide +kernel)) rfl), (Tw_in (List.mem_of_getElem? (i := 390) (by decide +kernel)) rfl), (Tw_in (List.mem_of_getElem? (i := 391) (by decide +kernel)) rfl), rfl⟩
set_option maxRecDepth 100000 in
theorem cb_Tree_contentAt : CLb y_Tree_contentAt b_Tree_contentAt 2 (some .int) 1 := ⟨(List.mem_of_getElem? (i := 396) rfl), (Tw_in (List.mem_of_getElem? (i := 74) (by decide +kernel)) rfl), by decide, by decide, by decide +kernel⟩
theorem cv_Merge_98 : CV "MovedFolders$Merge" 98 7 y_Tree_contentAt b_Tree_contentAt 2 (some .int) 1 := ⟨cb_Tree_contentAt, (Tw_in (List.mem_of_getElem? (i := 565) (by decide +kernel)) rfl), (Tw_in (List.mem_of_getElem? (i := 394) (by decide +kernel)) rfl), (Tw_in (List.mem_of_getElem? (i := 395) (by decide +kernel)) rfl), rfl⟩
theorem fl_Merge_101 : FL "MovedFolders$Merge" 101 0 1 := ⟨R_Held, T_Held, 4, rfl, by decide, wt_Held, (Tw_in (List.mem_of_getElem? (i := 133) (by decide +kernel)) rfl)⟩
theorem fl_Merge_70 : FL "MovedFolders$Merge" 70 0 2 := ⟨R_Held, T_Held, 4, rfl, by decide, wt_Held, (Tw_in (List.mem_of_getElem? (i := 136) (by decide +kernel)) rfl)⟩
set_option maxRecDepth 100000 in
theorem cb_Merge_pathsClash : CLb y_Merge_pathsClash b_Merge_pathsClash 3 (some .boolean) 3 := ⟨(List.mem_of_getElem? (i := 568) rfl), (Tw_in (List.mem_of_getElem? (i := 79) (by decide +kernel)) rfl), by decide, by decide, by decide +kernel⟩
theorem cs_Merge_104 : CS "MovedFolders$Merge" 104 y_Merge_pathsClash b_Merge_pathsClash 3 (some .boolean) 3 := ⟨cb_Merge_pathsClash, (Tw_in (List.mem_of_getElem? (i := 566) (by decide +kernel)) rfl), (Tw_in (List.mem_of_getElem? (i := 567) (by decide +kernel)) rfl)⟩
set_option maxRecDepth 100000 in
theorem cb_Three_contentsClash : CLb y_Three_contentsClash b_Three_contentsClash 7 (some .boolean) 3 := ⟨(List.mem_of_getElem? (i := 576) rfl), (Tw_in (List.mem_of_getElem? (i := 84) (by decide +kernel)) rfl), by decide, by decide, by decide +kernel⟩
theorem cs_Merge_108 : CS "MovedFolders$Merge" 108 y_Three_contentsClash b_Three_contentsClash 7 (some .boolean) 3 := ⟨cb_Three_contentsClash, (Tw_in (List.mem_of_getElem? (i := 574) (by decide +kernel)) rfl), (Tw_in (List.mem_of_getElem? (i := 575) (by decide +kernel)) rfl)⟩
theorem fl_Merge_113 : FL "MovedFolders$Merge" 113 6 1 := ⟨R_Side, T_Side, 2, rfl, by decide, wt_Side, (Tw_in (List.mem_of_getElem? (i := 198) (by decide +kernel)) rfl)⟩
set_option maxRecDepth 100000 in
theorem cb_Merge_joinFolders : CLb y_Merge_joinFolders b_Merge_joinFolders 8 (some .int) 5 := ⟨(List.mem_of_getElem? (i := 584) rfl), (Tw_in (List.mem_of_getElem? (i := 79) (by decide +kernel)) rfl), by decide, by decide, by decide +kernel⟩
theorem cs_Merge_117 : CS "MovedFolders$Merge" 117 y_Merge_joinFolders b_Merge_joinFolders 8 (some .int) 5 := ⟨cb_Merge_joinFolders, (Tw_in (List.mem_of_getElem? (i := 582) (by decide +kernel)) rfl), (Tw_in (List.mem_of_getElem? (i := 583) (by decide +kernel)) rfl)⟩
set_option maxRecDepth 100000 in
theorem cb_Three_joinContents : CLb y_Three_joinContents b_Three_joinContents 10 (some .int) 3 := ⟨(List.mem_of_getElem? (i := 604) rfl), (Tw_in (List.mem_of_getElem? (i := 84) (by decide +kernel)) rfl), by decide, by decide, by decide +kernel⟩
theorem cs_Merge_130 : CS "MovedFolders$Merge" 130 y_Three_joinContents b_Three_joinContents 10 (some .int) 3 := ⟨cb_Three_joinContents, (Tw_in (List.mem_of_getElem? (i := 602) (by decide +kernel)) rfl), (Tw_in (List.mem_of_getElem? (i := 603) (by decide +kernel)) rfl)⟩
set_option maxRecDepth 100000 in
theorem cb_Merge_add : CLb y_Merge_add b_Merge_add 7 none 4 := ⟨(List.mem_of_getElem? (i := 609) rfl), (Tw_in (List.mem_of_getElem? (i := 79) (by decide +kernel)) rfl), by decide, by decide, by decide +kernel⟩
theorem cv_Merge_133 : CV "MovedFolders$Merge" 133 2 y_Merge_add b_Merge_add 7 none 4 := ⟨cb_Merge_add, (Tw_in (List.mem_of_getElem? (i := 606) (by decide +kernel)) rfl), (Tw_in (List.mem_of_getElem? (i := 608) (by decide +kernel)) rfl), (Tw_in (List.mem_of_getElem? (i := 19) (by decide +kernel)) rfl), rfl⟩
theorem fl_Pairs_18 : FL "MovedFolders$Pairs" 18 5 2 := ⟨R_Pairs, T_Pairs, 4, rfl, by decide, wt_Pairs, (Tw_in (List.mem_of_getElem? (i := 163) (by decide +kernel)) rfl)⟩
set_option maxRecDepth 100000 in
theorem cb_Tree_size : CLb y_Tree_size b_Tree_size 1 (some .int) 0 := ⟨(List.mem_of_getElem? (i := 367) rfl), (Tw_in (List.mem_of_getElem? (i := 74) (by decide +kernel)) rfl), by decide, by decide, by decide +kernel⟩
theorem cv_Merge_55 : CV "MovedFolders$Merge" 55 7 y_Tree_size b_Tree_size 1 (some .int) 0 := ⟨cb_Tree_size, (Tw_in (List.mem_of_getElem? (i := 558) (by decide +kernel)) rfl), (Tw_in (List.mem_of_getElem? (i := 365) (by decide +kernel)) rfl), (Tw_in (List.mem_of_getElem? (i := 366) (by decide +kernel)) rfl), rfl⟩
set_option maxRecDepth 100000 in
theorem cb_Pairs_sourceOf : CLb y_Pairs_sourceOf b_Pairs_sourceOf 2 (some .int) 1 := ⟨(List.mem_of_getElem? (i := 621) rfl), (Tw_in (List.mem_of_getElem? (i := 76) (by decide +kernel)) rfl), by decide, by decide, by decide +kernel⟩
theorem cv_Merge_148 : CV "MovedFolders$Merge" 148 5 y_Pairs_sourceOf b_Pairs_sourceOf 2 (some .int) 1 := ⟨cb_Pairs_sourceOf, (Tw_in (List.mem_of_getElem? (i := 618) (by decide +kernel)) rfl), (Tw_in (List.mem_of_getElem? (i := 619) (by decide +kernel)) rfl), (Tw_in (List.mem_of_getElem? (i := 620) (by decide +kernel)) rfl), rfl⟩
theorem fl_Merge_37 : FL "MovedFolders$Merge" 37 2 8 := ⟨R_Merge, T_Merge, 9, rfl, by decide, wt_Merge, (Tw_in (List.mem_of_getElem? (i := 232) (by decide +kernel)) rfl)⟩
set_option maxRecDepth 100000 in
theorem cb_Merge_newPath : CLb y_Merge_newPath b_Merge_newPath 2 (some .int) 2 := ⟨(List.mem_of_getElem? (i := 624) rfl), (Tw_in (List.mem_of_getElem? (i := 79) (by decide +kernel)) rfl), by decide, by decide, by decide +kernel⟩
theorem cs_Merge_151 : CS "MovedFolders$Merge" 151 y_Merge_newPath b_Merge_newPath 2 (some .int) 2 := ⟨cb_Merge_newPath, (Tw_in (List.mem_of_getElem? (i := 622) (by decide +kernel)) rfl), (Tw_in (List.mem_of_getElem? (i := 623) (by decide +kernel)) rfl)⟩
set_option maxRecDepth 100000 in
theorem cb_Merge_takeSame : CLb y_Merge_takeSame b_Merge_takeSame 5 none 3 := ⟨(List.mem_of_getElem? (i := 632) rfl), (Tw_in (List.mem_of_getElem? (i := 79) (by decide +kernel)) rfl), by decide, by decide, by decide +kernel⟩
theorem cv_Merge_155 : CV "MovedFolders$Merge" 155 2 y_Merge_takeSame b_Merge_takeSame 5 none 3 := ⟨cb_Merge_takeSame, (Tw_in (List.mem_of_getElem? (i := 629) (by decide +kernel)) rfl), (Tw_in (List.mem_of_getElem? (i := 631) (by decide +kernel)) rfl), (Tw_in (List.mem_of_getElem? (i := 23) (by decide +kernel)) rfl), rfl⟩
set_option maxRecDepth 100000 in
theorem cb_Merge_findGoals : CLb y_Merge_findGoals b_Merge_findGoals 6 none 3 := ⟨(List.mem_of_getElem? (i := 617) rfl), (Tw_in (List.mem_of_getElem? (i := 79) (by decide +kernel)) rfl), by decide, by decide, by decide +kernel⟩
theorem cv_Merge_63 : CV "MovedFolders$Merge" 63 2 y_Merge_findGoals b_Merge_findGoals 6 none 3 := ⟨cb_Merge_findGoals, (Tw_in (List.mem_of_getElem? (i := 614) (by decide +kernel)) rfl), (Tw_in (List.mem_of_getElem? (i := 616) (by decide +kernel)) rfl), (Tw_in (List.mem_of_getElem? (i := 21) (by decide +kernel)) rfl), rfl⟩
set_option maxRecDepth 100000 in
theorem cb_Merge_addNewOfOne : CLb y_Merge_addNewOfOne b_Merge_addNewOfOne 7 none 3 := ⟨(List.mem_of_getElem? (i := 628) rfl), (Tw_in (List.mem_of_getElem? (i := 79) (by decide +kernel)) rfl), by decide, by decide, by decide +kernel⟩
theorem cv_Merge_67 : CV "MovedFolders$Merge" 67 2 y_Merge_addNewOfOne b_Merge_addNewOfOne 7 none 3 := ⟨cb_Merge_addNewOfOne, (Tw_in (List.mem_of_getElem? (i := 625) (by decide +kernel)) rfl), (Tw_in (List.mem_of_getElem? (i := 627) (by decide +kernel)) rfl), (Tw_in (List.mem_of_getElem? (i := 22) (by decide +kernel)) rfl), rfl⟩
set_option maxRecDepth 100000 in
theorem cb_Merge_addNewOfTwo : CLb y_Merge_addNewOfTwo b_Merge_addNewOfTwo 3 none 1 := ⟨(List.mem_of_getElem? (i := 636) rfl), (Tw_in (List.mem_of_getElem? (i := 79) (by decide +kernel)) rfl), by decide, by decide, by decide +kernel⟩
theorem cv_Merge_73 : CV "MovedFolders$Merge" 73 2 y_Merge_addNewOfTwo b_Merge_addNewOfTwo 3 none 1 := ⟨cb_Merge_addNewOfTwo, (Tw_in (List.mem_of_getElem? (i := 633) (by decide +kernel)) rfl), (Tw_in (List.mem_of_getElem? (i := 635) (by decide +kernel)) rfl), (Tw_in (List.mem_of_getElem? (i := 24) (by decide +kernel)) rfl), rfl⟩
set_option maxRecDepth 100000 in
theorem cb_Merge_markMeetings : CLb y_Merge_markMeetings b_Merge_markMeetings 2 none 0 := ⟨(List.mem_of_getElem? (i := 640) rfl), (Tw_in (List.mem_of_getElem? (i := 79) (by decide +kernel)) rfl), by decide, by decide, by decide +kernel⟩
theorem cv_Merge_77 : CV "MovedFolders$Merge" 77 2 y_Merge_markMeetings b_Merge_markMeetings 2 none 0 := ⟨cb_Merge_markMeetings, (Tw_in (List.mem_of_getElem? (i := 637) (by decide +kernel)) rfl), (Tw_in (List.mem_of_getElem? (i := 639) (by decide +kernel)) rfl), (Tw_in (List.mem_of_getElem? (i := 25) (by decide +kernel)) rfl), rfl⟩
set_option maxRecDepth 100000 in
theorem cb_Merge_gatherClashes : CLb y_Merge_gatherClashes b_Merge_gatherClashes 2 none 0 := ⟨(List.mem_of_getElem? (i := 644) rfl), (Tw_in (List.mem_of_getElem? (i := 79) (by decide +kernel)) rfl), by decide, by decide, by decide +kernel⟩
theorem cv_Merge_80 : CV "MovedFolders$Merge" 80 2 y_Merge_gatherClashes b_Merge_gatherClashes 2 none 0 := ⟨cb_Merge_gatherClashes, (Tw_in (List.mem_of_getElem? (i := 641) (by decide +kernel)) rfl), (Tw_in (List.mem_of_getElem? (i := 643) (by decide +kernel)) rfl), (Tw_in (List.mem_of_getElem? (i := 26) (by decide +kernel)) rfl), rfl⟩
set_option maxRecDepth 100000 in
theorem cb_Merge_addOld : CLb y_Merge_addOld b_Merge_addOld 16 none 4 := ⟨(List.mem_of_getElem? (i := 562) rfl), (Tw_in (List.mem_of_getElem? (i := 79) (by decide +kernel)) rfl), by decide, by decide, by decide +kernel⟩
theorem cv_Merge_59 : CV "MovedFolders$Merge" 59 2 y_Merge_addOld b_Merge_addOld 16 none 4 := ⟨cb_Merge_addOld, (Tw_in (List.mem_of_getElem? (i := 559) (by decide +kernel)) rfl), (Tw_in (List.mem_of_getElem? (i := 561) (by decide +kernel)) rfl), (Tw_in (List.mem_of_getElem? (i := 18) (by decide +kernel)) rfl), rfl⟩
set_option maxRecDepth 100000 in
theorem oi_Moves_3 : OI "MovedFolders$Moves" 3 := ⟨(Tw_in (List.mem_of_getElem? (i := 180) (by decide +kernel)) rfl), (Tw_in (List.mem_of_getElem? (i := 91) (by decide +kernel)) rfl), (Tw_in (List.mem_of_getElem? (i := 92) rfl) rfl)⟩
theorem fp_Moves_9 : FP "MovedFolders$Moves" 9 3 0 (.array .int) true := ⟨R_Moves, T_Moves, 4, ty_Moves, rfl, by decide, wt_Moves, (Tw_in (List.mem_of_getElem? (i := 181) (by decide +kernel)) rfl), ty_Moves_ok, nm_Moves, rfl, by decide +kernel, rfl⟩
theorem fp_Moves_15 : FP "MovedFolders$Moves" 15 3 1 (.array .int) true := ⟨R_Moves, T_Moves, 4, ty_Moves, rfl, by decide, wt_Moves, (Tw_in (List.mem_of_getElem? (i := 182) (by decide +kernel)) rfl), ty_Moves_ok, nm_Moves, rfl, by decide +kernel, rfl⟩
theorem ac_boolean : Cond.arrayClass .boolean ∈ Tw := (Tw_in (List.mem_of_getElem? (i := 174) (by decide +kernel)) rfl)
theorem fp_Moves_18 : FP "MovedFolders$Moves" 18 3 2 (.array .boolean) true := ⟨R_Moves, T_Moves, 4, ty_Moves, rfl, by decide, wt_Moves, (Tw_in (List.mem_of_getElem? (i := 183) (by decide +kernel)) rfl), ty_Moves_ok, nm_Moves, rfl, by decide +kernel, rfl⟩
theorem fp_Moves_22 : FP "MovedFolders$Moves" 22 3 3 .int false := ⟨R_Moves, T_Moves, 4, ty_Moves, rfl, by decide, wt_Moves, (Tw_in (List.mem_of_getElem? (i := 184) (by decide +kernel)) rfl), ty_Moves_ok, nm_Moves, rfl, by decide +kernel, rfl⟩
theorem cs_Tree_26 : CS "MovedFolders$Tree" 26 y_Letters_folderOf b_Letters_folderOf 1 (some .int) 1 := ⟨cb_Letters_folderOf, (Tw_in (List.mem_of_getElem? (i := 484) (by decide +kernel)) rfl), (Tw_in (List.mem_of_getElem? (i := 485) (by decide +kernel)) rfl)⟩
set_option maxRecDepth 100000 in
theorem cb_Tree_folderAt : CLb y_Tree_folderAt b_Tree_folderAt 2 (some .int) 1 := ⟨(List.mem_of_getElem? (i := 483) rfl), (Tw_in (List.mem_of_getElem? (i := 74) (by decide +kernel)) rfl), by decide, by decide, by decide +kernel⟩
theorem cv_Tree_35 : CV "MovedFolders$Tree" 35 7 y_Tree_folderAt b_Tree_folderAt 2 (some .int) 1 := ⟨cb_Tree_folderAt, (Tw_in (List.mem_of_getElem? (i := 495) (by decide +kernel)) rfl), (Tw_in (List.mem_of_getElem? (i := 481) (by decide +kernel)) rfl), (Tw_in (List.mem_of_getElem? (i := 482) (by decide +kernel)) rfl), rfl⟩
theorem cv_Pairs_24 : CV "MovedFolders$Pairs" 24 7 y_Tree_size b_Tree_size 1 (some .int) 0 := ⟨cb_Tree_size, (Tw_in (List.mem_of_getElem? (i := 448) (by decide +kernel)) rfl), (Tw_in (List.mem_of_getElem? (i := 365) (by decide +kernel)) rfl), (Tw_in (List.mem_of_getElem? (i := 366) (by decide +kernel)) rfl), rfl⟩
theorem cv_Pairs_30 : CV "MovedFolders$Pairs" 30 5 y_Pairs_mateOf b_Pairs_mateOf 2 (some .int) 1 := ⟨cb_Pairs_mateOf, (Tw_in (List.mem_of_getElem? (i := 507) (by decide +kernel)) rfl), (Tw_in (List.mem_of_getElem? (i := 500) (by decide +kernel)) rfl), (Tw_in (List.mem_of_getElem? (i := 501) (by decide +kernel)) rfl), rfl⟩
theorem cv_Pairs_37 : CV "MovedFolders$Pairs" 37 7 y_Tree_folderAt b_Tree_folderAt 2 (some .int) 1 := ⟨cb_Tree_folderAt, (Tw_in (List.mem_of_getElem? (i := 508) (by decide +kernel)) rfl), (Tw_in (List.mem_of_getElem? (i := 481) (by decide +kernel)) rfl), (Tw_in (List.mem_of_getElem? (i := 482) (by decide +kernel)) rfl), rfl⟩
theorem cv_Moves_46 : CV "MovedFolders$Moves" 46 7 y_Tree_size b_Tree_size 1 (some .int) 0 := ⟨cb_Tree_size, (Tw_in (List.mem_of_getElem? (i := 479) (by decide +kernel)) rfl), (Tw_in (List.mem_of_getElem? (i := 365) (by decide +kernel)) rfl), (Tw_in (List.mem_of_getElem? (i := 366) (by decide +kernel)) rfl), rfl⟩
theorem cv_Moves_67 : CV "MovedFolders$Moves" 67 5 y_Pairs_mateOf b_Pairs_mateOf 2 (some .int) 1 := ⟨cb_Pairs_mateOf, (Tw_in (List.mem_of_getElem? (i := 499) (by decide +kernel)) rfl), (Tw_in (List.mem_of_getElem? (i := 500) (by decide +kernel)) rfl), (Tw_in (List.mem_of_getElem? (i := 501) (by decide +kernel)) rfl), rfl⟩
theorem cv_Moves_52 : CV "MovedFolders$Moves" 52 7 y_Tree_folderAt b_Tree_folderAt 2 (some .int) 1 := ⟨cb_Tree_folderAt, (Tw_in (List.mem_of_getElem? (i := 480) (by decide +kernel)) rfl), (Tw_in (List.mem_of_getElem? (i := 481) (by decide +kernel)) rfl), (Tw_in (List.mem_of_getElem? (i := 482) (by decide +kernel)) rfl), rfl⟩
set_option maxRecDepth 100000 in
theorem cb_Pairs_countWent : CLb y_Pairs_countWent b_Pairs_countWent 8 (some .int) 4 := ⟨(List.mem_of_getElem? (i := 506) rfl), (Tw_in (List.mem_of_getElem? (i := 76) (by decide +kernel)) rfl), by decide, by decide, by decide +kernel⟩
theorem cv_Moves_72 : CV "MovedFolders$Moves" 72 5 y_Pairs_countWent b_Pairs_countWent 8 (some .int) 4 := ⟨cb_Pairs_countWent, (Tw_in (List.mem_of_getElem? (i := 503) (by decide +kernel)) rfl), (Tw_in (List.mem_of_getElem? (i := 504) (by decide +kernel)) rfl), (Tw_in (List.mem_of_getElem? (i := 505) (by decide +kernel)) rfl), rfl⟩
set_option maxRecDepth 100000 in
theorem cb_Tree_liesIn : CLb y_Tree_liesIn b_Tree_liesIn 3 (some .boolean) 1 := ⟨(List.mem_of_getElem? (i := 494) rfl), (Tw_in (List.mem_of_getElem? (i := 74) (by decide +kernel)) rfl), by decide, by decide, by decide +kernel⟩
theorem cv_Moves_55 : CV "MovedFolders$Moves" 55 7 y_Tree_liesIn b_Tree_liesIn 3 (some .boolean) 1 := ⟨cb_Tree_liesIn, (Tw_in (List.mem_of_getElem? (i := 491) (by decide +kernel)) rfl), (Tw_in (List.mem_of_getElem? (i := 492) (by decide +kernel)) rfl), (Tw_in (List.mem_of_getElem? (i := 493) (by decide +kernel)) rfl), rfl⟩
set_option maxRecDepth 100000 in
theorem cb_Moves_mostVoted : CLb y_Moves_mostVoted b_Moves_mostVoted 11 (some .int) 4 := ⟨(List.mem_of_getElem? (i := 498) rfl), (Tw_in (List.mem_of_getElem? (i := 77) (by decide +kernel)) rfl), by decide, by decide, by decide +kernel⟩
theorem cs_Moves_59 : CS "MovedFolders$Moves" 59 y_Moves_mostVoted b_Moves_mostVoted 11 (some .int) 4 := ⟨cb_Moves_mostVoted, (Tw_in (List.mem_of_getElem? (i := 496) (by decide +kernel)) rfl), (Tw_in (List.mem_of_getElem? (i := 497) (by decide +kernel)) rfl)⟩
set_option maxRecDepth 100000 in
theorem cb_Moves_add : CLb y_Moves_add b_Moves_add 3 none 2 := ⟨(List.mem_of_getElem? (i := 512) rfl), (Tw_in (List.mem_of_getElem? (i := 77) (by decide +kernel)) rfl), by decide, by decide, by decide +kernel⟩
theorem cv_Moves_63 : CV "MovedFolders$Moves" 63 3 y_Moves_add b_Moves_add 3 none 2 := ⟨cb_Moves_add, (Tw_in (List.mem_of_getElem? (i := 509) (by decide +kernel)) rfl), (Tw_in (List.mem_of_getElem? (i := 511) (by decide +kernel)) rfl), (Tw_in (List.mem_of_getElem? (i := 13) (by decide +kernel)) rfl), rfl⟩
set_option maxRecDepth 100000 in
theorem oi_Pad_3 : OI "MovedFolders$Pad" 3 := ⟨(Tw_in (List.mem_of_getElem? (i := 98) (by decide +kernel)) rfl), (Tw_in (List.mem_of_getElem? (i := 91) (by decide +kernel)) rfl), (Tw_in (List.mem_of_getElem? (i := 92) rfl) rfl)⟩
theorem fp_Pad_9 : FP "MovedFolders$Pad" 9 4 0 (.array .int) true := ⟨R_Pad, T_Pad, 2, ty_Pad, rfl, by decide, wt_Pad, (Tw_in (List.mem_of_getElem? (i := 99) (by decide +kernel)) rfl), ty_Pad_ok, nm_Pad, rfl, by decide +kernel, rfl⟩
theorem fp_Pad_15 : FP "MovedFolders$Pad" 15 4 1 .int false := ⟨R_Pad, T_Pad, 2, ty_Pad, rfl, by decide, wt_Pad, (Tw_in (List.mem_of_getElem? (i := 100) (by decide +kernel)) rfl), ty_Pad_ok, nm_Pad, rfl, by decide +kernel, rfl⟩
theorem fl_Pad_15 : FL "MovedFolders$Pad" 15 4 1 := ⟨R_Pad, T_Pad, 2, rfl, by decide, wt_Pad, (Tw_in (List.mem_of_getElem? (i := 100) (by decide +kernel)) rfl)⟩
theorem fl_Pad_9 : FL "MovedFolders$Pad" 9 4 0 := ⟨R_Pad, T_Pad, 2, rfl, by decide, wt_Pad, (Tw_in (List.mem_of_getElem? (i := 99) (by decide +kernel)) rfl)⟩
set_option maxRecDepth 100000 in
theorem cb_Pad_signAt : CLb y_Pad_signAt b_Pad_signAt 2 (some .int) 1 := ⟨(List.mem_of_getElem? (i := 322) rfl), (Tw_in (List.mem_of_getElem? (i := 72) (by decide +kernel)) rfl), by decide, by decide, by decide +kernel⟩
theorem cv_Pad_19 : CV "MovedFolders$Pad" 19 4 y_Pad_signAt b_Pad_signAt 2 (some .int) 1 := ⟨cb_Pad_signAt, (Tw_in (List.mem_of_getElem? (i := 319) (by decide +kernel)) rfl), (Tw_in (List.mem_of_getElem? (i := 321) (by decide +kernel)) rfl), (Tw_in (List.mem_of_getElem? (i := 2) (by decide +kernel)) rfl), rfl⟩
set_option maxRecDepth 100000 in
theorem cb_Pad_runOf : CLb y_Pad_runOf b_Pad_runOf 8 (some .int) 4 := ⟨(List.mem_of_getElem? (i := 318) rfl), (Tw_in (List.mem_of_getElem? (i := 72) (by decide +kernel)) rfl), by decide, by decide, by decide +kernel⟩
theorem cv_Pad_23 : CV "MovedFolders$Pad" 23 4 y_Pad_runOf b_Pad_runOf 8 (some .int) 4 := ⟨cb_Pad_runOf, (Tw_in (List.mem_of_getElem? (i := 315) (by decide +kernel)) rfl), (Tw_in (List.mem_of_getElem? (i := 317) (by decide +kernel)) rfl), (Tw_in (List.mem_of_getElem? (i := 1) (by decide +kernel)) rfl), rfl⟩
set_option maxRecDepth 100000 in
theorem cb_Pad_letters : CLb y_Pad_letters b_Pad_letters 1 (some .int) 0 := ⟨(List.mem_of_getElem? (i := 314) rfl), (Tw_in (List.mem_of_getElem? (i := 72) (by decide +kernel)) rfl), by decide, by decide, by decide +kernel⟩
theorem cv_Pad_27 : CV "MovedFolders$Pad" 27 4 y_Pad_letters b_Pad_letters 1 (some .int) 0 := ⟨cb_Pad_letters, (Tw_in (List.mem_of_getElem? (i := 311) (by decide +kernel)) rfl), (Tw_in (List.mem_of_getElem? (i := 313) (by decide +kernel)) rfl), (Tw_in (List.mem_of_getElem? (i := 0) (by decide +kernel)) rfl), rfl⟩
set_option maxRecDepth 100000 in
theorem cb_Pad_figures : CLb y_Pad_figures b_Pad_figures 1 (some .int) 0 := ⟨(List.mem_of_getElem? (i := 326) rfl), (Tw_in (List.mem_of_getElem? (i := 72) (by decide +kernel)) rfl), by decide, by decide, by decide +kernel⟩
theorem cv_Pad_31 : CV "MovedFolders$Pad" 31 4 y_Pad_figures b_Pad_figures 1 (some .int) 0 := ⟨cb_Pad_figures, (Tw_in (List.mem_of_getElem? (i := 323) (by decide +kernel)) rfl), (Tw_in (List.mem_of_getElem? (i := 325) (by decide +kernel)) rfl), (Tw_in (List.mem_of_getElem? (i := 3) (by decide +kernel)) rfl), rfl⟩
theorem cs_Pad_34 : CS "MovedFolders$Pad" 34 y_Letters_shift b_Letters_shift 5 (some .int) 3 := ⟨cb_Letters_shift, (Tw_in (List.mem_of_getElem? (i := 345) (by decide +kernel)) rfl), (Tw_in (List.mem_of_getElem? (i := 346) (by decide +kernel)) rfl)⟩
set_option maxRecDepth 100000 in
theorem oi_Pairs_3 : OI "MovedFolders$Pairs" 3 := ⟨(Tw_in (List.mem_of_getElem? (i := 160) (by decide +kernel)) rfl), (Tw_in (List.mem_of_getElem? (i := 91) (by decide +kernel)) rfl), (Tw_in (List.mem_of_getElem? (i := 92) rfl) rfl)⟩
theorem fp_Pairs_9 : FP "MovedFolders$Pairs" 9 5 0 (.array .int) true := ⟨R_Pairs, T_Pairs, 4, ty_Pairs, rfl, by decide, wt_Pairs, (Tw_in (List.mem_of_getElem? (i := 161) (by decide +kernel)) rfl), ty_Pairs_ok, nm_Pairs, rfl, by decide +kernel, rfl⟩
theorem fp_Pairs_15 : FP "MovedFolders$Pairs" 15 5 1 (.array .int) true := ⟨R_Pairs, T_Pairs, 4, ty_Pairs, rfl, by decide, wt_Pairs, (Tw_in (List.mem_of_getElem? (i := 162) (by decide +kernel)) rfl), ty_Pairs_ok, nm_Pairs, rfl, by decide +kernel, rfl⟩
theorem fp_Pairs_18 : FP "MovedFolders$Pairs" 18 5 2 (.array .int) true := ⟨R_Pairs, T_Pairs, 4, ty_Pairs, rfl, by decide, wt_Pairs, (Tw_in (List.mem_of_getElem? (i := 163) (by decide +kernel)) rfl), ty_Pairs_ok, nm_Pairs, rfl, by decide +kernel, rfl⟩
theorem fp_Pairs_21 : FP "MovedFolders$Pairs" 21 5 3 (.array .int) true := ⟨R_Pairs, T_Pairs, 4, ty_Pairs, rfl, by decide, wt_Pairs, (Tw_in (List.mem_of_getElem? (i := 164) (by decide +kernel)) rfl), ty_Pairs_ok, nm_Pairs, rfl, by decide +kernel, rfl⟩
theorem fl_Pairs_15 : FL "MovedFolders$Pairs" 15 5 1 := ⟨R_Pairs, T_Pairs, 4, rfl, by decide, wt_Pairs, (Tw_in (List.mem_of_getElem? (i := 162) (by decide +kernel)) rfl)⟩
theorem cv_Pairs_34 : CV "MovedFolders$Pairs" 34 5 y_Pairs_sourceOf b_Pairs_sourceOf 2 (some .int) 1 := ⟨cb_Pairs_sourceOf, (Tw_in (List.mem_of_getElem? (i := 751) (by decide +kernel)) rfl), (Tw_in (List.mem_of_getElem? (i := 619) (by decide +kernel)) rfl), (Tw_in (List.mem_of_getElem? (i := 620) (by decide +kernel)) rfl), rfl⟩
theorem cv_Pairs_51 : CV "MovedFolders$Pairs" 51 7 y_Tree_pathAt b_Tree_pathAt 2 (some .int) 1 := ⟨cb_Tree_pathAt, (Tw_in (List.mem_of_getElem? (i := 449) (by decide +kernel)) rfl), (Tw_in (List.mem_of_getElem? (i := 390) (by decide +kernel)) rfl), (Tw_in (List.mem_of_getElem? (i := 391) (by decide +kernel)) rfl), rfl⟩
theorem cv_Pairs_54 : CV "MovedFolders$Pairs" 54 7 y_Tree_find b_Tree_find 3 (some .int) 1 := ⟨cb_Tree_find, (Tw_in (List.mem_of_getElem? (i := 450) (by decide +kernel)) rfl), (Tw_in (List.mem_of_getElem? (i := 357) (by decide +kernel)) rfl), (Tw_in (List.mem_of_getElem? (i := 358) (by decide +kernel)) rfl), rfl⟩
set_option maxRecDepth 100000 in
theorem cb_Pairs_join : CLb y_Pairs_join b_Pairs_join 4 none 3 := ⟨(List.mem_of_getElem? (i := 454) rfl), (Tw_in (List.mem_of_getElem? (i := 76) (by decide +kernel)) rfl), by decide, by decide, by decide +kernel⟩
theorem cv_Pairs_57 : CV "MovedFolders$Pairs" 57 5 y_Pairs_join b_Pairs_join 4 none 3 := ⟨cb_Pairs_join, (Tw_in (List.mem_of_getElem? (i := 451) (by decide +kernel)) rfl), (Tw_in (List.mem_of_getElem? (i := 453) (by decide +kernel)) rfl), (Tw_in (List.mem_of_getElem? (i := 9) (by decide +kernel)) rfl), rfl⟩
theorem kl_Pieces_29 : Cond.constantLong "MovedFolders$Pieces" 29 15 ∈ Tw := (Tw_in (List.mem_of_getElem? (i := 428) (by decide +kernel)) rfl)
set_option maxRecDepth 100000 in
theorem cb_Ma_minL : CLb y_Ma_minL b_Ma_minL 4 (some .long) 2 := ⟨(List.mem_of_getElem? (i := 431) rfl), (Tw_in (List.mem_of_getElem? (i := 83) (by decide +kernel)) rfl), by decide, by decide, by decide +kernel⟩
theorem cs_Pieces_31 : CS "MovedFolders$Pieces" 31 y_Ma_minL b_Ma_minL 4 (some .long) 2 := ⟨cb_Ma_minL, (Tw_in (List.mem_of_getElem? (i := 429) (by decide +kernel)) rfl), (Tw_in (List.mem_of_getElem? (i := 430) (by decide +kernel)) rfl)⟩
theorem cs_Pieces_9 : CS "MovedFolders$Pieces" 9 y_Pieces_countOf b_Pieces_countOf 4 (some .int) 1 := ⟨cb_Pieces_countOf, (Tw_in (List.mem_of_getElem? (i := 416) (by decide +kernel)) rfl), (Tw_in (List.mem_of_getElem? (i := 417) (by decide +kernel)) rfl)⟩
set_option maxRecDepth 100000 in
theorem cb_Ma_max : CLb y_Ma_max b_Ma_max 2 (some .int) 2 := ⟨(List.mem_of_getElem? (i := 421) rfl), (Tw_in (List.mem_of_getElem? (i := 83) (by decide +kernel)) rfl), by decide, by decide, by decide +kernel⟩
theorem cs_Pieces_15 : CS "MovedFolders$Pieces" 15 y_Ma_max b_Ma_max 2 (some .int) 2 := ⟨cb_Ma_max, (Tw_in (List.mem_of_getElem? (i := 419) (by decide +kernel)) rfl), (Tw_in (List.mem_of_getElem? (i := 420) (by decide +kernel)) rfl)⟩
set_option maxRecDepth 100000 in
theorem cb_Pieces_tally : CLb y_Pieces_tally b_Pieces_tally 5 (some .long) 1 := ⟨(List.mem_of_getElem? (i := 424) rfl), (Tw_in (List.mem_of_getElem? (i := 82) (by decide +kernel)) rfl), by decide, by decide, by decide +kernel⟩
theorem cs_Pieces_21 : CS "MovedFolders$Pieces" 21 y_Pieces_tally b_Pieces_tally 5 (some .long) 1 := ⟨cb_Pieces_tally, (Tw_in (List.mem_of_getElem? (i := 422) (by decide +kernel)) rfl), (Tw_in (List.mem_of_getElem? (i := 423) (by decide +kernel)) rfl)⟩
set_option maxRecDepth 100000 in
theorem cb_Pieces_shared : CLb y_Pieces_shared b_Pieces_shared 10 (some .int) 2 := ⟨(List.mem_of_getElem? (i := 427) rfl), (Tw_in (List.mem_of_getElem? (i := 82) (by decide +kernel)) rfl), by decide, by decide, by decide +kernel⟩
theorem cs_Pieces_25 : CS "MovedFolders$Pieces" 25 y_Pieces_shared b_Pieces_shared 10 (some .int) 2 := ⟨cb_Pieces_shared, (Tw_in (List.mem_of_getElem? (i := 425) (by decide +kernel)) rfl), (Tw_in (List.mem_of_getElem? (i := 426) (by decide +kernel)) rfl)⟩
set_option maxRecDepth 100000 in
theorem cb_Pieces_likeness : CLb y_Pieces_likeness b_Pieces_likeness 3 (some .int) 2 := ⟨(List.mem_of_getElem? (i := 415) rfl), (Tw_in (List.mem_of_getElem? (i := 82) (by decide +kernel)) rfl), by decide, by decide, by decide +kernel⟩
theorem cs_Pairs_71 : CS "MovedFolders$Pairs" 71 y_Pieces_likeness b_Pieces_likeness 3 (some .int) 2 := ⟨cb_Pieces_likeness, (Tw_in (List.mem_of_getElem? (i := 463) (by decide +kernel)) rfl), (Tw_in (List.mem_of_getElem? (i := 414) (by decide +kernel)) rfl)⟩
theorem cs_Tree_32 : CS "MovedFolders$Tree" 32 y_Letters_nameOf b_Letters_nameOf 1 (some .int) 1 := ⟨cb_Letters_nameOf, (Tw_in (List.mem_of_getElem? (i := 468) (by decide +kernel)) rfl), (Tw_in (List.mem_of_getElem? (i := 469) (by decide +kernel)) rfl)⟩
theorem cv_Pairs_61 : CV "MovedFolders$Pairs" 61 7 y_Tree_contentAt b_Tree_contentAt 2 (some .int) 1 := ⟨cb_Tree_contentAt, (Tw_in (List.mem_of_getElem? (i := 459) (by decide +kernel)) rfl), (Tw_in (List.mem_of_getElem? (i := 394) (by decide +kernel)) rfl), (Tw_in (List.mem_of_getElem? (i := 395) (by decide +kernel)) rfl), rfl⟩
set_option maxRecDepth 100000 in
theorem cb_Pairs_rankOf : CLb y_Pairs_rankOf b_Pairs_rankOf 4 (some .int) 3 := ⟨(List.mem_of_getElem? (i := 462) rfl), (Tw_in (List.mem_of_getElem? (i := 76) (by decide +kernel)) rfl), by decide, by decide, by decide +kernel⟩
theorem cs_Pairs_64 : CS "MovedFolders$Pairs" 64 y_Pairs_rankOf b_Pairs_rankOf 4 (some .int) 3 := ⟨cb_Pairs_rankOf, (Tw_in (List.mem_of_getElem? (i := 460) (by decide +kernel)) rfl), (Tw_in (List.mem_of_getElem? (i := 461) (by decide +kernel)) rfl)⟩
set_option maxRecDepth 100000 in
theorem cb_Tree_nameAt : CLb y_Tree_nameAt b_Tree_nameAt 2 (some .int) 1 := ⟨(List.mem_of_getElem? (i := 467) rfl), (Tw_in (List.mem_of_getElem? (i := 74) (by decide +kernel)) rfl), by decide, by decide, by decide +kernel⟩
theorem cv_Pairs_68 : CV "MovedFolders$Pairs" 68 7 y_Tree_nameAt b_Tree_nameAt 2 (some .int) 1 := ⟨cb_Tree_nameAt, (Tw_in (List.mem_of_getElem? (i := 464) (by decide +kernel)) rfl), (Tw_in (List.mem_of_getElem? (i := 465) (by decide +kernel)) rfl), (Tw_in (List.mem_of_getElem? (i := 466) (by decide +kernel)) rfl), rfl⟩
theorem fl_Pairs_21 : FL "MovedFolders$Pairs" 21 5 3 := ⟨R_Pairs, T_Pairs, 4, rfl, by decide, wt_Pairs, (Tw_in (List.mem_of_getElem? (i := 164) (by decide +kernel)) rfl)⟩
set_option maxRecDepth 100000 in
theorem cb_Pairs_joinStayed : CLb y_Pairs_joinStayed b_Pairs_joinStayed 5 none 2 := ⟨(List.mem_of_getElem? (i := 447) rfl), (Tw_in (List.mem_of_getElem? (i := 76) (by decide +kernel)) rfl), by decide, by decide, by decide +kernel⟩
theorem cv_Pairs_40 : CV "MovedFolders$Pairs" 40 5 y_Pairs_joinStayed b_Pairs_joinStayed 5 none 2 := ⟨cb_Pairs_joinStayed, (Tw_in (List.mem_of_getElem? (i := 444) (by decide +kernel)) rfl), (Tw_in (List.mem_of_getElem? (i := 446) (by decide +kernel)) rfl), (Tw_in (List.mem_of_getElem? (i := 8) (by decide +kernel)) rfl), rfl⟩
set_option maxRecDepth 100000 in
theorem cb_Pairs_rankOthers : CLb y_Pairs_rankOthers b_Pairs_rankOthers 8 none 3 := ⟨(List.mem_of_getElem? (i := 458) rfl), (Tw_in (List.mem_of_getElem? (i := 76) (by decide +kernel)) rfl), by decide, by decide, by decide +kernel⟩
theorem cv_Pairs_44 : CV "MovedFolders$Pairs" 44 5 y_Pairs_rankOthers b_Pairs_rankOthers 8 none 3 := ⟨cb_Pairs_rankOthers, (Tw_in (List.mem_of_getElem? (i := 455) (by decide +kernel)) rfl), (Tw_in (List.mem_of_getElem? (i := 457) (by decide +kernel)) rfl), (Tw_in (List.mem_of_getElem? (i := 10) (by decide +kernel)) rfl), rfl⟩
set_option maxRecDepth 100000 in
theorem cb_Pairs_joinBest : CLb y_Pairs_joinBest b_Pairs_joinBest 9 none 2 := ⟨(List.mem_of_getElem? (i := 474) rfl), (Tw_in (List.mem_of_getElem? (i := 76) (by decide +kernel)) rfl), by decide, by decide, by decide +kernel⟩
theorem cv_Pairs_48 : CV "MovedFolders$Pairs" 48 5 y_Pairs_joinBest b_Pairs_joinBest 9 none 2 := ⟨cb_Pairs_joinBest, (Tw_in (List.mem_of_getElem? (i := 471) (by decide +kernel)) rfl), (Tw_in (List.mem_of_getElem? (i := 473) (by decide +kernel)) rfl), (Tw_in (List.mem_of_getElem? (i := 11) (by decide +kernel)) rfl), rfl⟩
set_option maxRecDepth 100000 in
theorem oi_Side_1 : OI "MovedFolders$Side" 1 := ⟨(Tw_in (List.mem_of_getElem? (i := 154) (by decide +kernel)) rfl), (Tw_in (List.mem_of_getElem? (i := 91) (by decide +kernel)) rfl), (Tw_in (List.mem_of_getElem? (i := 92) rfl) rfl)⟩
theorem nw_Side_7 : NW "MovedFolders$Side" 7 5 [.null, .null, .null, .null] 4 := ⟨R_Pairs, T_Pairs, ty_Pairs, rfl, wt_Pairs, ty_Pairs_ok, (Tw_in (List.mem_of_getElem? (i := 155) (by decide +kernel)) rfl), (Tw_in (List.mem_of_getElem? (i := 156) (by decide +kernel)) rfl), (Tw_in (List.mem_of_getElem? (i := 76) (by decide +kernel)) rfl), by decide +kernel, fun _ => rfl⟩
set_option maxRecDepth 100000 in
theorem cb_Pairs_init : CLb y_Pairs_init b_Pairs_init 1 none 0 := ⟨(List.mem_of_getElem? (i := 159) rfl), (Tw_in (List.mem_of_getElem? (i := 76) (by decide +kernel)) rfl), by decide, by decide, by decide +kernel⟩
theorem cn_Side_9 : CN "MovedFolders$Side" 9 y_Pairs_init b_Pairs_init 1 0 "MovedFolders" := ⟨cb_Pairs_init, List.mem_filter.mpr ⟨(List.mem_of_getElem? (i := 157) (by decide +kernel)), rfl⟩, (Tw_in (List.mem_of_getElem? (i := 158) (by decide +kernel)) rfl), rfl⟩
theorem fp_Side_10 : FP "MovedFolders$Side" 10 6 0 (.object "MovedFolders$Pairs") true := ⟨R_Side, T_Side, 2, ty_Side, rfl, by decide, wt_Side, (Tw_in (List.mem_of_getElem? (i := 194) (by decide +kernel)) rfl), ty_Side_ok, nm_Side, rfl, by decide +kernel, rfl⟩
theorem nw_Side_16 : NW "MovedFolders$Side" 16 3 [.null, .null, .null, .int 0] 4 := ⟨R_Moves, T_Moves, ty_Moves, rfl, wt_Moves, ty_Moves_ok, (Tw_in (List.mem_of_getElem? (i := 175) (by decide +kernel)) rfl), (Tw_in (List.mem_of_getElem? (i := 176) (by decide +kernel)) rfl), (Tw_in (List.mem_of_getElem? (i := 77) (by decide +kernel)) rfl), by decide +kernel, fun _ => rfl⟩
set_option maxRecDepth 100000 in
theorem cb_Moves_init : CLb y_Moves_init b_Moves_init 1 none 0 := ⟨(List.mem_of_getElem? (i := 179) rfl), (Tw_in (List.mem_of_getElem? (i := 77) (by decide +kernel)) rfl), by decide, by decide, by decide +kernel⟩
theorem cn_Side_18 : CN "MovedFolders$Side" 18 y_Moves_init b_Moves_init 1 0 "MovedFolders" := ⟨cb_Moves_init, List.mem_filter.mpr ⟨(List.mem_of_getElem? (i := 177) (by decide +kernel)), rfl⟩, (Tw_in (List.mem_of_getElem? (i := 178) (by decide +kernel)) rfl), rfl⟩
theorem fp_Side_19 : FP "MovedFolders$Side" 19 6 1 (.object "MovedFolders$Moves") true := ⟨R_Side, T_Side, 2, ty_Side, rfl, by decide, wt_Side, (Tw_in (List.mem_of_getElem? (i := 197) (by decide +kernel)) rfl), ty_Side_ok, nm_Side, rfl, by decide +kernel, rfl⟩
set_option maxRecDepth 100000 in
theorem oi_MF_3 : OI "MovedFolders" 3 := ⟨(Tw_in (List.mem_of_getElem? (i := 90) (by decide +kernel)) rfl), (Tw_in (List.mem_of_getElem? (i := 91) (by decide +kernel)) rfl), (Tw_in (List.mem_of_getElem? (i := 92) rfl) rfl)⟩
theorem nw_MF_9 : NW "MovedFolders" 9 4 [.null, .int 0] 2 := ⟨R_Pad, T_Pad, ty_Pad, rfl, wt_Pad, ty_Pad_ok, (Tw_in (List.mem_of_getElem? (i := 93) (by decide +kernel)) rfl), (Tw_in (List.mem_of_getElem? (i := 94) (by decide +kernel)) rfl), (Tw_in (List.mem_of_getElem? (i := 72) (by decide +kernel)) rfl), by decide +kernel, fun _ => rfl⟩
set_option maxRecDepth 100000 in
theorem cb_Pad_init : CLb y_Pad_init b_Pad_init 1 none 0 := ⟨(List.mem_of_getElem? (i := 97) rfl), (Tw_in (List.mem_of_getElem? (i := 72) (by decide +kernel)) rfl), by decide, by decide, by decide +kernel⟩
theorem cn_MF_11 : CN "MovedFolders" 11 y_Pad_init b_Pad_init 1 0 "MovedFolders" := ⟨cb_Pad_init, List.mem_filter.mpr ⟨(List.mem_of_getElem? (i := 95) (by decide +kernel)), rfl⟩, (Tw_in (List.mem_of_getElem? (i := 96) (by decide +kernel)) rfl), rfl⟩
theorem fp_MF_12 : FP "MovedFolders" 12 8 0 (.object "MovedFolders$Pad") true := ⟨R_MF, T_MF, 10, ty_MF, rfl, by decide, wt_MF, (Tw_in (List.mem_of_getElem? (i := 252) (by decide +kernel)) rfl), ty_MF_ok, nm_MF, rfl, by decide +kernel, rfl⟩
theorem nw_MF_16 : NW "MovedFolders" 16 0 [.null, .null, .null, .int 0] 4 := ⟨R_Held, T_Held, ty_Held, rfl, wt_Held, ty_Held_ok, (Tw_in (List.mem_of_getElem? (i := 107) (by decide +kernel)) rfl), (Tw_in (List.mem_of_getElem? (i := 108) (by decide +kernel)) rfl), (Tw_in (List.mem_of_getElem? (i := 73) (by decide +kernel)) rfl), by decide +kernel, fun _ => rfl⟩
set_option maxRecDepth 100000 in
theorem cb_Held_init : CLb y_Held_init b_Held_init 1 none 0 := ⟨(List.mem_of_getElem? (i := 111) rfl), (Tw_in (List.mem_of_getElem? (i := 73) (by decide +kernel)) rfl), by decide, by decide, by decide +kernel⟩
theorem cn_MF_18 : CN "MovedFolders" 18 y_Held_init b_Held_init 1 0 "MovedFolders" := ⟨cb_Held_init, List.mem_filter.mpr ⟨(List.mem_of_getElem? (i := 109) (by decide +kernel)), rfl⟩, (Tw_in (List.mem_of_getElem? (i := 110) (by decide +kernel)) rfl), rfl⟩
theorem fp_MF_19 : FP "MovedFolders" 19 8 1 (.object "MovedFolders$Held") true := ⟨R_MF, T_MF, 10, ty_MF, rfl, by decide, wt_MF, (Tw_in (List.mem_of_getElem? (i := 253) (by decide +kernel)) rfl), ty_MF_ok, nm_MF, rfl, by decide +kernel, rfl⟩
theorem fp_MF_23 : FP "MovedFolders" 23 8 2 (.object "MovedFolders$Held") true := ⟨R_MF, T_MF, 10, ty_MF, rfl, by decide, wt_MF, (Tw_in (List.mem_of_getElem? (i := 254) (by decide +kernel)) rfl), ty_MF_ok, nm_MF, rfl, by decide +kernel, rfl⟩
theorem fp_MF_26 : FP "MovedFolders" 26 8 3 (.object "MovedFolders$Held") true := ⟨R_MF, T_MF, 10, ty_MF, rfl, by decide, wt_MF, (Tw_in (List.mem_of_getElem? (i := 255) (by decide +kernel)) rfl), ty_MF_ok, nm_MF, rfl, by decide +kernel, rfl⟩
theorem fp_MF_29 : FP "MovedFolders" 29 8 4 (.array .boolean) true := ⟨R_MF, T_MF, 10, ty_MF, rfl, by decide, wt_MF, (Tw_in (List.mem_of_getElem? (i := 256) (by decide +kernel)) rfl), ty_MF_ok, nm_MF, rfl, by decide +kernel, rfl⟩
theorem nw_MF_33 : NW "MovedFolders" 33 6 [.null, .null] 2 := ⟨R_Side, T_Side, ty_Side, rfl, wt_Side, ty_Side_ok, (Tw_in (List.mem_of_getElem? (i := 149) (by decide +kernel)) rfl), (Tw_in (List.mem_of_getElem? (i := 150) (by decide +kernel)) rfl), (Tw_in (List.mem_of_getElem? (i := 75) (by decide +kernel)) rfl), by decide +kernel, fun _ => rfl⟩
set_option maxRecDepth 100000 in
theorem cb_Side_init : CLb y_Side_init b_Side_init 1 none 0 := ⟨(List.mem_of_getElem? (i := 153) rfl), (Tw_in (List.mem_of_getElem? (i := 75) (by decide +kernel)) rfl), by decide, by decide, by decide +kernel⟩
theorem cn_MF_35 : CN "MovedFolders" 35 y_Side_init b_Side_init 1 0 "MovedFolders" := ⟨cb_Side_init, List.mem_filter.mpr ⟨(List.mem_of_getElem? (i := 151) (by decide +kernel)), rfl⟩, (Tw_in (List.mem_of_getElem? (i := 152) (by decide +kernel)) rfl), rfl⟩
theorem fp_MF_36 : FP "MovedFolders" 36 8 5 (.object "MovedFolders$Side") true := ⟨R_MF, T_MF, 10, ty_MF, rfl, by decide, wt_MF, (Tw_in (List.mem_of_getElem? (i := 257) (by decide +kernel)) rfl), ty_MF_ok, nm_MF, rfl, by decide +kernel, rfl⟩
theorem fp_MF_40 : FP "MovedFolders" 40 8 6 (.object "MovedFolders$Side") true := ⟨R_MF, T_MF, 10, ty_MF, rfl, by decide, wt_MF, (Tw_in (List.mem_of_getElem? (i := 258) (by decide +kernel)) rfl), ty_MF_ok, nm_MF, rfl, by decide +kernel, rfl⟩
theorem nw_MF_43 : NW "MovedFolders" 43 1 [.null, .int 0] 2 := ⟨R_Loops, T_Loops, ty_Loops, rfl, wt_Loops, ty_Loops_ok, (Tw_in (List.mem_of_getElem? (i := 205) (by decide +kernel)) rfl), (Tw_in (List.mem_of_getElem? (i := 206) (by decide +kernel)) rfl), (Tw_in (List.mem_of_getElem? (i := 78) (by decide +kernel)) rfl), by decide +kernel, fun _ => rfl⟩
set_option maxRecDepth 100000 in
theorem cb_Loops_init : CLb y_Loops_init b_Loops_init 1 none 0 := ⟨(List.mem_of_getElem? (i := 209) rfl), (Tw_in (List.mem_of_getElem? (i := 78) (by decide +kernel)) rfl), by decide, by decide, by decide +kernel⟩
theorem cn_MF_45 : CN "MovedFolders" 45 y_Loops_init b_Loops_init 1 0 "MovedFolders" := ⟨cb_Loops_init, List.mem_filter.mpr ⟨(List.mem_of_getElem? (i := 207) (by decide +kernel)), rfl⟩, (Tw_in (List.mem_of_getElem? (i := 208) (by decide +kernel)) rfl), rfl⟩
theorem fp_MF_46 : FP "MovedFolders" 46 8 7 (.object "MovedFolders$Loops") true := ⟨R_MF, T_MF, 10, ty_MF, rfl, by decide, wt_MF, (Tw_in (List.mem_of_getElem? (i := 259) (by decide +kernel)) rfl), ty_MF_ok, nm_MF, rfl, by decide +kernel, rfl⟩
theorem nw_MF_50 : NW "MovedFolders" 50 2 [.null, .null, .null, .null, .int 0, .null, .null, .int 0, .null] 9 := ⟨R_Merge, T_Merge, ty_Merge, rfl, wt_Merge, ty_Merge_ok, (Tw_in (List.mem_of_getElem? (i := 218) (by decide +kernel)) rfl), (Tw_in (List.mem_of_getElem? (i := 219) (by decide +kernel)) rfl), (Tw_in (List.mem_of_getElem? (i := 79) (by decide +kernel)) rfl), by decide +kernel, fun _ => rfl⟩
set_option maxRecDepth 100000 in
theorem cb_Merge_init : CLb y_Merge_init b_Merge_init 1 none 0 := ⟨(List.mem_of_getElem? (i := 222) rfl), (Tw_in (List.mem_of_getElem? (i := 79) (by decide +kernel)) rfl), by decide, by decide, by decide +kernel⟩
theorem cn_MF_52 : CN "MovedFolders" 52 y_Merge_init b_Merge_init 1 0 "MovedFolders" := ⟨cb_Merge_init, List.mem_filter.mpr ⟨(List.mem_of_getElem? (i := 220) (by decide +kernel)), rfl⟩, (Tw_in (List.mem_of_getElem? (i := 221) (by decide +kernel)) rfl), rfl⟩
theorem fp_MF_53 : FP "MovedFolders" 53 8 8 (.object "MovedFolders$Merge") true := ⟨R_MF, T_MF, 10, ty_MF, rfl, by decide, wt_MF, (Tw_in (List.mem_of_getElem? (i := 260) (by decide +kernel)) rfl), ty_MF_ok, nm_MF, rfl, by decide +kernel, rfl⟩
theorem fp_MF_57 : FP "MovedFolders" 57 8 9 .boolean false := ⟨R_MF, T_MF, 10, ty_MF, rfl, by decide, wt_MF, (Tw_in (List.mem_of_getElem? (i := 261) (by decide +kernel)) rfl), ty_MF_ok, nm_MF, rfl, by decide +kernel, rfl⟩
theorem fl_MF_12 : FL "MovedFolders" 12 8 0 := ⟨R_MF, T_MF, 10, rfl, by decide, wt_MF, (Tw_in (List.mem_of_getElem? (i := 252) (by decide +kernel)) rfl)⟩
set_option maxRecDepth 100000 in
theorem cb_Pad_add : CLb y_Pad_add b_Pad_add 2 (some .boolean) 1 := ⟨(List.mem_of_getElem? (i := 290) rfl), (Tw_in (List.mem_of_getElem? (i := 72) (by decide +kernel)) rfl), by decide, by decide, by decide +kernel⟩
theorem cv_MF_61 : CV "MovedFolders" 61 4 y_Pad_add b_Pad_add 2 (some .boolean) 1 := ⟨cb_Pad_add, (Tw_in (List.mem_of_getElem? (i := 287) (by decide +kernel)) rfl), (Tw_in (List.mem_of_getElem? (i := 288) (by decide +kernel)) rfl), (Tw_in (List.mem_of_getElem? (i := 289) (by decide +kernel)) rfl), rfl⟩
set_option maxRecDepth 100000 in
theorem cb_Pad_size : CLb y_Pad_size b_Pad_size 1 (some .int) 0 := ⟨(List.mem_of_getElem? (i := 294) rfl), (Tw_in (List.mem_of_getElem? (i := 72) (by decide +kernel)) rfl), by decide, by decide, by decide +kernel⟩
theorem cv_MF_65 : CV "MovedFolders" 65 4 y_Pad_size b_Pad_size 1 (some .int) 0 := ⟨cb_Pad_size, (Tw_in (List.mem_of_getElem? (i := 291) (by decide +kernel)) rfl), (Tw_in (List.mem_of_getElem? (i := 292) (by decide +kernel)) rfl), (Tw_in (List.mem_of_getElem? (i := 293) (by decide +kernel)) rfl), rfl⟩
set_option maxRecDepth 100000 in
theorem cb_Pad_clear : CLb y_Pad_clear b_Pad_clear 1 none 0 := ⟨(List.mem_of_getElem? (i := 302) rfl), (Tw_in (List.mem_of_getElem? (i := 72) (by decide +kernel)) rfl), by decide, by decide, by decide +kernel⟩
theorem cv_MF_69 : CV "MovedFolders" 69 4 y_Pad_clear b_Pad_clear 1 none 0 := ⟨cb_Pad_clear, (Tw_in (List.mem_of_getElem? (i := 299) (by decide +kernel)) rfl), (Tw_in (List.mem_of_getElem? (i := 300) (by decide +kernel)) rfl), (Tw_in (List.mem_of_getElem? (i := 301) (by decide +kernel)) rfl), rfl⟩
set_option maxRecDepth 100000 in
theorem cb_Pad_firstWrong : CLb y_Pad_firstWrong b_Pad_firstWrong 3 (some .int) 0 := ⟨(List.mem_of_getElem? (i := 310) rfl), (Tw_in (List.mem_of_getElem? (i := 72) (by decide +kernel)) rfl), by decide, by decide, by decide +kernel⟩
theorem cv_MF_72 : CV "MovedFolders" 72 4 y_Pad_firstWrong b_Pad_firstWrong 3 (some .int) 0 := ⟨cb_Pad_firstWrong, (Tw_in (List.mem_of_getElem? (i := 307) (by decide +kernel)) rfl), (Tw_in (List.mem_of_getElem? (i := 308) (by decide +kernel)) rfl), (Tw_in (List.mem_of_getElem? (i := 309) (by decide +kernel)) rfl), rfl⟩
set_option maxRecDepth 100000 in
theorem cb_MF_isSide : CLb y_MF_isSide b_MF_isSide 1 (some .boolean) 1 := ⟨(List.mem_of_getElem? (i := 336) rfl), (Tw_in (List.mem_of_getElem? (i := 71) (by decide +kernel)) rfl), by decide, by decide, by decide +kernel⟩
theorem cs_MF_109 : CS "MovedFolders" 109 y_MF_isSide b_MF_isSide 1 (some .boolean) 1 := ⟨cb_MF_isSide, (Tw_in (List.mem_of_getElem? (i := 334) (by decide +kernel)) rfl), (Tw_in (List.mem_of_getElem? (i := 335) (by decide +kernel)) rfl)⟩
theorem fl_MF_19 : FL "MovedFolders" 19 8 1 := ⟨R_MF, T_MF, 10, rfl, by decide, wt_MF, (Tw_in (List.mem_of_getElem? (i := 253) (by decide +kernel)) rfl)⟩
theorem fl_MF_192 : FL "MovedFolders" 192 0 2 := ⟨R_Held, T_Held, 4, rfl, by decide, wt_Held, (Tw_in (List.mem_of_getElem? (i := 137) (by decide +kernel)) rfl)⟩
theorem fl_MF_189 : FL "MovedFolders" 189 0 1 := ⟨R_Held, T_Held, 4, rfl, by decide, wt_Held, (Tw_in (List.mem_of_getElem? (i := 134) (by decide +kernel)) rfl)⟩
theorem fl_MF_112 : FL "MovedFolders" 112 0 0 := ⟨R_Held, T_Held, 4, rfl, by decide, wt_Held, (Tw_in (List.mem_of_getElem? (i := 131) (by decide +kernel)) rfl)⟩
set_option maxRecDepth 100000 in
theorem cb_MF_isTree : CLb y_MF_isTree b_MF_isTree 1 (some .boolean) 1 := ⟨(List.mem_of_getElem? (i := 333) rfl), (Tw_in (List.mem_of_getElem? (i := 71) (by decide +kernel)) rfl), by decide, by decide, by decide +kernel⟩
theorem cs_MF_75 : CS "MovedFolders" 75 y_MF_isTree b_MF_isTree 1 (some .boolean) 1 := ⟨cb_MF_isTree, (Tw_in (List.mem_of_getElem? (i := 331) (by decide +kernel)) rfl), (Tw_in (List.mem_of_getElem? (i := 332) (by decide +kernel)) rfl)⟩
set_option maxRecDepth 100000 in
theorem cb_MF_treeOf : CLb y_MF_treeOf b_MF_treeOf 2 (some (.object "MovedFolders$Tree")) 1 := ⟨(List.mem_of_getElem? (i := 340) rfl), (Tw_in (List.mem_of_getElem? (i := 71) (by decide +kernel)) rfl), by decide, by decide, by decide +kernel⟩
theorem cv_MF_78 : CV "MovedFolders" 78 8 y_MF_treeOf b_MF_treeOf 2 (some (.object "MovedFolders$Tree")) 1 := ⟨cb_MF_treeOf, (Tw_in (List.mem_of_getElem? (i := 337) (by decide +kernel)) rfl), (Tw_in (List.mem_of_getElem? (i := 339) (by decide +kernel)) rfl), (Tw_in (List.mem_of_getElem? (i := 4) (by decide +kernel)) rfl), rfl⟩
set_option maxRecDepth 100000 in
theorem cb_Pad_readPath : CLb y_Pad_readPath b_Pad_readPath 4 (some .int) 0 := ⟨(List.mem_of_getElem? (i := 344) rfl), (Tw_in (List.mem_of_getElem? (i := 72) (by decide +kernel)) rfl), by decide, by decide, by decide +kernel⟩
theorem cv_MF_82 : CV "MovedFolders" 82 4 y_Pad_readPath b_Pad_readPath 4 (some .int) 0 := ⟨cb_Pad_readPath, (Tw_in (List.mem_of_getElem? (i := 341) (by decide +kernel)) rfl), (Tw_in (List.mem_of_getElem? (i := 342) (by decide +kernel)) rfl), (Tw_in (List.mem_of_getElem? (i := 343) (by decide +kernel)) rfl), rfl⟩
set_option maxRecDepth 100000 in
theorem cb_Pad_readContent : CLb y_Pad_readContent b_Pad_readContent 5 (some .int) 0 := ⟨(List.mem_of_getElem? (i := 351) rfl), (Tw_in (List.mem_of_getElem? (i := 72) (by decide +kernel)) rfl), by decide, by decide, by decide +kernel⟩
theorem cv_MF_85 : CV "MovedFolders" 85 4 y_Pad_readContent b_Pad_readContent 5 (some .int) 0 := ⟨cb_Pad_readContent, (Tw_in (List.mem_of_getElem? (i := 348) (by decide +kernel)) rfl), (Tw_in (List.mem_of_getElem? (i := 349) (by decide +kernel)) rfl), (Tw_in (List.mem_of_getElem? (i := 350) (by decide +kernel)) rfl), rfl⟩
theorem cv_MF_88 : CV "MovedFolders" 88 7 y_Tree_lay b_Tree_lay 4 (some .boolean) 2 := ⟨cb_Tree_lay, (Tw_in (List.mem_of_getElem? (i := 352) (by decide +kernel)) rfl), (Tw_in (List.mem_of_getElem? (i := 353) (by decide +kernel)) rfl), (Tw_in (List.mem_of_getElem? (i := 354) (by decide +kernel)) rfl), rfl⟩
theorem cv_MF_94 : CV "MovedFolders" 94 7 y_Tree_size b_Tree_size 1 (some .int) 0 := ⟨cb_Tree_size, (Tw_in (List.mem_of_getElem? (i := 364) (by decide +kernel)) rfl), (Tw_in (List.mem_of_getElem? (i := 365) (by decide +kernel)) rfl), (Tw_in (List.mem_of_getElem? (i := 366) (by decide +kernel)) rfl), rfl⟩
theorem cv_MF_210 : CV "MovedFolders" 210 7 y_Tree_has b_Tree_has 2 (some .boolean) 1 := ⟨cb_Tree_has, (Tw_in (List.mem_of_getElem? (i := 376) (by decide +kernel)) rfl), (Tw_in (List.mem_of_getElem? (i := 377) (by decide +kernel)) rfl), (Tw_in (List.mem_of_getElem? (i := 378) (by decide +kernel)) rfl), rfl⟩
set_option maxRecDepth 100000 in
theorem cb_MF_isFile : CLb y_MF_isFile b_MF_isFile 3 (some .boolean) 2 := ⟨(List.mem_of_getElem? (i := 375) rfl), (Tw_in (List.mem_of_getElem? (i := 71) (by decide +kernel)) rfl), by decide, by decide, by decide +kernel⟩
theorem cv_MF_95 : CV "MovedFolders" 95 8 y_MF_isFile b_MF_isFile 3 (some .boolean) 2 := ⟨cb_MF_isFile, (Tw_in (List.mem_of_getElem? (i := 372) (by decide +kernel)) rfl), (Tw_in (List.mem_of_getElem? (i := 374) (by decide +kernel)) rfl), (Tw_in (List.mem_of_getElem? (i := 6) (by decide +kernel)) rfl), rfl⟩
set_option maxRecDepth 100000 in
theorem cb_Tree_remove : CLb y_Tree_remove b_Tree_remove 3 none 1 := ⟨(List.mem_of_getElem? (i := 383) rfl), (Tw_in (List.mem_of_getElem? (i := 74) (by decide +kernel)) rfl), by decide, by decide, by decide +kernel⟩
theorem cv_MF_98 : CV "MovedFolders" 98 7 y_Tree_remove b_Tree_remove 3 none 1 := ⟨cb_Tree_remove, (Tw_in (List.mem_of_getElem? (i := 380) (by decide +kernel)) rfl), (Tw_in (List.mem_of_getElem? (i := 381) (by decide +kernel)) rfl), (Tw_in (List.mem_of_getElem? (i := 382) (by decide +kernel)) rfl), rfl⟩
theorem cv_MF_102 : CV "MovedFolders" 102 7 y_Tree_pathAt b_Tree_pathAt 2 (some .int) 1 := ⟨cb_Tree_pathAt, (Tw_in (List.mem_of_getElem? (i := 389) (by decide +kernel)) rfl), (Tw_in (List.mem_of_getElem? (i := 390) (by decide +kernel)) rfl), (Tw_in (List.mem_of_getElem? (i := 391) (by decide +kernel)) rfl), rfl⟩
theorem cv_MF_106 : CV "MovedFolders" 106 7 y_Tree_contentAt b_Tree_contentAt 2 (some .int) 1 := ⟨cb_Tree_contentAt, (Tw_in (List.mem_of_getElem? (i := 393) (by decide +kernel)) rfl), (Tw_in (List.mem_of_getElem? (i := 394) (by decide +kernel)) rfl), (Tw_in (List.mem_of_getElem? (i := 395) (by decide +kernel)) rfl), rfl⟩
theorem cv_MF_116 : CV "MovedFolders" 116 7 y_Tree_take b_Tree_take 3 none 1 := ⟨cb_Tree_take, (Tw_in (List.mem_of_getElem? (i := 401) (by decide +kernel)) rfl), (Tw_in (List.mem_of_getElem? (i := 402) (by decide +kernel)) rfl), (Tw_in (List.mem_of_getElem? (i := 403) (by decide +kernel)) rfl), rfl⟩
theorem fl_MF_120 : FL "MovedFolders" 120 0 3 := ⟨R_Held, T_Held, 4, rfl, by decide, wt_Held, (Tw_in (List.mem_of_getElem? (i := 139) (by decide +kernel)) rfl)⟩
theorem fp_MF_120 : FP "MovedFolders" 120 0 3 .int false := ⟨R_Held, T_Held, 4, ty_Held, rfl, by decide, wt_Held, (Tw_in (List.mem_of_getElem? (i := 139) (by decide +kernel)) rfl), ty_Held_ok, nm_Held, rfl, by decide +kernel, rfl⟩
theorem cs_MF_124 : CS "MovedFolders" 124 y_Pieces_likeness b_Pieces_likeness 3 (some .int) 2 := ⟨cb_Pieces_likeness, (Tw_in (List.mem_of_getElem? (i := 413) (by decide +kernel)) rfl), (Tw_in (List.mem_of_getElem? (i := 414) (by decide +kernel)) rfl)⟩
theorem fl_MF_57 : FL "MovedFolders" 57 8 9 := ⟨R_MF, T_MF, 10, rfl, by decide, wt_MF, (Tw_in (List.mem_of_getElem? (i := 261) (by decide +kernel)) rfl)⟩
theorem fl_MF_36 : FL "MovedFolders" 36 8 5 := ⟨R_MF, T_MF, 10, rfl, by decide, wt_MF, (Tw_in (List.mem_of_getElem? (i := 257) (by decide +kernel)) rfl)⟩
theorem fl_MF_137 : FL "MovedFolders" 137 6 0 := ⟨R_Side, T_Side, 2, rfl, by decide, wt_Side, (Tw_in (List.mem_of_getElem? (i := 196) (by decide +kernel)) rfl)⟩
set_option maxRecDepth 100000 in
theorem cb_Pairs_find : CLb y_Pairs_find b_Pairs_find 5 none 3 := ⟨(List.mem_of_getElem? (i := 443) rfl), (Tw_in (List.mem_of_getElem? (i := 76) (by decide +kernel)) rfl), by decide, by decide, by decide +kernel⟩
theorem cv_MF_213 : CV "MovedFolders" 213 5 y_Pairs_find b_Pairs_find 5 none 3 := ⟨cb_Pairs_find, (Tw_in (List.mem_of_getElem? (i := 440) (by decide +kernel)) rfl), (Tw_in (List.mem_of_getElem? (i := 441) (by decide +kernel)) rfl), (Tw_in (List.mem_of_getElem? (i := 442) (by decide +kernel)) rfl), rfl⟩
theorem fl_MF_40 : FL "MovedFolders" 40 8 6 := ⟨R_MF, T_MF, 10, rfl, by decide, wt_MF, (Tw_in (List.mem_of_getElem? (i := 258) (by decide +kernel)) rfl)⟩
theorem fl_MF_161 : FL "MovedFolders" 161 6 1 := ⟨R_Side, T_Side, 2, rfl, by decide, wt_Side, (Tw_in (List.mem_of_getElem? (i := 199) (by decide +kernel)) rfl)⟩
set_option maxRecDepth 100000 in
theorem cb_Moves_find : CLb y_Moves_find b_Moves_find 6 none 3 := ⟨(List.mem_of_getElem? (i := 478) rfl), (Tw_in (List.mem_of_getElem? (i := 77) (by decide +kernel)) rfl), by decide, by decide, by decide +kernel⟩
theorem cv_MF_217 : CV "MovedFolders" 217 3 y_Moves_find b_Moves_find 6 none 3 := ⟨cb_Moves_find, (Tw_in (List.mem_of_getElem? (i := 475) (by decide +kernel)) rfl), (Tw_in (List.mem_of_getElem? (i := 476) (by decide +kernel)) rfl), (Tw_in (List.mem_of_getElem? (i := 477) (by decide +kernel)) rfl), rfl⟩
theorem fl_MF_46 : FL "MovedFolders" 46 8 7 := ⟨R_MF, T_MF, 10, rfl, by decide, wt_MF, (Tw_in (List.mem_of_getElem? (i := 259) (by decide +kernel)) rfl)⟩
set_option maxRecDepth 100000 in
theorem cb_Loops_mark : CLb y_Loops_mark b_Loops_mark 3 none 2 := ⟨(List.mem_of_getElem? (i := 516) rfl), (Tw_in (List.mem_of_getElem? (i := 78) (by decide +kernel)) rfl), by decide, by decide, by decide +kernel⟩
theorem cv_MF_220 : CV "MovedFolders" 220 1 y_Loops_mark b_Loops_mark 3 none 2 := ⟨cb_Loops_mark, (Tw_in (List.mem_of_getElem? (i := 513) (by decide +kernel)) rfl), (Tw_in (List.mem_of_getElem? (i := 514) (by decide +kernel)) rfl), (Tw_in (List.mem_of_getElem? (i := 515) (by decide +kernel)) rfl), rfl⟩
theorem fl_MF_53 : FL "MovedFolders" 53 8 8 := ⟨R_MF, T_MF, 10, rfl, by decide, wt_MF, (Tw_in (List.mem_of_getElem? (i := 260) (by decide +kernel)) rfl)⟩
set_option maxRecDepth 100000 in
theorem cb_Merge_make : CLb y_Merge_make b_Merge_make 5 none 3 := ⟨(List.mem_of_getElem? (i := 557) rfl), (Tw_in (List.mem_of_getElem? (i := 79) (by decide +kernel)) rfl), by decide, by decide, by decide +kernel⟩
theorem cv_MF_224 : CV "MovedFolders" 224 2 y_Merge_make b_Merge_make 5 none 3 := ⟨cb_Merge_make, (Tw_in (List.mem_of_getElem? (i := 554) (by decide +kernel)) rfl), (Tw_in (List.mem_of_getElem? (i := 555) (by decide +kernel)) rfl), (Tw_in (List.mem_of_getElem? (i := 556) (by decide +kernel)) rfl), rfl⟩
set_option maxRecDepth 100000 in
theorem cb_MF_refresh : CLb y_MF_refresh b_MF_refresh 1 none 0 := ⟨(List.mem_of_getElem? (i := 439) rfl), (Tw_in (List.mem_of_getElem? (i := 71) (by decide +kernel)) rfl), by decide, by decide, by decide +kernel⟩
theorem cv_MF_130 : CV "MovedFolders" 130 8 y_MF_refresh b_MF_refresh 1 none 0 := ⟨cb_MF_refresh, (Tw_in (List.mem_of_getElem? (i := 436) (by decide +kernel)) rfl), (Tw_in (List.mem_of_getElem? (i := 438) (by decide +kernel)) rfl), (Tw_in (List.mem_of_getElem? (i := 7) (by decide +kernel)) rfl), rfl⟩
set_option maxRecDepth 100000 in
theorem cb_MF_sideOf : CLb y_MF_sideOf b_MF_sideOf 2 (some (.object "MovedFolders$Side")) 1 := ⟨(List.mem_of_getElem? (i := 648) rfl), (Tw_in (List.mem_of_getElem? (i := 71) (by decide +kernel)) rfl), by decide, by decide, by decide +kernel⟩
theorem cv_MF_133 : CV "MovedFolders" 133 8 y_MF_sideOf b_MF_sideOf 2 (some (.object "MovedFolders$Side")) 1 := ⟨cb_MF_sideOf, (Tw_in (List.mem_of_getElem? (i := 645) (by decide +kernel)) rfl), (Tw_in (List.mem_of_getElem? (i := 647) (by decide +kernel)) rfl), (Tw_in (List.mem_of_getElem? (i := 27) (by decide +kernel)) rfl), rfl⟩
theorem cv_MF_141 : CV "MovedFolders" 141 5 y_Pairs_mateOf b_Pairs_mateOf 2 (some .int) 1 := ⟨cb_Pairs_mateOf, (Tw_in (List.mem_of_getElem? (i := 649) (by decide +kernel)) rfl), (Tw_in (List.mem_of_getElem? (i := 500) (by decide +kernel)) rfl), (Tw_in (List.mem_of_getElem? (i := 501) (by decide +kernel)) rfl), rfl⟩
set_option maxRecDepth 100000 in
theorem cb_Pairs_wayOf : CLb y_Pairs_wayOf b_Pairs_wayOf 2 (some .int) 1 := ⟨(List.mem_of_getElem? (i := 653) rfl), (Tw_in (List.mem_of_getElem? (i := 76) (by decide +kernel)) rfl), by decide, by decide, by decide +kernel⟩
theorem cv_MF_146 : CV "MovedFolders" 146 5 y_Pairs_wayOf b_Pairs_wayOf 2 (some .int) 1 := ⟨cb_Pairs_wayOf, (Tw_in (List.mem_of_getElem? (i := 650) (by decide +kernel)) rfl), (Tw_in (List.mem_of_getElem? (i := 651) (by decide +kernel)) rfl), (Tw_in (List.mem_of_getElem? (i := 652) (by decide +kernel)) rfl), rfl⟩
theorem cv_MF_149 : CV "MovedFolders" 149 5 y_Pairs_sourceOf b_Pairs_sourceOf 2 (some .int) 1 := ⟨cb_Pairs_sourceOf, (Tw_in (List.mem_of_getElem? (i := 658) (by decide +kernel)) rfl), (Tw_in (List.mem_of_getElem? (i := 619) (by decide +kernel)) rfl), (Tw_in (List.mem_of_getElem? (i := 620) (by decide +kernel)) rfl), rfl⟩
set_option maxRecDepth 100000 in
theorem cb_Letters_isFolder : CLb y_Letters_isFolder b_Letters_isFolder 4 (some .boolean) 1 := ⟨(List.mem_of_getElem? (i := 665) rfl), (Tw_in (List.mem_of_getElem? (i := 81) (by decide +kernel)) rfl), by decide, by decide, by decide +kernel⟩
theorem cs_MF_152 : CS "MovedFolders" 152 y_Letters_isFolder b_Letters_isFolder 4 (some .boolean) 1 := ⟨cb_Letters_isFolder, (Tw_in (List.mem_of_getElem? (i := 663) (by decide +kernel)) rfl), (Tw_in (List.mem_of_getElem? (i := 664) (by decide +kernel)) rfl)⟩
theorem cv_MF_157 : CV "MovedFolders" 157 5 y_Pairs_countWent b_Pairs_countWent 8 (some .int) 4 := ⟨cb_Pairs_countWent, (Tw_in (List.mem_of_getElem? (i := 666) (by decide +kernel)) rfl), (Tw_in (List.mem_of_getElem? (i := 504) (by decide +kernel)) rfl), (Tw_in (List.mem_of_getElem? (i := 505) (by decide +kernel)) rfl), rfl⟩
theorem cv_MF_165 : CV "MovedFolders" 165 3 y_Moves_targetOf b_Moves_targetOf 2 (some .int) 1 := ⟨cb_Moves_targetOf, (Tw_in (List.mem_of_getElem? (i := 671) (by decide +kernel)) rfl), (Tw_in (List.mem_of_getElem? (i := 542) (by decide +kernel)) rfl), (Tw_in (List.mem_of_getElem? (i := 543) (by decide +kernel)) rfl), rfl⟩
set_option maxRecDepth 100000 in
theorem cb_Moves_goesRound : CLb y_Moves_goesRound b_Moves_goesRound 3 (some .boolean) 1 := ⟨(List.mem_of_getElem? (i := 675) rfl), (Tw_in (List.mem_of_getElem? (i := 77) (by decide +kernel)) rfl), by decide, by decide, by decide +kernel⟩
theorem cv_MF_170 : CV "MovedFolders" 170 3 y_Moves_goesRound b_Moves_goesRound 3 (some .boolean) 1 := ⟨cb_Moves_goesRound, (Tw_in (List.mem_of_getElem? (i := 672) (by decide +kernel)) rfl), (Tw_in (List.mem_of_getElem? (i := 673) (by decide +kernel)) rfl), (Tw_in (List.mem_of_getElem? (i := 674) (by decide +kernel)) rfl), rfl⟩
theorem cv_MF_173 : CV "MovedFolders" 173 3 y_Moves_follow b_Moves_follow 8 (some .int) 1 := ⟨cb_Moves_follow, (Tw_in (List.mem_of_getElem? (i := 680) (by decide +kernel)) rfl), (Tw_in (List.mem_of_getElem? (i := 586) (by decide +kernel)) rfl), (Tw_in (List.mem_of_getElem? (i := 587) (by decide +kernel)) rfl), rfl⟩
set_option maxRecDepth 100000 in
theorem cb_Merge_tell : CLb y_Merge_tell b_Merge_tell 3 (some .int) 2 := ⟨(List.mem_of_getElem? (i := 692) rfl), (Tw_in (List.mem_of_getElem? (i := 79) (by decide +kernel)) rfl), by decide, by decide, by decide +kernel⟩
theorem cv_MF_177 : CV "MovedFolders" 177 2 y_Merge_tell b_Merge_tell 3 (some .int) 2 := ⟨cb_Merge_tell, (Tw_in (List.mem_of_getElem? (i := 689) (by decide +kernel)) rfl), (Tw_in (List.mem_of_getElem? (i := 690) (by decide +kernel)) rfl), (Tw_in (List.mem_of_getElem? (i := 691) (by decide +kernel)) rfl), rfl⟩
set_option maxRecDepth 100000 in
theorem cb_Merge_size : CLb y_Merge_size b_Merge_size 1 (some .int) 0 := ⟨(List.mem_of_getElem? (i := 688) rfl), (Tw_in (List.mem_of_getElem? (i := 79) (by decide +kernel)) rfl), by decide, by decide, by decide +kernel⟩
theorem cv_MF_176 : CV "MovedFolders" 176 2 y_Merge_size b_Merge_size 1 (some .int) 0 := ⟨cb_Merge_size, (Tw_in (List.mem_of_getElem? (i := 685) (by decide +kernel)) rfl), (Tw_in (List.mem_of_getElem? (i := 686) (by decide +kernel)) rfl), (Tw_in (List.mem_of_getElem? (i := 687) (by decide +kernel)) rfl), rfl⟩
set_option maxRecDepth 100000 in
theorem cb_Merge_tellClash : CLb y_Merge_tellClash b_Merge_tellClash 3 (some .int) 2 := ⟨(List.mem_of_getElem? (i := 704) rfl), (Tw_in (List.mem_of_getElem? (i := 79) (by decide +kernel)) rfl), by decide, by decide, by decide +kernel⟩
theorem cv_MF_183 : CV "MovedFolders" 183 2 y_Merge_tellClash b_Merge_tellClash 3 (some .int) 2 := ⟨cb_Merge_tellClash, (Tw_in (List.mem_of_getElem? (i := 701) (by decide +kernel)) rfl), (Tw_in (List.mem_of_getElem? (i := 702) (by decide +kernel)) rfl), (Tw_in (List.mem_of_getElem? (i := 703) (by decide +kernel)) rfl), rfl⟩
set_option maxRecDepth 100000 in
theorem cb_Merge_clashSize : CLb y_Merge_clashSize b_Merge_clashSize 1 (some .int) 0 := ⟨(List.mem_of_getElem? (i := 700) rfl), (Tw_in (List.mem_of_getElem? (i := 79) (by decide +kernel)) rfl), by decide, by decide, by decide +kernel⟩
theorem cv_MF_180 : CV "MovedFolders" 180 2 y_Merge_clashSize b_Merge_clashSize 1 (some .int) 0 := ⟨cb_Merge_clashSize, (Tw_in (List.mem_of_getElem? (i := 697) (by decide +kernel)) rfl), (Tw_in (List.mem_of_getElem? (i := 698) (by decide +kernel)) rfl), (Tw_in (List.mem_of_getElem? (i := 699) (by decide +kernel)) rfl), rfl⟩
set_option maxRecDepth 100000 in
theorem cb_Merge_writeTo : CLb y_Merge_writeTo b_Merge_writeTo 3 none 1 := ⟨(List.mem_of_getElem? (i := 712) rfl), (Tw_in (List.mem_of_getElem? (i := 79) (by decide +kernel)) rfl), by decide, by decide, by decide +kernel⟩
theorem cv_MF_186 : CV "MovedFolders" 186 2 y_Merge_writeTo b_Merge_writeTo 3 none 1 := ⟨cb_Merge_writeTo, (Tw_in (List.mem_of_getElem? (i := 709) (by decide +kernel)) rfl), (Tw_in (List.mem_of_getElem? (i := 710) (by decide +kernel)) rfl), (Tw_in (List.mem_of_getElem? (i := 711) (by decide +kernel)) rfl), rfl⟩
theorem fp_MF_189 : FP "MovedFolders" 189 0 1 (.object "MovedFolders$Tree") false := ⟨R_Held, T_Held, 4, ty_Held, rfl, by decide, wt_Held, (Tw_in (List.mem_of_getElem? (i := 134) (by decide +kernel)) rfl), ty_Held_ok, nm_Held, rfl, by decide +kernel, rfl⟩
theorem fp_MF_192 : FP "MovedFolders" 192 0 2 (.object "MovedFolders$Tree") false := ⟨R_Held, T_Held, 4, ty_Held, rfl, by decide, wt_Held, (Tw_in (List.mem_of_getElem? (i := 137) (by decide +kernel)) rfl), ty_Held_ok, nm_Held, rfl, by decide +kernel, rfl⟩
theorem fl_MF_26 : FL "MovedFolders" 26 8 3 := ⟨R_MF, T_MF, 10, rfl, by decide, wt_MF, (Tw_in (List.mem_of_getElem? (i := 255) (by decide +kernel)) rfl)⟩
theorem fl_MF_23 : FL "MovedFolders" 23 8 2 := ⟨R_MF, T_MF, 10, rfl, by decide, wt_MF, (Tw_in (List.mem_of_getElem? (i := 254) (by decide +kernel)) rfl)⟩
set_option maxRecDepth 100000 in
theorem cb_MF_imageOf : CLb y_MF_imageOf b_MF_imageOf 2 (some (.object "MovedFolders$Held")) 1 := ⟨(List.mem_of_getElem? (i := 729) rfl), (Tw_in (List.mem_of_getElem? (i := 71) (by decide +kernel)) rfl), by decide, by decide, by decide +kernel⟩
theorem cv_MF_195 : CV "MovedFolders" 195 8 y_MF_imageOf b_MF_imageOf 2 (some (.object "MovedFolders$Held")) 1 := ⟨cb_MF_imageOf, (Tw_in (List.mem_of_getElem? (i := 726) (by decide +kernel)) rfl), (Tw_in (List.mem_of_getElem? (i := 728) (by decide +kernel)) rfl), (Tw_in (List.mem_of_getElem? (i := 28) (by decide +kernel)) rfl), rfl⟩
set_option maxRecDepth 100000 in
theorem cb_Held_take : CLb y_Held_take b_Held_take 2 none 1 := ⟨(List.mem_of_getElem? (i := 733) rfl), (Tw_in (List.mem_of_getElem? (i := 73) (by decide +kernel)) rfl), by decide, by decide, by decide +kernel⟩
theorem cv_MF_199 : CV "MovedFolders" 199 0 y_Held_take b_Held_take 2 none 1 := ⟨cb_Held_take, (Tw_in (List.mem_of_getElem? (i := 730) (by decide +kernel)) rfl), (Tw_in (List.mem_of_getElem? (i := 731) (by decide +kernel)) rfl), (Tw_in (List.mem_of_getElem? (i := 732) (by decide +kernel)) rfl), rfl⟩
theorem fl_MF_29 : FL "MovedFolders" 29 8 4 := ⟨R_MF, T_MF, 10, rfl, by decide, wt_MF, (Tw_in (List.mem_of_getElem? (i := 256) (by decide +kernel)) rfl)⟩
set_option maxRecDepth 100000 in
theorem cb_Pairs_countGone : CLb y_Pairs_countGone b_Pairs_countGone 4 (some .int) 1 := ⟨(List.mem_of_getElem? (i := 746) rfl), (Tw_in (List.mem_of_getElem? (i := 76) (by decide +kernel)) rfl), by decide, by decide, by decide +kernel⟩
theorem cv_MF_202 : CV "MovedFolders" 202 5 y_Pairs_countGone b_Pairs_countGone 4 (some .int) 1 := ⟨cb_Pairs_countGone, (Tw_in (List.mem_of_getElem? (i := 743) (by decide +kernel)) rfl), (Tw_in (List.mem_of_getElem? (i := 744) (by decide +kernel)) rfl), (Tw_in (List.mem_of_getElem? (i := 745) (by decide +kernel)) rfl), rfl⟩
set_option maxRecDepth 100000 in
theorem cb_Pairs_countNew : CLb y_Pairs_countNew b_Pairs_countNew 4 (some .int) 1 := ⟨(List.mem_of_getElem? (i := 750) rfl), (Tw_in (List.mem_of_getElem? (i := 76) (by decide +kernel)) rfl), by decide, by decide, by decide +kernel⟩
theorem cv_MF_206 : CV "MovedFolders" 206 5 y_Pairs_countNew b_Pairs_countNew 4 (some .int) 1 := ⟨cb_Pairs_countNew, (Tw_in (List.mem_of_getElem? (i := 747) (by decide +kernel)) rfl), (Tw_in (List.mem_of_getElem? (i := 748) (by decide +kernel)) rfl), (Tw_in (List.mem_of_getElem? (i := 749) (by decide +kernel)) rfl), rfl⟩
theorem cv_MF_209 : CV "MovedFolders" 209 3 y_Moves_size b_Moves_size 1 (some .int) 0 := ⟨cb_Moves_size, (Tw_in (List.mem_of_getElem? (i := 752) (by decide +kernel)) rfl), (Tw_in (List.mem_of_getElem? (i := 522) (by decide +kernel)) rfl), (Tw_in (List.mem_of_getElem? (i := 523) (by decide +kernel)) rfl), rfl⟩
set_option maxRecDepth 100000 in
theorem oi_Mo_1 : OI "MovedFoldersModel" 1 := ⟨(Tw_in (List.mem_of_getElem? (i := 758) (by decide +kernel)) rfl), (Tw_in (List.mem_of_getElem? (i := 91) (by decide +kernel)) rfl), (Tw_in (List.mem_of_getElem? (i := 92) rfl) rfl)⟩
theorem fp_Mo_7 : FP "MovedFoldersModel" 7 9 0 (.array .int) true := ⟨R_Mo, T_Mo, 27, ty_Mo, rfl, by decide, wt_Mo, (Tw_in (List.mem_of_getElem? (i := 759) (by decide +kernel)) rfl), ty_Mo_ok, nm_Mo, rfl, by decide +kernel, rfl⟩
theorem fp_Mo_13 : FP "MovedFoldersModel" 13 9 1 (.array .int) true := ⟨R_Mo, T_Mo, 27, ty_Mo, rfl, by decide, wt_Mo, (Tw_in (List.mem_of_getElem? (i := 760) (by decide +kernel)) rfl), ty_Mo_ok, nm_Mo, rfl, by decide +kernel, rfl⟩
theorem fp_Mo_16 : FP "MovedFoldersModel" 16 9 2 (.array .int) true := ⟨R_Mo, T_Mo, 27, ty_Mo, rfl, by decide, wt_Mo, (Tw_in (List.mem_of_getElem? (i := 761) (by decide +kernel)) rfl), ty_Mo_ok, nm_Mo, rfl, by decide +kernel, rfl⟩
theorem fp_Mo_19 : FP "MovedFoldersModel" 19 9 3 .int false := ⟨R_Mo, T_Mo, 27, ty_Mo, rfl, by decide, wt_Mo, (Tw_in (List.mem_of_getElem? (i := 762) (by decide +kernel)) rfl), ty_Mo_ok, nm_Mo, rfl, by decide +kernel, rfl⟩
theorem fp_Mo_23 : FP "MovedFoldersModel" 23 9 4 (.array .int) true := ⟨R_Mo, T_Mo, 27, ty_Mo, rfl, by decide, wt_Mo, (Tw_in (List.mem_of_getElem? (i := 763) (by decide +kernel)) rfl), ty_Mo_ok, nm_Mo, rfl, by decide +kernel, rfl⟩
theorem fp_Mo_26 : FP "MovedFoldersModel" 26 9 11 (.array .int) true := ⟨R_Mo, T_Mo, 27, ty_Mo, rfl, by decide, wt_Mo, (Tw_in (List.mem_of_getElem? (i := 770) (by decide +kernel)) rfl), ty_Mo_ok, nm_Mo, rfl, by decide +kernel, rfl⟩
theorem fp_Mo_29 : FP "MovedFoldersModel" 29 9 12 (.array .int) true := ⟨R_Mo, T_Mo, 27, ty_Mo, rfl, by decide, wt_Mo, (Tw_in (List.mem_of_getElem? (i := 771) (by decide +kernel)) rfl), ty_Mo_ok, nm_Mo, rfl, by decide +kernel, rfl⟩
theorem fp_Mo_32 : FP "MovedFoldersModel" 32 9 13 (.array .int) true := ⟨R_Mo, T_Mo, 27, ty_Mo, rfl, by decide, wt_Mo, (Tw_in (List.mem_of_getElem? (i := 772) (by decide +kernel)) rfl), ty_Mo_ok, nm_Mo, rfl, by decide +kernel, rfl⟩
theorem fp_Mo_35 : FP "MovedFoldersModel" 35 9 14 (.array .int) true := ⟨R_Mo, T_Mo, 27, ty_Mo, rfl, by decide, wt_Mo, (Tw_in (List.mem_of_getElem? (i := 773) (by decide +kernel)) rfl), ty_Mo_ok, nm_Mo, rfl, by decide +kernel, rfl⟩
theorem fp_Mo_38 : FP "MovedFoldersModel" 38 9 15 (.array .boolean) true := ⟨R_Mo, T_Mo, 27, ty_Mo, rfl, by decide, wt_Mo, (Tw_in (List.mem_of_getElem? (i := 774) (by decide +kernel)) rfl), ty_Mo_ok, nm_Mo, rfl, by decide +kernel, rfl⟩
theorem fp_Mo_42 : FP "MovedFoldersModel" 42 9 16 (.array .int) true := ⟨R_Mo, T_Mo, 27, ty_Mo, rfl, by decide, wt_Mo, (Tw_in (List.mem_of_getElem? (i := 775) (by decide +kernel)) rfl), ty_Mo_ok, nm_Mo, rfl, by decide +kernel, rfl⟩
theorem fp_Mo_45 : FP "MovedFoldersModel" 45 9 17 (.array .int) true := ⟨R_Mo, T_Mo, 27, ty_Mo, rfl, by decide, wt_Mo, (Tw_in (List.mem_of_getElem? (i := 776) (by decide +kernel)) rfl), ty_Mo_ok, nm_Mo, rfl, by decide +kernel, rfl⟩
theorem fp_Mo_48 : FP "MovedFoldersModel" 48 9 18 (.array .int) true := ⟨R_Mo, T_Mo, 27, ty_Mo, rfl, by decide, wt_Mo, (Tw_in (List.mem_of_getElem? (i := 777) (by decide +kernel)) rfl), ty_Mo_ok, nm_Mo, rfl, by decide +kernel, rfl⟩
theorem fp_Mo_51 : FP "MovedFoldersModel" 51 9 19 (.array .int) true := ⟨R_Mo, T_Mo, 27, ty_Mo, rfl, by decide, wt_Mo, (Tw_in (List.mem_of_getElem? (i := 778) (by decide +kernel)) rfl), ty_Mo_ok, nm_Mo, rfl, by decide +kernel, rfl⟩
theorem fp_Mo_54 : FP "MovedFoldersModel" 54 9 22 (.array .boolean) true := ⟨R_Mo, T_Mo, 27, ty_Mo, rfl, by decide, wt_Mo, (Tw_in (List.mem_of_getElem? (i := 781) (by decide +kernel)) rfl), ty_Mo_ok, nm_Mo, rfl, by decide +kernel, rfl⟩
theorem fp_Mo_57 : FP "MovedFoldersModel" 57 9 23 (.array .int) true := ⟨R_Mo, T_Mo, 27, ty_Mo, rfl, by decide, wt_Mo, (Tw_in (List.mem_of_getElem? (i := 782) (by decide +kernel)) rfl), ty_Mo_ok, nm_Mo, rfl, by decide +kernel, rfl⟩
theorem fp_Mo_60 : FP "MovedFoldersModel" 60 9 24 (.array .boolean) true := ⟨R_Mo, T_Mo, 27, ty_Mo, rfl, by decide, wt_Mo, (Tw_in (List.mem_of_getElem? (i := 783) (by decide +kernel)) rfl), ty_Mo_ok, nm_Mo, rfl, by decide +kernel, rfl⟩
theorem kl_Mo_63 : Cond.constantLong "MovedFoldersModel" 63 2 ∈ Tw := (Tw_in (List.mem_of_getElem? (i := 878) (by decide +kernel)) rfl)
set_option maxRecDepth 100000 in
theorem cb_Mo_in : CLb y_Mo_in b_Mo_in 6 (some .boolean) 3 := ⟨(List.mem_of_getElem? (i := 849) rfl), (Tw_in (List.mem_of_getElem? (i := 80) (by decide +kernel)) rfl), by decide, by decide, by decide +kernel⟩
theorem cs_Mo_65 : CS "MovedFoldersModel" 65 y_Mo_in b_Mo_in 6 (some .boolean) 3 := ⟨cb_Mo_in, (Tw_in (List.mem_of_getElem? (i := 847) (by decide +kernel)) rfl), (Tw_in (List.mem_of_getElem? (i := 848) (by decide +kernel)) rfl)⟩
set_option maxRecDepth 100000 in
theorem cb_Mo_isTree : CLb y_Mo_isTree b_Mo_isTree 1 (some .boolean) 1 := ⟨(List.mem_of_getElem? (i := 877) rfl), (Tw_in (List.mem_of_getElem? (i := 80) (by decide +kernel)) rfl), by decide, by decide, by decide +kernel⟩
theorem cs_Mo_69 : CS "MovedFoldersModel" 69 y_Mo_isTree b_Mo_isTree 1 (some .boolean) 1 := ⟨cb_Mo_isTree, (Tw_in (List.mem_of_getElem? (i := 875) (by decide +kernel)) rfl), (Tw_in (List.mem_of_getElem? (i := 876) (by decide +kernel)) rfl)⟩
theorem fl_Mo_16 : FL "MovedFoldersModel" 16 9 2 := ⟨R_Mo, T_Mo, 27, rfl, by decide, wt_Mo, (Tw_in (List.mem_of_getElem? (i := 761) (by decide +kernel)) rfl)⟩
theorem fl_Mo_7 : FL "MovedFoldersModel" 7 9 0 := ⟨R_Mo, T_Mo, 27, rfl, by decide, wt_Mo, (Tw_in (List.mem_of_getElem? (i := 759) (by decide +kernel)) rfl)⟩
theorem fl_Mo_13 : FL "MovedFoldersModel" 13 9 1 := ⟨R_Mo, T_Mo, 27, rfl, by decide, wt_Mo, (Tw_in (List.mem_of_getElem? (i := 760) (by decide +kernel)) rfl)⟩
theorem kl_Mo_73 : Cond.constantLong "MovedFoldersModel" 73 444 ∈ Tw := (Tw_in (List.mem_of_getElem? (i := 974) (by decide +kernel)) rfl)
theorem kl_Mo_75 : Cond.constantLong "MovedFoldersModel" 75 33 ∈ Tw := (Tw_in (List.mem_of_getElem? (i := 845) (by decide +kernel)) rfl)
theorem kl_Mo_77 : Cond.constantLong "MovedFoldersModel" 77 126 ∈ Tw := (Tw_in (List.mem_of_getElem? (i := 846) (by decide +kernel)) rfl)
theorem fl_Mo_79 : FL "MovedFoldersModel" 79 9 5 := ⟨R_Mo, T_Mo, 27, rfl, by decide, wt_Mo, (Tw_in (List.mem_of_getElem? (i := 764) (by decide +kernel)) rfl)⟩
theorem fl_Mo_23 : FL "MovedFoldersModel" 23 9 4 := ⟨R_Mo, T_Mo, 27, rfl, by decide, wt_Mo, (Tw_in (List.mem_of_getElem? (i := 763) (by decide +kernel)) rfl)⟩
theorem fp_Mo_79 : FP "MovedFoldersModel" 79 9 5 .int false := ⟨R_Mo, T_Mo, 27, ty_Mo, rfl, by decide, wt_Mo, (Tw_in (List.mem_of_getElem? (i := 764) (by decide +kernel)) rfl), ty_Mo_ok, nm_Mo, rfl, by decide +kernel, rfl⟩
theorem kl_Mo_103 : Cond.constantLong "MovedFoldersModel" 103 48 ∈ Tw := (Tw_in (List.mem_of_getElem? (i := 869) (by decide +kernel)) rfl)
theorem kl_Mo_105 : Cond.constantLong "MovedFoldersModel" 105 57 ∈ Tw := (Tw_in (List.mem_of_getElem? (i := 870) (by decide +kernel)) rfl)
theorem fl_Mo_107 : FL "MovedFoldersModel" 107 9 10 := ⟨R_Mo, T_Mo, 27, rfl, by decide, wt_Mo, (Tw_in (List.mem_of_getElem? (i := 769) (by decide +kernel)) rfl)⟩
theorem fl_Mo_110 : FL "MovedFoldersModel" 110 9 9 := ⟨R_Mo, T_Mo, 27, rfl, by decide, wt_Mo, (Tw_in (List.mem_of_getElem? (i := 768) (by decide +kernel)) rfl)⟩
theorem fp_Mo_110 : FP "MovedFoldersModel" 110 9 9 .int false := ⟨R_Mo, T_Mo, 27, ty_Mo, rfl, by decide, wt_Mo, (Tw_in (List.mem_of_getElem? (i := 768) (by decide +kernel)) rfl), ty_Mo_ok, nm_Mo, rfl, by decide +kernel, rfl⟩
theorem fp_Mo_107 : FP "MovedFoldersModel" 107 9 10 .int false := ⟨R_Mo, T_Mo, 27, ty_Mo, rfl, by decide, wt_Mo, (Tw_in (List.mem_of_getElem? (i := 769) (by decide +kernel)) rfl), ty_Mo_ok, nm_Mo, rfl, by decide +kernel, rfl⟩
theorem kl_Mo_96 : Cond.constantLong "MovedFoldersModel" 96 97 ∈ Tw := (Tw_in (List.mem_of_getElem? (i := 867) (by decide +kernel)) rfl)
theorem kl_Mo_98 : Cond.constantLong "MovedFoldersModel" 98 104 ∈ Tw := (Tw_in (List.mem_of_getElem? (i := 868) (by decide +kernel)) rfl)
theorem fp_Mo_100 : FP "MovedFoldersModel" 100 9 8 .int false := ⟨R_Mo, T_Mo, 27, ty_Mo, rfl, by decide, wt_Mo, (Tw_in (List.mem_of_getElem? (i := 767) (by decide +kernel)) rfl), ty_Mo_ok, nm_Mo, rfl, by decide +kernel, rfl⟩
theorem kl_Mo_82 : Cond.constantLong "MovedFoldersModel" 82 65 ∈ Tw := (Tw_in (List.mem_of_getElem? (i := 862) (by decide +kernel)) rfl)
theorem kl_Mo_84 : Cond.constantLong "MovedFoldersModel" 84 68 ∈ Tw := (Tw_in (List.mem_of_getElem? (i := 863) (by decide +kernel)) rfl)
theorem fl_Mo_86 : FL "MovedFoldersModel" 86 9 7 := ⟨R_Mo, T_Mo, 27, rfl, by decide, wt_Mo, (Tw_in (List.mem_of_getElem? (i := 766) (by decide +kernel)) rfl)⟩
theorem fl_Mo_89 : FL "MovedFoldersModel" 89 9 6 := ⟨R_Mo, T_Mo, 27, rfl, by decide, wt_Mo, (Tw_in (List.mem_of_getElem? (i := 765) (by decide +kernel)) rfl)⟩
set_option maxRecDepth 100000 in
theorem cb_Mo_worth : CLb y_Mo_worth b_Mo_worth 1 (some .int) 1 := ⟨(List.mem_of_getElem? (i := 866) rfl), (Tw_in (List.mem_of_getElem? (i := 80) (by decide +kernel)) rfl), by decide, by decide, by decide +kernel⟩
theorem cs_Mo_92 : CS "MovedFoldersModel" 92 y_Mo_worth b_Mo_worth 1 (some .int) 1 := ⟨cb_Mo_worth, (Tw_in (List.mem_of_getElem? (i := 864) (by decide +kernel)) rfl), (Tw_in (List.mem_of_getElem? (i := 865) (by decide +kernel)) rfl)⟩
theorem fp_Mo_89 : FP "MovedFoldersModel" 89 9 6 .int false := ⟨R_Mo, T_Mo, 27, ty_Mo, rfl, by decide, wt_Mo, (Tw_in (List.mem_of_getElem? (i := 765) (by decide +kernel)) rfl), ty_Mo_ok, nm_Mo, rfl, by decide +kernel, rfl⟩
theorem fp_Mo_86 : FP "MovedFoldersModel" 86 9 7 .int false := ⟨R_Mo, T_Mo, 27, ty_Mo, rfl, by decide, wt_Mo, (Tw_in (List.mem_of_getElem? (i := 766) (by decide +kernel)) rfl), ty_Mo_ok, nm_Mo, rfl, by decide +kernel, rfl⟩
set_option maxRecDepth 100000 in
theorem cb_Mo_goOn : CLb y_Mo_goOn b_Mo_goOn 3 (some .int) 2 := ⟨(List.mem_of_getElem? (i := 861) rfl), (Tw_in (List.mem_of_getElem? (i := 80) (by decide +kernel)) rfl), by decide, by decide, by decide +kernel⟩
theorem cv_Mo_113 : CV "MovedFoldersModel" 113 9 y_Mo_goOn b_Mo_goOn 3 (some .int) 2 := ⟨cb_Mo_goOn, (Tw_in (List.mem_of_getElem? (i := 858) (by decide +kernel)) rfl), (Tw_in (List.mem_of_getElem? (i := 860) (by decide +kernel)) rfl), (Tw_in (List.mem_of_getElem? (i := 29) (by decide +kernel)) rfl), rfl⟩
set_option maxRecDepth 100000 in
theorem cb_Mo_fault : CLb y_Mo_fault b_Mo_fault 3 (some .int) 0 := ⟨(List.mem_of_getElem? (i := 857) rfl), (Tw_in (List.mem_of_getElem? (i := 80) (by decide +kernel)) rfl), by decide, by decide, by decide +kernel⟩
theorem cv_Mo_117 : CV "MovedFoldersModel" 117 9 y_Mo_fault b_Mo_fault 3 (some .int) 0 := ⟨cb_Mo_fault, (Tw_in (List.mem_of_getElem? (i := 879) (by decide +kernel)) rfl), (Tw_in (List.mem_of_getElem? (i := 855) (by decide +kernel)) rfl), (Tw_in (List.mem_of_getElem? (i := 856) (by decide +kernel)) rfl), rfl⟩
theorem fl_Mo_100 : FL "MovedFoldersModel" 100 9 8 := ⟨R_Mo, T_Mo, 27, rfl, by decide, wt_Mo, (Tw_in (List.mem_of_getElem? (i := 767) (by decide +kernel)) rfl)⟩
set_option maxRecDepth 100000 in
theorem cb_Mo_placeOf : CLb y_Mo_placeOf b_Mo_placeOf 4 (some .int) 2 := ⟨(List.mem_of_getElem? (i := 883) rfl), (Tw_in (List.mem_of_getElem? (i := 80) (by decide +kernel)) rfl), by decide, by decide, by decide +kernel⟩
theorem cv_Mo_121 : CV "MovedFoldersModel" 121 9 y_Mo_placeOf b_Mo_placeOf 4 (some .int) 2 := ⟨cb_Mo_placeOf, (Tw_in (List.mem_of_getElem? (i := 880) (by decide +kernel)) rfl), (Tw_in (List.mem_of_getElem? (i := 882) (by decide +kernel)) rfl), (Tw_in (List.mem_of_getElem? (i := 30) (by decide +kernel)) rfl), rfl⟩
set_option maxRecDepth 100000 in
theorem cb_Mo_layAt : CLb y_Mo_layAt b_Mo_layAt 6 none 4 := ⟨(List.mem_of_getElem? (i := 887) rfl), (Tw_in (List.mem_of_getElem? (i := 80) (by decide +kernel)) rfl), by decide, by decide, by decide +kernel⟩
theorem cv_Mo_124 : CV "MovedFoldersModel" 124 9 y_Mo_layAt b_Mo_layAt 6 none 4 := ⟨cb_Mo_layAt, (Tw_in (List.mem_of_getElem? (i := 884) (by decide +kernel)) rfl), (Tw_in (List.mem_of_getElem? (i := 886) (by decide +kernel)) rfl), (Tw_in (List.mem_of_getElem? (i := 31) (by decide +kernel)) rfl), rfl⟩
set_option maxRecDepth 100000 in
theorem cb_Mo_isFile : CLb y_Mo_isFile b_Mo_isFile 3 (some .boolean) 2 := ⟨(List.mem_of_getElem? (i := 895) rfl), (Tw_in (List.mem_of_getElem? (i := 80) (by decide +kernel)) rfl), by decide, by decide, by decide +kernel⟩
theorem cv_Mo_128 : CV "MovedFoldersModel" 128 9 y_Mo_isFile b_Mo_isFile 3 (some .boolean) 2 := ⟨cb_Mo_isFile, (Tw_in (List.mem_of_getElem? (i := 892) (by decide +kernel)) rfl), (Tw_in (List.mem_of_getElem? (i := 894) (by decide +kernel)) rfl), (Tw_in (List.mem_of_getElem? (i := 32) (by decide +kernel)) rfl), rfl⟩
set_option maxRecDepth 100000 in
theorem cb_Mo_contentAt : CLb y_Mo_contentAt b_Mo_contentAt 3 (some .int) 2 := ⟨(List.mem_of_getElem? (i := 903) rfl), (Tw_in (List.mem_of_getElem? (i := 80) (by decide +kernel)) rfl), by decide, by decide, by decide +kernel⟩
theorem cv_Mo_132 : CV "MovedFoldersModel" 132 9 y_Mo_contentAt b_Mo_contentAt 3 (some .int) 2 := ⟨cb_Mo_contentAt, (Tw_in (List.mem_of_getElem? (i := 900) (by decide +kernel)) rfl), (Tw_in (List.mem_of_getElem? (i := 902) (by decide +kernel)) rfl), (Tw_in (List.mem_of_getElem? (i := 33) (by decide +kernel)) rfl), rfl⟩
set_option maxRecDepth 100000 in
theorem cb_Mo_isSide : CLb y_Mo_isSide b_Mo_isSide 1 (some .boolean) 1 := ⟨(List.mem_of_getElem? (i := 910) rfl), (Tw_in (List.mem_of_getElem? (i := 80) (by decide +kernel)) rfl), by decide, by decide, by decide +kernel⟩
theorem cs_Mo_135 : CS "MovedFoldersModel" 135 y_Mo_isSide b_Mo_isSide 1 (some .boolean) 1 := ⟨cb_Mo_isSide, (Tw_in (List.mem_of_getElem? (i := 908) (by decide +kernel)) rfl), (Tw_in (List.mem_of_getElem? (i := 909) (by decide +kernel)) rfl)⟩
set_option maxRecDepth 100000 in
theorem cb_Mo_piecesIn : CLb y_Mo_piecesIn b_Mo_piecesIn 3 (some .int) 1 := ⟨(List.mem_of_getElem? (i := 925) rfl), (Tw_in (List.mem_of_getElem? (i := 80) (by decide +kernel)) rfl), by decide, by decide, by decide +kernel⟩
theorem cs_Mo_138 : CS "MovedFoldersModel" 138 y_Mo_piecesIn b_Mo_piecesIn 3 (some .int) 1 := ⟨cb_Mo_piecesIn, (Tw_in (List.mem_of_getElem? (i := 923) (by decide +kernel)) rfl), (Tw_in (List.mem_of_getElem? (i := 924) (by decide +kernel)) rfl)⟩
set_option maxRecDepth 100000 in
theorem cb_Mo_greater : CLb y_Mo_greater b_Mo_greater 2 (some .int) 2 := ⟨(List.mem_of_getElem? (i := 928) rfl), (Tw_in (List.mem_of_getElem? (i := 80) (by decide +kernel)) rfl), by decide, by decide, by decide +kernel⟩
theorem cs_Mo_141 : CS "MovedFoldersModel" 141 y_Mo_greater b_Mo_greater 2 (some .int) 2 := ⟨cb_Mo_greater, (Tw_in (List.mem_of_getElem? (i := 926) (by decide +kernel)) rfl), (Tw_in (List.mem_of_getElem? (i := 927) (by decide +kernel)) rfl)⟩
set_option maxRecDepth 100000 in
theorem cb_Mo_timesIn : CLb y_Mo_timesIn b_Mo_timesIn 4 (some .int) 2 := ⟨(List.mem_of_getElem? (i := 931) rfl), (Tw_in (List.mem_of_getElem? (i := 80) (by decide +kernel)) rfl), by decide, by decide, by decide +kernel⟩
theorem cs_Mo_144 : CS "MovedFoldersModel" 144 y_Mo_timesIn b_Mo_timesIn 4 (some .int) 2 := ⟨cb_Mo_timesIn, (Tw_in (List.mem_of_getElem? (i := 929) (by decide +kernel)) rfl), (Tw_in (List.mem_of_getElem? (i := 930) (by decide +kernel)) rfl)⟩
set_option maxRecDepth 100000 in
theorem cb_Mo_less : CLb y_Mo_less b_Mo_less 2 (some .int) 2 := ⟨(List.mem_of_getElem? (i := 934) rfl), (Tw_in (List.mem_of_getElem? (i := 80) (by decide +kernel)) rfl), by decide, by decide, by decide +kernel⟩
theorem cs_Mo_147 : CS "MovedFoldersModel" 147 y_Mo_less b_Mo_less 2 (some .int) 2 := ⟨cb_Mo_less, (Tw_in (List.mem_of_getElem? (i := 932) (by decide +kernel)) rfl), (Tw_in (List.mem_of_getElem? (i := 933) (by decide +kernel)) rfl)⟩
theorem kl_Mo_150 : Cond.constantLong "MovedFoldersModel" 150 100 ∈ Tw := (Tw_in (List.mem_of_getElem? (i := 915) (by decide +kernel)) rfl)
theorem fl_Mo_19 : FL "MovedFoldersModel" 19 9 3 := ⟨R_Mo, T_Mo, 27, rfl, by decide, wt_Mo, (Tw_in (List.mem_of_getElem? (i := 762) (by decide +kernel)) rfl)⟩
set_option maxRecDepth 100000 in
theorem cb_Mo_alikeOf : CLb y_Mo_alikeOf b_Mo_alikeOf 5 (some .int) 2 := ⟨(List.mem_of_getElem? (i := 922) rfl), (Tw_in (List.mem_of_getElem? (i := 80) (by decide +kernel)) rfl), by decide, by decide, by decide +kernel⟩
theorem cs_Mo_152 : CS "MovedFoldersModel" 152 y_Mo_alikeOf b_Mo_alikeOf 5 (some .int) 2 := ⟨cb_Mo_alikeOf, (Tw_in (List.mem_of_getElem? (i := 920) (by decide +kernel)) rfl), (Tw_in (List.mem_of_getElem? (i := 921) (by decide +kernel)) rfl)⟩
theorem fl_Mo_26 : FL "MovedFoldersModel" 26 9 11 := ⟨R_Mo, T_Mo, 27, rfl, by decide, wt_Mo, (Tw_in (List.mem_of_getElem? (i := 770) (by decide +kernel)) rfl)⟩
theorem fl_Mo_29 : FL "MovedFoldersModel" 29 9 12 := ⟨R_Mo, T_Mo, 27, rfl, by decide, wt_Mo, (Tw_in (List.mem_of_getElem? (i := 771) (by decide +kernel)) rfl)⟩
theorem fl_Mo_32 : FL "MovedFoldersModel" 32 9 13 := ⟨R_Mo, T_Mo, 27, rfl, by decide, wt_Mo, (Tw_in (List.mem_of_getElem? (i := 772) (by decide +kernel)) rfl)⟩
set_option maxRecDepth 100000 in
theorem cb_Mo_isLeft : CLb y_Mo_isLeft b_Mo_isLeft 4 (some .boolean) 3 := ⟨(List.mem_of_getElem? (i := 958) rfl), (Tw_in (List.mem_of_getElem? (i := 80) (by decide +kernel)) rfl), by decide, by decide, by decide +kernel⟩
theorem cv_Mo_155 : CV "MovedFoldersModel" 155 9 y_Mo_isLeft b_Mo_isLeft 4 (some .boolean) 3 := ⟨cb_Mo_isLeft, (Tw_in (List.mem_of_getElem? (i := 955) (by decide +kernel)) rfl), (Tw_in (List.mem_of_getElem? (i := 957) (by decide +kernel)) rfl), (Tw_in (List.mem_of_getElem? (i := 38) (by decide +kernel)) rfl), rfl⟩
set_option maxRecDepth 100000 in
theorem cb_Mo_nameAt : CLb y_Mo_nameAt b_Mo_nameAt 3 (some .int) 2 := ⟨(List.mem_of_getElem? (i := 962) rfl), (Tw_in (List.mem_of_getElem? (i := 80) (by decide +kernel)) rfl), by decide, by decide, by decide +kernel⟩
theorem cv_Mo_159 : CV "MovedFoldersModel" 159 9 y_Mo_nameAt b_Mo_nameAt 3 (some .int) 2 := ⟨cb_Mo_nameAt, (Tw_in (List.mem_of_getElem? (i := 959) (by decide +kernel)) rfl), (Tw_in (List.mem_of_getElem? (i := 961) (by decide +kernel)) rfl), (Tw_in (List.mem_of_getElem? (i := 39) (by decide +kernel)) rfl), rfl⟩
set_option maxRecDepth 100000 in
theorem cb_Mo_join : CLb y_Mo_join b_Mo_join 5 none 4 := ⟨(List.mem_of_getElem? (i := 946) rfl), (Tw_in (List.mem_of_getElem? (i := 80) (by decide +kernel)) rfl), by decide, by decide, by decide +kernel⟩
theorem cv_Mo_166 : CV "MovedFoldersModel" 166 9 y_Mo_join b_Mo_join 5 none 4 := ⟨cb_Mo_join, (Tw_in (List.mem_of_getElem? (i := 943) (by decide +kernel)) rfl), (Tw_in (List.mem_of_getElem? (i := 945) (by decide +kernel)) rfl), (Tw_in (List.mem_of_getElem? (i := 35) (by decide +kernel)) rfl), rfl⟩
set_option maxRecDepth 100000 in
theorem cb_Mo_closeness : CLb y_Mo_closeness b_Mo_closeness 7 (some .int) 4 := ⟨(List.mem_of_getElem? (i := 954) rfl), (Tw_in (List.mem_of_getElem? (i := 80) (by decide +kernel)) rfl), by decide, by decide, by decide +kernel⟩
theorem cv_Mo_162 : CV "MovedFoldersModel" 162 9 y_Mo_closeness b_Mo_closeness 7 (some .int) 4 := ⟨cb_Mo_closeness, (Tw_in (List.mem_of_getElem? (i := 951) (by decide +kernel)) rfl), (Tw_in (List.mem_of_getElem? (i := 953) (by decide +kernel)) rfl), (Tw_in (List.mem_of_getElem? (i := 37) (by decide +kernel)) rfl), rfl⟩
set_option maxRecDepth 100000 in
theorem cb_Mo_isJoined : CLb y_Mo_isJoined b_Mo_isJoined 9 (some .boolean) 2 := ⟨(List.mem_of_getElem? (i := 950) rfl), (Tw_in (List.mem_of_getElem? (i := 80) (by decide +kernel)) rfl), by decide, by decide, by decide +kernel⟩
theorem cv_Mo_169 : CV "MovedFoldersModel" 169 9 y_Mo_isJoined b_Mo_isJoined 9 (some .boolean) 2 := ⟨cb_Mo_isJoined, (Tw_in (List.mem_of_getElem? (i := 947) (by decide +kernel)) rfl), (Tw_in (List.mem_of_getElem? (i := 949) (by decide +kernel)) rfl), (Tw_in (List.mem_of_getElem? (i := 36) (by decide +kernel)) rfl), rfl⟩
set_option maxRecDepth 100000 in
theorem cb_Mo_findPairs : CLb y_Mo_findPairs b_Mo_findPairs 4 none 1 := ⟨(List.mem_of_getElem? (i := 942) rfl), (Tw_in (List.mem_of_getElem? (i := 80) (by decide +kernel)) rfl), by decide, by decide, by decide +kernel⟩
theorem cv_Mo_172 : CV "MovedFoldersModel" 172 9 y_Mo_findPairs b_Mo_findPairs 4 none 1 := ⟨cb_Mo_findPairs, (Tw_in (List.mem_of_getElem? (i := 939) (by decide +kernel)) rfl), (Tw_in (List.mem_of_getElem? (i := 941) (by decide +kernel)) rfl), (Tw_in (List.mem_of_getElem? (i := 34) (by decide +kernel)) rfl), rfl⟩
set_option maxRecDepth 100000 in
theorem cb_Mo_folderAt : CLb y_Mo_folderAt b_Mo_folderAt 3 (some .int) 2 := ⟨(List.mem_of_getElem? (i := 982) rfl), (Tw_in (List.mem_of_getElem? (i := 80) (by decide +kernel)) rfl), by decide, by decide, by decide +kernel⟩
theorem cv_Mo_176 : CV "MovedFoldersModel" 176 9 y_Mo_folderAt b_Mo_folderAt 3 (some .int) 2 := ⟨cb_Mo_folderAt, (Tw_in (List.mem_of_getElem? (i := 979) (by decide +kernel)) rfl), (Tw_in (List.mem_of_getElem? (i := 981) (by decide +kernel)) rfl), (Tw_in (List.mem_of_getElem? (i := 41) (by decide +kernel)) rfl), rfl⟩
set_option maxRecDepth 100000 in
theorem cb_Mo_liesIn : CLb y_Mo_liesIn b_Mo_liesIn 5 (some .boolean) 2 := ⟨(List.mem_of_getElem? (i := 998) rfl), (Tw_in (List.mem_of_getElem? (i := 80) (by decide +kernel)) rfl), by decide, by decide, by decide +kernel⟩
theorem cv_Mo_183 : CV "MovedFoldersModel" 183 9 y_Mo_liesIn b_Mo_liesIn 5 (some .boolean) 2 := ⟨cb_Mo_liesIn, (Tw_in (List.mem_of_getElem? (i := 995) (by decide +kernel)) rfl), (Tw_in (List.mem_of_getElem? (i := 997) (by decide +kernel)) rfl), (Tw_in (List.mem_of_getElem? (i := 44) (by decide +kernel)) rfl), rfl⟩
set_option maxRecDepth 100000 in
theorem cb_Mo_votesOf : CLb y_Mo_votesOf b_Mo_votesOf 7 (some .int) 3 := ⟨(List.mem_of_getElem? (i := 978) rfl), (Tw_in (List.mem_of_getElem? (i := 80) (by decide +kernel)) rfl), by decide, by decide, by decide +kernel⟩
theorem cv_Mo_179 : CV "MovedFoldersModel" 179 9 y_Mo_votesOf b_Mo_votesOf 7 (some .int) 3 := ⟨cb_Mo_votesOf, (Tw_in (List.mem_of_getElem? (i := 975) (by decide +kernel)) rfl), (Tw_in (List.mem_of_getElem? (i := 977) (by decide +kernel)) rfl), (Tw_in (List.mem_of_getElem? (i := 40) (by decide +kernel)) rfl), rfl⟩
theorem fl_Mo_35 : FL "MovedFoldersModel" 35 9 14 := ⟨R_Mo, T_Mo, 27, rfl, by decide, wt_Mo, (Tw_in (List.mem_of_getElem? (i := 773) (by decide +kernel)) rfl)⟩
set_option maxRecDepth 100000 in
theorem cb_Mo_isFolder : CLb y_Mo_isFolder b_Mo_isFolder 4 (some .boolean) 1 := ⟨(List.mem_of_getElem? (i := 973) rfl), (Tw_in (List.mem_of_getElem? (i := 80) (by decide +kernel)) rfl), by decide, by decide, by decide +kernel⟩
theorem cs_Mo_186 : CS "MovedFoldersModel" 186 y_Mo_isFolder b_Mo_isFolder 4 (some .boolean) 1 := ⟨cb_Mo_isFolder, (Tw_in (List.mem_of_getElem? (i := 971) (by decide +kernel)) rfl), (Tw_in (List.mem_of_getElem? (i := 972) (by decide +kernel)) rfl)⟩
set_option maxRecDepth 100000 in
theorem cb_Mo_movedOf : CLb y_Mo_movedOf b_Mo_movedOf 9 (some .int) 2 := ⟨(List.mem_of_getElem? (i := 1002) rfl), (Tw_in (List.mem_of_getElem? (i := 80) (by decide +kernel)) rfl), by decide, by decide, by decide +kernel⟩
theorem cv_Mo_189 : CV "MovedFoldersModel" 189 9 y_Mo_movedOf b_Mo_movedOf 9 (some .int) 2 := ⟨cb_Mo_movedOf, (Tw_in (List.mem_of_getElem? (i := 999) (by decide +kernel)) rfl), (Tw_in (List.mem_of_getElem? (i := 1001) (by decide +kernel)) rfl), (Tw_in (List.mem_of_getElem? (i := 45) (by decide +kernel)) rfl), rfl⟩
set_option maxRecDepth 100000 in
theorem cb_Mo_findMoves : CLb y_Mo_findMoves b_Mo_findMoves 3 none 1 := ⟨(List.mem_of_getElem? (i := 994) rfl), (Tw_in (List.mem_of_getElem? (i := 80) (by decide +kernel)) rfl), by decide, by decide, by decide +kernel⟩
theorem cv_Mo_192 : CV "MovedFoldersModel" 192 9 y_Mo_findMoves b_Mo_findMoves 3 none 1 := ⟨cb_Mo_findMoves, (Tw_in (List.mem_of_getElem? (i := 991) (by decide +kernel)) rfl), (Tw_in (List.mem_of_getElem? (i := 993) (by decide +kernel)) rfl), (Tw_in (List.mem_of_getElem? (i := 43) (by decide +kernel)) rfl), rfl⟩
theorem fl_Mo_38 : FL "MovedFoldersModel" 38 9 15 := ⟨R_Mo, T_Mo, 27, rfl, by decide, wt_Mo, (Tw_in (List.mem_of_getElem? (i := 774) (by decide +kernel)) rfl)⟩
set_option maxRecDepth 100000 in
theorem cb_Mo_isStep : CLb y_Mo_isStep b_Mo_isStep 4 (some .boolean) 2 := ⟨(List.mem_of_getElem? (i := 1010) rfl), (Tw_in (List.mem_of_getElem? (i := 80) (by decide +kernel)) rfl), by decide, by decide, by decide +kernel⟩
theorem cv_Mo_195 : CV "MovedFoldersModel" 195 9 y_Mo_isStep b_Mo_isStep 4 (some .boolean) 2 := ⟨cb_Mo_isStep, (Tw_in (List.mem_of_getElem? (i := 1007) (by decide +kernel)) rfl), (Tw_in (List.mem_of_getElem? (i := 1009) (by decide +kernel)) rfl), (Tw_in (List.mem_of_getElem? (i := 47) (by decide +kernel)) rfl), rfl⟩
set_option maxRecDepth 100000 in
theorem cb_Mo_findBoth : CLb y_Mo_findBoth b_Mo_findBoth 1 none 0 := ⟨(List.mem_of_getElem? (i := 990) rfl), (Tw_in (List.mem_of_getElem? (i := 80) (by decide +kernel)) rfl), by decide, by decide, by decide +kernel⟩
theorem cv_Mo_198 : CV "MovedFoldersModel" 198 9 y_Mo_findBoth b_Mo_findBoth 1 none 0 := ⟨cb_Mo_findBoth, (Tw_in (List.mem_of_getElem? (i := 987) (by decide +kernel)) rfl), (Tw_in (List.mem_of_getElem? (i := 989) (by decide +kernel)) rfl), (Tw_in (List.mem_of_getElem? (i := 42) (by decide +kernel)) rfl), rfl⟩
set_option maxRecDepth 100000 in
theorem cb_Mo_isLoop : CLb y_Mo_isLoop b_Mo_isLoop 7 (some .boolean) 2 := ⟨(List.mem_of_getElem? (i := 1006) rfl), (Tw_in (List.mem_of_getElem? (i := 80) (by decide +kernel)) rfl), by decide, by decide, by decide +kernel⟩
theorem cv_Mo_201 : CV "MovedFoldersModel" 201 9 y_Mo_isLoop b_Mo_isLoop 7 (some .boolean) 2 := ⟨cb_Mo_isLoop, (Tw_in (List.mem_of_getElem? (i := 1003) (by decide +kernel)) rfl), (Tw_in (List.mem_of_getElem? (i := 1005) (by decide +kernel)) rfl), (Tw_in (List.mem_of_getElem? (i := 46) (by decide +kernel)) rfl), rfl⟩
set_option maxRecDepth 100000 in
theorem cb_Mo_letterOf : CLb y_Mo_letterOf b_Mo_letterOf 2 (some .int) 2 := ⟨(List.mem_of_getElem? (i := 1027) rfl), (Tw_in (List.mem_of_getElem? (i := 80) (by decide +kernel)) rfl), by decide, by decide, by decide +kernel⟩
theorem cs_Mo_204 : CS "MovedFoldersModel" 204 y_Mo_letterOf b_Mo_letterOf 2 (some .int) 2 := ⟨cb_Mo_letterOf, (Tw_in (List.mem_of_getElem? (i := 1025) (by decide +kernel)) rfl), (Tw_in (List.mem_of_getElem? (i := 1026) (by decide +kernel)) rfl)⟩
set_option maxRecDepth 100000 in
theorem cb_Mo_lettersIn : CLb y_Mo_lettersIn b_Mo_lettersIn 1 (some .int) 1 := ⟨(List.mem_of_getElem? (i := 1021) rfl), (Tw_in (List.mem_of_getElem? (i := 80) (by decide +kernel)) rfl), by decide, by decide, by decide +kernel⟩
theorem cs_Mo_207 : CS "MovedFoldersModel" 207 y_Mo_lettersIn b_Mo_lettersIn 1 (some .int) 1 := ⟨cb_Mo_lettersIn, (Tw_in (List.mem_of_getElem? (i := 1019) (by decide +kernel)) rfl), (Tw_in (List.mem_of_getElem? (i := 1020) (by decide +kernel)) rfl)⟩
set_option maxRecDepth 100000 in
theorem cb_Mo_headOf : CLb y_Mo_headOf b_Mo_headOf 4 (some .int) 2 := ⟨(List.mem_of_getElem? (i := 1024) rfl), (Tw_in (List.mem_of_getElem? (i := 80) (by decide +kernel)) rfl), by decide, by decide, by decide +kernel⟩
theorem cs_Mo_210 : CS "MovedFoldersModel" 210 y_Mo_headOf b_Mo_headOf 4 (some .int) 2 := ⟨cb_Mo_headOf, (Tw_in (List.mem_of_getElem? (i := 1022) (by decide +kernel)) rfl), (Tw_in (List.mem_of_getElem? (i := 1023) (by decide +kernel)) rfl)⟩
set_option maxRecDepth 100000 in
theorem cb_Mo_joined : CLb y_Mo_joined b_Mo_joined 6 (some .int) 3 := ⟨(List.mem_of_getElem? (i := 1030) rfl), (Tw_in (List.mem_of_getElem? (i := 80) (by decide +kernel)) rfl), by decide, by decide, by decide +kernel⟩
theorem cs_Mo_213 : CS "MovedFoldersModel" 213 y_Mo_joined b_Mo_joined 6 (some .int) 3 := ⟨cb_Mo_joined, (Tw_in (List.mem_of_getElem? (i := 1028) (by decide +kernel)) rfl), (Tw_in (List.mem_of_getElem? (i := 1029) (by decide +kernel)) rfl)⟩
set_option maxRecDepth 100000 in
theorem cb_Mo_destOf : CLb y_Mo_destOf b_Mo_destOf 6 (some .int) 2 := ⟨(List.mem_of_getElem? (i := 1018) rfl), (Tw_in (List.mem_of_getElem? (i := 80) (by decide +kernel)) rfl), by decide, by decide, by decide +kernel⟩
theorem cv_Mo_216 : CV "MovedFoldersModel" 216 9 y_Mo_destOf b_Mo_destOf 6 (some .int) 2 := ⟨cb_Mo_destOf, (Tw_in (List.mem_of_getElem? (i := 1015) (by decide +kernel)) rfl), (Tw_in (List.mem_of_getElem? (i := 1017) (by decide +kernel)) rfl), (Tw_in (List.mem_of_getElem? (i := 48) (by decide +kernel)) rfl), rfl⟩
theorem fl_Mo_42 : FL "MovedFoldersModel" 42 9 16 := ⟨R_Mo, T_Mo, 27, rfl, by decide, wt_Mo, (Tw_in (List.mem_of_getElem? (i := 775) (by decide +kernel)) rfl)⟩
theorem fl_Mo_219 : FL "MovedFoldersModel" 219 9 20 := ⟨R_Mo, T_Mo, 27, rfl, by decide, wt_Mo, (Tw_in (List.mem_of_getElem? (i := 779) (by decide +kernel)) rfl)⟩
theorem fl_Mo_45 : FL "MovedFoldersModel" 45 9 17 := ⟨R_Mo, T_Mo, 27, rfl, by decide, wt_Mo, (Tw_in (List.mem_of_getElem? (i := 776) (by decide +kernel)) rfl)⟩
theorem fl_Mo_48 : FL "MovedFoldersModel" 48 9 18 := ⟨R_Mo, T_Mo, 27, rfl, by decide, wt_Mo, (Tw_in (List.mem_of_getElem? (i := 777) (by decide +kernel)) rfl)⟩
theorem fl_Mo_51 : FL "MovedFoldersModel" 51 9 19 := ⟨R_Mo, T_Mo, 27, rfl, by decide, wt_Mo, (Tw_in (List.mem_of_getElem? (i := 778) (by decide +kernel)) rfl)⟩
theorem fp_Mo_219 : FP "MovedFoldersModel" 219 9 20 .int false := ⟨R_Mo, T_Mo, 27, ty_Mo, rfl, by decide, wt_Mo, (Tw_in (List.mem_of_getElem? (i := 779) (by decide +kernel)) rfl), ty_Mo_ok, nm_Mo, rfl, by decide +kernel, rfl⟩
theorem fl_Mo_222 : FL "MovedFoldersModel" 222 9 21 := ⟨R_Mo, T_Mo, 27, rfl, by decide, wt_Mo, (Tw_in (List.mem_of_getElem? (i := 780) (by decide +kernel)) rfl)⟩
theorem fp_Mo_222 : FP "MovedFoldersModel" 222 9 21 .int false := ⟨R_Mo, T_Mo, 27, ty_Mo, rfl, by decide, wt_Mo, (Tw_in (List.mem_of_getElem? (i := 780) (by decide +kernel)) rfl), ty_Mo_ok, nm_Mo, rfl, by decide +kernel, rfl⟩
set_option maxRecDepth 100000 in
theorem cb_Mo_oneOf : CLb y_Mo_oneOf b_Mo_oneOf 5 (some .int) 4 := ⟨(List.mem_of_getElem? (i := 1059) rfl), (Tw_in (List.mem_of_getElem? (i := 80) (by decide +kernel)) rfl), by decide, by decide, by decide +kernel⟩
theorem cv_Mo_225 : CV "MovedFoldersModel" 225 9 y_Mo_oneOf b_Mo_oneOf 5 (some .int) 4 := ⟨cb_Mo_oneOf, (Tw_in (List.mem_of_getElem? (i := 1056) (by decide +kernel)) rfl), (Tw_in (List.mem_of_getElem? (i := 1058) (by decide +kernel)) rfl), (Tw_in (List.mem_of_getElem? (i := 54) (by decide +kernel)) rfl), rfl⟩
set_option maxRecDepth 100000 in
theorem cb_Mo_pathOn : CLb y_Mo_pathOn b_Mo_pathOn 4 (some .int) 2 := ⟨(List.mem_of_getElem? (i := 1051) rfl), (Tw_in (List.mem_of_getElem? (i := 80) (by decide +kernel)) rfl), by decide, by decide, by decide +kernel⟩
theorem cv_Mo_231 : CV "MovedFoldersModel" 231 9 y_Mo_pathOn b_Mo_pathOn 4 (some .int) 2 := ⟨cb_Mo_pathOn, (Tw_in (List.mem_of_getElem? (i := 1048) (by decide +kernel)) rfl), (Tw_in (List.mem_of_getElem? (i := 1050) (by decide +kernel)) rfl), (Tw_in (List.mem_of_getElem? (i := 52) (by decide +kernel)) rfl), rfl⟩
set_option maxRecDepth 100000 in
theorem cb_Mo_folderOf : CLb y_Mo_folderOf b_Mo_folderOf 4 (some .int) 3 := ⟨(List.mem_of_getElem? (i := 1055) rfl), (Tw_in (List.mem_of_getElem? (i := 80) (by decide +kernel)) rfl), by decide, by decide, by decide +kernel⟩
theorem cv_Mo_234 : CV "MovedFoldersModel" 234 9 y_Mo_folderOf b_Mo_folderOf 4 (some .int) 3 := ⟨cb_Mo_folderOf, (Tw_in (List.mem_of_getElem? (i := 1052) (by decide +kernel)) rfl), (Tw_in (List.mem_of_getElem? (i := 1054) (by decide +kernel)) rfl), (Tw_in (List.mem_of_getElem? (i := 53) (by decide +kernel)) rfl), rfl⟩
set_option maxRecDepth 100000 in
theorem cb_Mo_contentOn : CLb y_Mo_contentOn b_Mo_contentOn 4 (some .int) 2 := ⟨(List.mem_of_getElem? (i := 1063) rfl), (Tw_in (List.mem_of_getElem? (i := 80) (by decide +kernel)) rfl), by decide, by decide, by decide +kernel⟩
theorem cv_Mo_237 : CV "MovedFoldersModel" 237 9 y_Mo_contentOn b_Mo_contentOn 4 (some .int) 2 := ⟨cb_Mo_contentOn, (Tw_in (List.mem_of_getElem? (i := 1060) (by decide +kernel)) rfl), (Tw_in (List.mem_of_getElem? (i := 1062) (by decide +kernel)) rfl), (Tw_in (List.mem_of_getElem? (i := 55) (by decide +kernel)) rfl), rfl⟩
set_option maxRecDepth 100000 in
theorem cb_Mo_contentOf : CLb y_Mo_contentOf b_Mo_contentOf 9 (some .int) 3 := ⟨(List.mem_of_getElem? (i := 1067) rfl), (Tw_in (List.mem_of_getElem? (i := 80) (by decide +kernel)) rfl), by decide, by decide, by decide +kernel⟩
theorem cv_Mo_240 : CV "MovedFoldersModel" 240 9 y_Mo_contentOf b_Mo_contentOf 9 (some .int) 3 := ⟨cb_Mo_contentOf, (Tw_in (List.mem_of_getElem? (i := 1064) (by decide +kernel)) rfl), (Tw_in (List.mem_of_getElem? (i := 1066) (by decide +kernel)) rfl), (Tw_in (List.mem_of_getElem? (i := 56) (by decide +kernel)) rfl), rfl⟩
set_option maxRecDepth 100000 in
theorem cb_Mo_addEntry : CLb y_Mo_addEntry b_Mo_addEntry 5 none 4 := ⟨(List.mem_of_getElem? (i := 1071) rfl), (Tw_in (List.mem_of_getElem? (i := 80) (by decide +kernel)) rfl), by decide, by decide, by decide +kernel⟩
theorem cv_Mo_243 : CV "MovedFoldersModel" 243 9 y_Mo_addEntry b_Mo_addEntry 5 none 4 := ⟨cb_Mo_addEntry, (Tw_in (List.mem_of_getElem? (i := 1068) (by decide +kernel)) rfl), (Tw_in (List.mem_of_getElem? (i := 1070) (by decide +kernel)) rfl), (Tw_in (List.mem_of_getElem? (i := 57) (by decide +kernel)) rfl), rfl⟩
set_option maxRecDepth 100000 in
theorem cb_Mo_isAsBase : CLb y_Mo_isAsBase b_Mo_isAsBase 4 (some .boolean) 2 := ⟨(List.mem_of_getElem? (i := 1047) rfl), (Tw_in (List.mem_of_getElem? (i := 80) (by decide +kernel)) rfl), by decide, by decide, by decide +kernel⟩
theorem cv_Mo_228 : CV "MovedFoldersModel" 228 9 y_Mo_isAsBase b_Mo_isAsBase 4 (some .boolean) 2 := ⟨cb_Mo_isAsBase, (Tw_in (List.mem_of_getElem? (i := 1044) (by decide +kernel)) rfl), (Tw_in (List.mem_of_getElem? (i := 1046) (by decide +kernel)) rfl), (Tw_in (List.mem_of_getElem? (i := 51) (by decide +kernel)) rfl), rfl⟩
theorem fl_Mo_54 : FL "MovedFoldersModel" 54 9 22 := ⟨R_Mo, T_Mo, 27, rfl, by decide, wt_Mo, (Tw_in (List.mem_of_getElem? (i := 781) (by decide +kernel)) rfl)⟩
set_option maxRecDepth 100000 in
theorem cb_Mo_newPath : CLb y_Mo_newPath b_Mo_newPath 3 (some .int) 2 := ⟨(List.mem_of_getElem? (i := 1079) rfl), (Tw_in (List.mem_of_getElem? (i := 80) (by decide +kernel)) rfl), by decide, by decide, by decide +kernel⟩
theorem cv_Mo_246 : CV "MovedFoldersModel" 246 9 y_Mo_newPath b_Mo_newPath 3 (some .int) 2 := ⟨cb_Mo_newPath, (Tw_in (List.mem_of_getElem? (i := 1076) (by decide +kernel)) rfl), (Tw_in (List.mem_of_getElem? (i := 1078) (by decide +kernel)) rfl), (Tw_in (List.mem_of_getElem? (i := 59) (by decide +kernel)) rfl), rfl⟩
set_option maxRecDepth 100000 in
theorem cb_Mo_twinOf : CLb y_Mo_twinOf b_Mo_twinOf 5 (some .int) 2 := ⟨(List.mem_of_getElem? (i := 1083) rfl), (Tw_in (List.mem_of_getElem? (i := 80) (by decide +kernel)) rfl), by decide, by decide, by decide +kernel⟩
theorem cv_Mo_249 : CV "MovedFoldersModel" 249 9 y_Mo_twinOf b_Mo_twinOf 5 (some .int) 2 := ⟨cb_Mo_twinOf, (Tw_in (List.mem_of_getElem? (i := 1080) (by decide +kernel)) rfl), (Tw_in (List.mem_of_getElem? (i := 1082) (by decide +kernel)) rfl), (Tw_in (List.mem_of_getElem? (i := 60) (by decide +kernel)) rfl), rfl⟩
set_option maxRecDepth 100000 in
theorem cb_Mo_isBefore : CLb y_Mo_isBefore b_Mo_isBefore 3 (some .boolean) 2 := ⟨(List.mem_of_getElem? (i := 1095) rfl), (Tw_in (List.mem_of_getElem? (i := 80) (by decide +kernel)) rfl), by decide, by decide, by decide +kernel⟩
theorem cv_Mo_252 : CV "MovedFoldersModel" 252 9 y_Mo_isBefore b_Mo_isBefore 3 (some .boolean) 2 := ⟨cb_Mo_isBefore, (Tw_in (List.mem_of_getElem? (i := 1092) (by decide +kernel)) rfl), (Tw_in (List.mem_of_getElem? (i := 1094) (by decide +kernel)) rfl), (Tw_in (List.mem_of_getElem? (i := 63) (by decide +kernel)) rfl), rfl⟩
set_option maxRecDepth 100000 in
theorem cb_Mo_change : CLb y_Mo_change b_Mo_change 4 none 3 := ⟨(List.mem_of_getElem? (i := 1098) rfl), (Tw_in (List.mem_of_getElem? (i := 80) (by decide +kernel)) rfl), by decide, by decide, by decide +kernel⟩
theorem cs_Mo_255 : CS "MovedFoldersModel" 255 y_Mo_change b_Mo_change 4 none 3 := ⟨cb_Mo_change, (Tw_in (List.mem_of_getElem? (i := 1096) (by decide +kernel)) rfl), (Tw_in (List.mem_of_getElem? (i := 1097) (by decide +kernel)) rfl)⟩
set_option maxRecDepth 100000 in
theorem cb_Mo_mergeNew : CLb y_Mo_mergeNew b_Mo_mergeNew 4 none 0 := ⟨(List.mem_of_getElem? (i := 1075) rfl), (Tw_in (List.mem_of_getElem? (i := 80) (by decide +kernel)) rfl), by decide, by decide, by decide +kernel⟩
theorem cv_Mo_262 : CV "MovedFoldersModel" 262 9 y_Mo_mergeNew b_Mo_mergeNew 4 none 0 := ⟨cb_Mo_mergeNew, (Tw_in (List.mem_of_getElem? (i := 1072) (by decide +kernel)) rfl), (Tw_in (List.mem_of_getElem? (i := 1074) (by decide +kernel)) rfl), (Tw_in (List.mem_of_getElem? (i := 58) (by decide +kernel)) rfl), rfl⟩
set_option maxRecDepth 100000 in
theorem cb_Mo_meetAll : CLb y_Mo_meetAll b_Mo_meetAll 3 none 0 := ⟨(List.mem_of_getElem? (i := 1087) rfl), (Tw_in (List.mem_of_getElem? (i := 80) (by decide +kernel)) rfl), by decide, by decide, by decide +kernel⟩
theorem cv_Mo_265 : CV "MovedFoldersModel" 265 9 y_Mo_meetAll b_Mo_meetAll 3 none 0 := ⟨cb_Mo_meetAll, (Tw_in (List.mem_of_getElem? (i := 1084) (by decide +kernel)) rfl), (Tw_in (List.mem_of_getElem? (i := 1086) (by decide +kernel)) rfl), (Tw_in (List.mem_of_getElem? (i := 61) (by decide +kernel)) rfl), rfl⟩
set_option maxRecDepth 100000 in
theorem cb_Mo_sortAll : CLb y_Mo_sortAll b_Mo_sortAll 3 none 0 := ⟨(List.mem_of_getElem? (i := 1091) rfl), (Tw_in (List.mem_of_getElem? (i := 80) (by decide +kernel)) rfl), by decide, by decide, by decide +kernel⟩
theorem cv_Mo_268 : CV "MovedFoldersModel" 268 9 y_Mo_sortAll b_Mo_sortAll 3 none 0 := ⟨cb_Mo_sortAll, (Tw_in (List.mem_of_getElem? (i := 1088) (by decide +kernel)) rfl), (Tw_in (List.mem_of_getElem? (i := 1090) (by decide +kernel)) rfl), (Tw_in (List.mem_of_getElem? (i := 62) (by decide +kernel)) rfl), rfl⟩
set_option maxRecDepth 100000 in
theorem cb_Mo_mergeOld : CLb y_Mo_mergeOld b_Mo_mergeOld 7 none 1 := ⟨(List.mem_of_getElem? (i := 1043) rfl), (Tw_in (List.mem_of_getElem? (i := 80) (by decide +kernel)) rfl), by decide, by decide, by decide +kernel⟩
theorem cv_Mo_259 : CV "MovedFoldersModel" 259 9 y_Mo_mergeOld b_Mo_mergeOld 7 none 1 := ⟨cb_Mo_mergeOld, (Tw_in (List.mem_of_getElem? (i := 1040) (by decide +kernel)) rfl), (Tw_in (List.mem_of_getElem? (i := 1042) (by decide +kernel)) rfl), (Tw_in (List.mem_of_getElem? (i := 50) (by decide +kernel)) rfl), rfl⟩
theorem kl_Mo_271 : Cond.constantLong "MovedFoldersModel" 271 3 ∈ Tw := (Tw_in (List.mem_of_getElem? (i := 1035) (by decide +kernel)) rfl)
set_option maxRecDepth 100000 in
theorem cb_Mo_merge : CLb y_Mo_merge b_Mo_merge 2 none 0 := ⟨(List.mem_of_getElem? (i := 1039) rfl), (Tw_in (List.mem_of_getElem? (i := 80) (by decide +kernel)) rfl), by decide, by decide, by decide +kernel⟩
theorem cv_Mo_273 : CV "MovedFoldersModel" 273 9 y_Mo_merge b_Mo_merge 2 none 0 := ⟨cb_Mo_merge, (Tw_in (List.mem_of_getElem? (i := 1036) (by decide +kernel)) rfl), (Tw_in (List.mem_of_getElem? (i := 1038) (by decide +kernel)) rfl), (Tw_in (List.mem_of_getElem? (i := 49) (by decide +kernel)) rfl), rfl⟩
set_option maxRecDepth 100000 in
theorem cb_Mo_causesAt : CLb y_Mo_causesAt b_Mo_causesAt 4 (some .int) 1 := ⟨(List.mem_of_getElem? (i := 1106) rfl), (Tw_in (List.mem_of_getElem? (i := 80) (by decide +kernel)) rfl), by decide, by decide, by decide +kernel⟩
theorem cv_Mo_276 : CV "MovedFoldersModel" 276 9 y_Mo_causesAt b_Mo_causesAt 4 (some .int) 1 := ⟨cb_Mo_causesAt, (Tw_in (List.mem_of_getElem? (i := 1103) (by decide +kernel)) rfl), (Tw_in (List.mem_of_getElem? (i := 1105) (by decide +kernel)) rfl), (Tw_in (List.mem_of_getElem? (i := 64) (by decide +kernel)) rfl), rfl⟩
set_option maxRecDepth 100000 in
theorem cb_Mo_clash : CLb y_Mo_clash b_Mo_clash 6 (some .int) 2 := ⟨(List.mem_of_getElem? (i := 1102) rfl), (Tw_in (List.mem_of_getElem? (i := 80) (by decide +kernel)) rfl), by decide, by decide, by decide +kernel⟩
theorem cv_Mo_279 : CV "MovedFoldersModel" 279 9 y_Mo_clash b_Mo_clash 6 (some .int) 2 := ⟨cb_Mo_clash, (Tw_in (List.mem_of_getElem? (i := 1111) (by decide +kernel)) rfl), (Tw_in (List.mem_of_getElem? (i := 1100) (by decide +kernel)) rfl), (Tw_in (List.mem_of_getElem? (i := 1101) (by decide +kernel)) rfl), rfl⟩
theorem fl_Mo_282 : FL "MovedFoldersModel" 282 9 26 := ⟨R_Mo, T_Mo, 27, rfl, by decide, wt_Mo, (Tw_in (List.mem_of_getElem? (i := 785) (by decide +kernel)) rfl)⟩
theorem fl_Mo_57 : FL "MovedFoldersModel" 57 9 23 := ⟨R_Mo, T_Mo, 27, rfl, by decide, wt_Mo, (Tw_in (List.mem_of_getElem? (i := 782) (by decide +kernel)) rfl)⟩
theorem fl_Mo_286 : FL "MovedFoldersModel" 286 9 25 := ⟨R_Mo, T_Mo, 27, rfl, by decide, wt_Mo, (Tw_in (List.mem_of_getElem? (i := 784) (by decide +kernel)) rfl)⟩
theorem fp_Mo_286 : FP "MovedFoldersModel" 286 9 25 .int false := ⟨R_Mo, T_Mo, 27, ty_Mo, rfl, by decide, wt_Mo, (Tw_in (List.mem_of_getElem? (i := 784) (by decide +kernel)) rfl), ty_Mo_ok, nm_Mo, rfl, by decide +kernel, rfl⟩
set_option maxRecDepth 100000 in
theorem cb_Mo_passRow : CLb y_Mo_passRow b_Mo_passRow 4 none 2 := ⟨(List.mem_of_getElem? (i := 1127) rfl), (Tw_in (List.mem_of_getElem? (i := 80) (by decide +kernel)) rfl), by decide, by decide, by decide +kernel⟩
theorem cv_Mo_289 : CV "MovedFoldersModel" 289 9 y_Mo_passRow b_Mo_passRow 4 none 2 := ⟨cb_Mo_passRow, (Tw_in (List.mem_of_getElem? (i := 1124) (by decide +kernel)) rfl), (Tw_in (List.mem_of_getElem? (i := 1126) (by decide +kernel)) rfl), (Tw_in (List.mem_of_getElem? (i := 66) (by decide +kernel)) rfl), rfl⟩
theorem fp_Mo_282 : FP "MovedFoldersModel" 282 9 26 .boolean false := ⟨R_Mo, T_Mo, 27, ty_Mo, rfl, by decide, wt_Mo, (Tw_in (List.mem_of_getElem? (i := 785) (by decide +kernel)) rfl), ty_Mo_ok, nm_Mo, rfl, by decide +kernel, rfl⟩
set_option maxRecDepth 100000 in
theorem cb_Mo_passAll : CLb y_Mo_passAll b_Mo_passAll 1 none 0 := ⟨(List.mem_of_getElem? (i := 1123) rfl), (Tw_in (List.mem_of_getElem? (i := 80) (by decide +kernel)) rfl), by decide, by decide, by decide +kernel⟩
theorem cv_Mo_293 : CV "MovedFoldersModel" 293 9 y_Mo_passAll b_Mo_passAll 1 none 0 := ⟨cb_Mo_passAll, (Tw_in (List.mem_of_getElem? (i := 1120) (by decide +kernel)) rfl), (Tw_in (List.mem_of_getElem? (i := 1122) (by decide +kernel)) rfl), (Tw_in (List.mem_of_getElem? (i := 65) (by decide +kernel)) rfl), rfl⟩
theorem fl_Mo_60 : FL "MovedFoldersModel" 60 9 24 := ⟨R_Mo, T_Mo, 27, rfl, by decide, wt_Mo, (Tw_in (List.mem_of_getElem? (i := 783) (by decide +kernel)) rfl)⟩
set_option maxRecDepth 100000 in
theorem cb_Mo_movedMany : CLb y_Mo_movedMany b_Mo_movedMany 4 (some .int) 1 := ⟨(List.mem_of_getElem? (i := 1151) rfl), (Tw_in (List.mem_of_getElem? (i := 80) (by decide +kernel)) rfl), by decide, by decide, by decide +kernel⟩
theorem cv_Mo_300 : CV "MovedFoldersModel" 300 9 y_Mo_movedMany b_Mo_movedMany 4 (some .int) 1 := ⟨cb_Mo_movedMany, (Tw_in (List.mem_of_getElem? (i := 1148) (by decide +kernel)) rfl), (Tw_in (List.mem_of_getElem? (i := 1150) (by decide +kernel)) rfl), (Tw_in (List.mem_of_getElem? (i := 69) (by decide +kernel)) rfl), rfl⟩
set_option maxRecDepth 100000 in
theorem cb_Mo_lackingOf : CLb y_Mo_lackingOf b_Mo_lackingOf 6 (some .int) 3 := ⟨(List.mem_of_getElem? (i := 1147) rfl), (Tw_in (List.mem_of_getElem? (i := 80) (by decide +kernel)) rfl), by decide, by decide, by decide +kernel⟩
theorem cv_Mo_296 : CV "MovedFoldersModel" 296 9 y_Mo_lackingOf b_Mo_lackingOf 6 (some .int) 3 := ⟨cb_Mo_lackingOf, (Tw_in (List.mem_of_getElem? (i := 1144) (by decide +kernel)) rfl), (Tw_in (List.mem_of_getElem? (i := 1146) (by decide +kernel)) rfl), (Tw_in (List.mem_of_getElem? (i := 68) (by decide +kernel)) rfl), rfl⟩
theorem kl_Mo_303 : Cond.constantLong "MovedFoldersModel" 303 10 ∈ Tw := (Tw_in (List.mem_of_getElem? (i := 1136) (by decide +kernel)) rfl)
theorem kl_Mo_305 : Cond.constantLong "MovedFoldersModel" 305 12 ∈ Tw := (Tw_in (List.mem_of_getElem? (i := 1137) (by decide +kernel)) rfl)
theorem kl_Mo_307 : Cond.constantLong "MovedFoldersModel" 307 20 ∈ Tw := (Tw_in (List.mem_of_getElem? (i := 1138) (by decide +kernel)) rfl)
theorem kl_Mo_309 : Cond.constantLong "MovedFoldersModel" 309 49 ∈ Tw := (Tw_in (List.mem_of_getElem? (i := 1139) (by decide +kernel)) rfl)
set_option maxRecDepth 100000 in
theorem cb_Mo_toldOfSide : CLb y_Mo_toldOfSide b_Mo_toldOfSide 3 (some .int) 2 := ⟨(List.mem_of_getElem? (i := 1143) rfl), (Tw_in (List.mem_of_getElem? (i := 80) (by decide +kernel)) rfl), by decide, by decide, by decide +kernel⟩
theorem cv_Mo_311 : CV "MovedFoldersModel" 311 9 y_Mo_toldOfSide b_Mo_toldOfSide 3 (some .int) 2 := ⟨cb_Mo_toldOfSide, (Tw_in (List.mem_of_getElem? (i := 1140) (by decide +kernel)) rfl), (Tw_in (List.mem_of_getElem? (i := 1142) (by decide +kernel)) rfl), (Tw_in (List.mem_of_getElem? (i := 67) (by decide +kernel)) rfl), rfl⟩
end
section
section MM0
variable {l : Launch} {base : Nat} {D : va_G} {cI cZ : ClassId} {p : Program} {e : Env} {s : State} {m : MethodId} {args : Array Value} {below : List Frame} {meth : Method} {c : Code}
theorem d_Tree_init_0 : decode b_Tree_init 0 = .ok (.aload_n 0, 1) := by decide +kernel
theorem d_Tree_init_1 : decode b_Tree_init 1 = .ok (.invokespecial 3, 3) := by decide +kernel
theorem d_Tree_init_4 : decode b_Tree_init 4 = .ok (.aload_n 0, 1) := by decide +kernel
theorem d_Tree_init_5 : decode b_Tree_init 5 = .ok (.bipush 12, 2) := by decide +kernel
theorem d_Tree_init_7 : decode b_Tree_init 7 = .ok (.newarray .int, 2) := by decide +kernel
theorem d_Tree_init_9 : decode b_Tree_init 9 = .ok (.putfield 9, 3) := by decide +kernel
theorem d_Tree_init_12 : decode b_Tree_init 12 = .ok (.aload_n 0, 1) := by decide +kernel
theorem d_Tree_init_13 : decode b_Tree_init 13 = .ok (.bipush 12, 2) := by decide +kernel
theorem d_Tree_init_15 : decode b_Tree_init 15 = .ok (.newarray .int, 2) := by decide +kernel
theorem d_Tree_init_17 : decode b_Tree_init 17 = .ok (.putfield 15, 3) := by decide +kernel
theorem d_Tree_init_20 : decode b_Tree_init 20 = .ok (.aload_n 0, 1) := by decide +kernel
theorem d_Tree_init_21 : decode b_Tree_init 21 = .ok (.iconst 0, 1) := by decide +kernel
theorem d_Tree_init_22 : decode b_Tree_init 22 = .ok (.putfield 18, 3) := by decide +kernel
theorem d_Tree_init_25 : decode b_Tree_init 25 = .ok (.return_, 1) := by decide +kernel
def f_Tree_init (h : Hp) (l0 : Nat) : Option Hp :=
  ck h 7 l0 (
    (sR (h ++ [.inl (false, 12, fun _ => 0)]) 7 l0 0 h.length).bind fun h1 =>
    (sR (h1 ++ [.inl (false, 12, fun _ => 0)]) 7 l0 1 h1.length).bind fun h2 =>
    (sI h2 7 l0 2 (0 : Int32)).bind fun h3 =>
    some h3
  )
theorem o_Tree_init {h : Hp} {l0 : Nat} {r : Hp} (hM : f_Tree_init h l0 = some r) : isO h 7 l0 = true := by
  unfold f_Tree_init at hM
  exact (ck_some hM).1
set_option maxHeartbeats 4000000 in
set_option maxRecDepth 100000 in
theorem t_Tree_init {h : Hp} {l0 : Nat} {r : Hp} (C : Cx base D cI cZ b_Tree_init 1 "MovedFolders$Tree" "<init>" none p s m args meth c) (hM : f_Tree_init h l0 = some r) (H : Heap) (locs : List Loc) (ls : Array Slot) (hS : RS base D cI cZ s H locs h) (hl : lv_has ls 1 [(0, .ref (base + l0))]) : Wg l base D cI cZ 1 12 2 24 r none p e s m args below meth c H locs 0 0 (F0 m 0 ls []) := by
  have hx := C.1
  have hb := C.2.1
  unfold f_Tree_init at hM
  replace hM := (ck_some hM).2
  refine lv_aload_n hx hb d_Tree_init_0 rfl (lv_at hl 0 rfl) ?_
  refine r_obj C oi_Tree_3 hl.1 rfl ⟨(Nat.le_of_ble_eq_true rfl), (Nat.le_of_ble_eq_true rfl)⟩ d_Tree_init_1 ?_
  refine lv_aload_n hx hb d_Tree_init_4 rfl (lv_at hl 0 rfl) ?_
  refine lv_bipush (v := (12 : Int32)) hx hb d_Tree_init_5 (by decide) ?_
  refine r_newI (N := 12) C hS ac_int (by decide) (by decide) (Nat.le_of_ble_eq_true rfl) (Nat.le_of_ble_eq_true rfl) (Nat.le_of_ble_eq_true rfl) d_Tree_init_7 (fun H hS => ?_)
  obtain ⟨h1, eh1, hM⟩ := bS hM
  refine r_putF C hS fp_Tree_9 (fun q hq => by cases hq; rfl) eh1 rfl rfl d_Tree_init_9 (fun H locs hS => ?_)
  refine lv_aload_n hx hb d_Tree_init_12 rfl (lv_at hl 0 rfl) ?_
  refine lv_bipush (v := (12 : Int32)) hx hb d_Tree_init_13 (by decide) ?_
  refine r_newI (N := 12) C hS ac_int (by decide) (by decide) (Nat.le_of_ble_eq_true rfl) (Nat.le_of_ble_eq_true rfl) (Nat.le_of_ble_eq_true rfl) d_Tree_init_15 (fun H hS => ?_)
  obtain ⟨h2, eh2, hM⟩ := bS hM
  refine r_putF C hS fp_Tree_15 (fun q hq => by cases hq; rfl) eh2 rfl rfl d_Tree_init_17 (fun H locs hS => ?_)
  refine lv_aload_n hx hb d_Tree_init_20 rfl (lv_at hl 0 rfl) ?_
  refine lv_iconst (v := (0 : Int32)) hx hb d_Tree_init_21 (by decide) ?_
  obtain ⟨h3, eh3, hM⟩ := bS hM
  refine r_putI C hS fp_Tree_18 eh3 d_Tree_init_22 (fun H locs hS => ?_)
  obtain rfl := Option.some.inj hM
  exact r_vret C hS d_Tree_init_25
theorem c_Tree_init (l : Launch) (base : Nat) (D : va_G) (cI cZ : ClassId) (h : Hp) (l0 : Nat) {r : Hp} (hM : f_Tree_init h l0 = some r) : Ct l base D cI cZ y_Tree_init b_Tree_init 1 none 1 12 2 24 h [.ref (base + l0)] r none :=
  ct_of (by decide) (Nat.le_of_ble_eq_true rfl) (fun p e s m below meth c ls C hS hl => t_Tree_init C hM _ _ _ hS hl)
theorem d_Held_init_0 : decode b_Held_init 0 = .ok (.aload_n 0, 1) := by decide +kernel
theorem d_Held_init_1 : decode b_Held_init 1 = .ok (.invokespecial 3, 3) := by decide +kernel
theorem d_Held_init_4 : decode b_Held_init 4 = .ok (.aload_n 0, 1) := by decide +kernel
theorem d_Held_init_5 : decode b_Held_init 5 = .ok (.new 9, 3) := by decide +kernel
theorem d_Held_init_8 : decode b_Held_init 8 = .ok (.dup, 1) := by decide +kernel
theorem d_Held_init_9 : decode b_Held_init 9 = .ok (.invokespecial 11, 3) := by decide +kernel
theorem d_Held_init_12 : decode b_Held_init 12 = .ok (.putfield 12, 3) := by decide +kernel
theorem d_Held_init_15 : decode b_Held_init 15 = .ok (.aload_n 0, 1) := by decide +kernel
theorem d_Held_init_16 : decode b_Held_init 16 = .ok (.new 9, 3) := by decide +kernel
theorem d_Held_init_19 : decode b_Held_init 19 = .ok (.dup, 1) := by decide +kernel
theorem d_Held_init_20 : decode b_Held_init 20 = .ok (.invokespecial 11, 3) := by decide +kernel
theorem d_Held_init_23 : decode b_Held_init 23 = .ok (.putfield 18, 3) := by decide +kernel
theorem d_Held_init_26 : decode b_Held_init 26 = .ok (.aload_n 0, 1) := by decide +kernel
theorem d_Held_init_27 : decode b_Held_init 27 = .ok (.new 9, 3) := by decide +kernel
theorem d_Held_init_30 : decode b_Held_init 30 = .ok (.dup, 1) := by decide +kernel
theorem d_Held_init_31 : decode b_Held_init 31 = .ok (.invokespecial 11, 3) := by decide +kernel
theorem d_Held_init_34 : decode b_Held_init 34 = .ok (.putfield 21, 3) := by decide +kernel
theorem d_Held_init_37 : decode b_Held_init 37 = .ok (.aload_n 0, 1) := by decide +kernel
theorem d_Held_init_38 : decode b_Held_init 38 = .ok (.bipush 50, 2) := by decide +kernel
theorem d_Held_init_40 : decode b_Held_init 40 = .ok (.putfield 24, 3) := by decide +kernel
theorem d_Held_init_43 : decode b_Held_init 43 = .ok (.return_, 1) := by decide +kernel
def f_Held_init (h : Hp) (l0 : Nat) : Option Hp :=
  ck h 0 l0 (
    (f_Tree_init (h ++ [.inr (7, [.null, .null, .int 0])]) h.length).bind fun h1 =>
    (sR h1 0 l0 0 h.length).bind fun h2 =>
    (f_Tree_init (h2 ++ [.inr (7, [.null, .null, .int 0])]) h2.length).bind fun h3 =>
    (sR h3 0 l0 1 h2.length).bind fun h4 =>
    (f_Tree_init (h4 ++ [.inr (7, [.null, .null, .int 0])]) h4.length).bind fun h5 =>
    (sR h5 0 l0 2 h4.length).bind fun h6 =>
    (sI h6 0 l0 3 (50 : Int32)).bind fun h7 =>
    some h7
  )
theorem o_Held_init {h : Hp} {l0 : Nat} {r : Hp} (hM : f_Held_init h l0 = some r) : isO h 0 l0 = true := by
  unfold f_Held_init at hM
  exact (ck_some hM).1
set_option maxHeartbeats 4000000 in
set_option maxRecDepth 100000 in
theorem t_Held_init {h : Hp} {l0 : Nat} {r : Hp} (C : Cx base D cI cZ b_Held_init 1 "MovedFolders$Held" "<init>" none p s m args meth c) (hM : f_Held_init h l0 = some r) (H : Heap) (locs : List Loc) (ls : Array Slot) (hS : RS base D cI cZ s H locs h) (hl : lv_has ls 1 [(0, .ref (base + l0))]) : Wg l base D cI cZ 2 32 9 81 r none p e s m args below meth c H locs 0 0 (F0 m 0 ls []) := by
  have hx := C.1
  have hb := C.2.1
  unfold f_Held_init at hM
  replace hM := (ck_some hM).2
  refine lv_aload_n hx hb d_Held_init_0 rfl (lv_at hl 0 rfl) ?_
  refine r_obj C oi_Held_3 hl.1 rfl ⟨(Nat.le_of_ble_eq_true rfl), (Nat.le_of_ble_eq_true rfl)⟩ d_Held_init_1 ?_
  refine lv_aload_n hx hb d_Held_init_4 rfl (lv_at hl 0 rfl) ?_
  refine r_new C hS nw_Held_9 (Nat.le_of_ble_eq_true rfl) (Nat.le_of_ble_eq_true rfl) d_Held_init_5 (fun H hS => ?_)
  refine lv_dup hx hb d_Held_init_8 rfl ?_
  obtain ⟨h1, eh1, hM⟩ := bS hM
  refine r_callN C hS cn_Held_11 (c_Tree_init l base D cI cZ (h ++ [.inr (7, [.null, .null, .int 0])]) h.length eh1) (rest := [.ref (base + h.length), .ref (base + l0)]) rfl hl.1 rfl (Nat.le_of_ble_eq_true rfl) ⟨(Nat.le_of_ble_eq_true rfl), (Nat.le_of_ble_eq_true rfl)⟩ ⟨(Nat.le_of_ble_eq_true rfl), (Nat.le_of_ble_eq_true rfl)⟩ d_Held_init_9 (fun H locs hS => ?_)
  obtain ⟨h2, eh2, hM⟩ := bS hM
  refine r_putF C hS fp_Held_12 (fun q hq => by cases hq; rfl) eh2 rfl rfl d_Held_init_12 (fun H locs hS => ?_)
  refine lv_aload_n hx hb d_Held_init_15 rfl (lv_at hl 0 rfl) ?_
  refine r_new C hS nw_Held_9 (Nat.le_of_ble_eq_true rfl) (Nat.le_of_ble_eq_true rfl) d_Held_init_16 (fun H hS => ?_)
  refine lv_dup hx hb d_Held_init_19 rfl ?_
  obtain ⟨h3, eh3, hM⟩ := bS hM
  refine r_callN C hS cn_Held_11 (c_Tree_init l base D cI cZ (h2 ++ [.inr (7, [.null, .null, .int 0])]) h2.length eh3) (rest := [.ref (base + h2.length), .ref (base + l0)]) rfl hl.1 rfl (Nat.le_of_ble_eq_true rfl) ⟨(Nat.le_of_ble_eq_true rfl), (Nat.le_of_ble_eq_true rfl)⟩ ⟨(Nat.le_of_ble_eq_true rfl), (Nat.le_of_ble_eq_true rfl)⟩ d_Held_init_20 (fun H locs hS => ?_)
  obtain ⟨h4, eh4, hM⟩ := bS hM
  refine r_putR C hS fp_Held_18 eh4 rfl rfl d_Held_init_23 (fun H locs hS => ?_)
  refine lv_aload_n hx hb d_Held_init_26 rfl (lv_at hl 0 rfl) ?_
  refine r_new C hS nw_Held_9 (Nat.le_of_ble_eq_true rfl) (Nat.le_of_ble_eq_true rfl) d_Held_init_27 (fun H hS => ?_)
  refine lv_dup hx hb d_Held_init_30 rfl ?_
  obtain ⟨h5, eh5, hM⟩ := bS hM
  refine r_callN C hS cn_Held_11 (c_Tree_init l base D cI cZ (h4 ++ [.inr (7, [.null, .null, .int 0])]) h4.length eh5) (rest := [.ref (base + h4.length), .ref (base + l0)]) rfl hl.1 rfl (Nat.le_of_ble_eq_true rfl) ⟨(Nat.le_of_ble_eq_true rfl), (Nat.le_of_ble_eq_true rfl)⟩ ⟨(Nat.le_of_ble_eq_true rfl), (Nat.le_of_ble_eq_true rfl)⟩ d_Held_init_31 (fun H locs hS => ?_)
  obtain ⟨h6, eh6, hM⟩ := bS hM
  refine r_putR C hS fp_Held_21 eh6 rfl rfl d_Held_init_34 (fun H locs hS => ?_)
  refine lv_aload_n hx hb d_Held_init_37 rfl (lv_at hl 0 rfl) ?_
  refine lv_bipush (v := (50 : Int32)) hx hb d_Held_init_38 (by decide) ?_
  obtain ⟨h7, eh7, hM⟩ := bS hM
  refine r_putI C hS fp_Held_24 eh7 d_Held_init_40 (fun H locs hS => ?_)
  obtain rfl := Option.some.inj hM
  exact r_vret C hS d_Held_init_43
theorem c_Held_init (l : Launch) (base : Nat) (D : va_G) (cI cZ : ClassId) (h : Hp) (l0 : Nat) {r : Hp} (hM : f_Held_init h l0 = some r) : Ct l base D cI cZ y_Held_init b_Held_init 1 none 2 32 9 81 h [.ref (base + l0)] r none :=
  ct_of (by decide) (Nat.le_of_ble_eq_true rfl) (fun p e s m below meth c ls C hS hl => t_Held_init C hM _ _ _ hS hl)
theorem d_Tree_take_0 : decode b_Tree_take 0 = .ok (.iconst 0, 1) := by decide +kernel
theorem d_Tree_take_1 : decode b_Tree_take 1 = .ok (.istore_n 2, 1) := by decide +kernel
theorem d_Tree_take_2 : decode b_Tree_take 2 = .ok (.iload_n 2, 1) := by decide +kernel
theorem d_Tree_take_3 : decode b_Tree_take 3 = .ok (.aload_n 1, 1) := by decide +kernel
theorem d_Tree_take_4 : decode b_Tree_take 4 = .ok (.getfield 18, 3) := by decide +kernel
theorem d_Tree_take_7 : decode b_Tree_take 7 = .ok (.if_icmp .ge 33, 3) := by decide +kernel
theorem d_Tree_take_10 : decode b_Tree_take 10 = .ok (.aload_n 0, 1) := by decide +kernel
theorem d_Tree_take_11 : decode b_Tree_take 11 = .ok (.getfield 9, 3) := by decide +kernel
theorem d_Tree_take_14 : decode b_Tree_take 14 = .ok (.iload_n 2, 1) := by decide +kernel
theorem d_Tree_take_15 : decode b_Tree_take 15 = .ok (.aload_n 1, 1) := by decide +kernel
theorem d_Tree_take_16 : decode b_Tree_take 16 = .ok (.getfield 9, 3) := by decide +kernel
theorem d_Tree_take_19 : decode b_Tree_take 19 = .ok (.iload_n 2, 1) := by decide +kernel
theorem d_Tree_take_20 : decode b_Tree_take 20 = .ok (.iaload, 1) := by decide +kernel
theorem d_Tree_take_21 : decode b_Tree_take 21 = .ok (.iastore, 1) := by decide +kernel
theorem d_Tree_take_22 : decode b_Tree_take 22 = .ok (.aload_n 0, 1) := by decide +kernel
theorem d_Tree_take_23 : decode b_Tree_take 23 = .ok (.getfield 15, 3) := by decide +kernel
theorem d_Tree_take_26 : decode b_Tree_take 26 = .ok (.iload_n 2, 1) := by decide +kernel
theorem d_Tree_take_27 : decode b_Tree_take 27 = .ok (.aload_n 1, 1) := by decide +kernel
theorem d_Tree_take_28 : decode b_Tree_take 28 = .ok (.getfield 15, 3) := by decide +kernel
theorem d_Tree_take_31 : decode b_Tree_take 31 = .ok (.iload_n 2, 1) := by decide +kernel
theorem d_Tree_take_32 : decode b_Tree_take 32 = .ok (.iaload, 1) := by decide +kernel
theorem d_Tree_take_33 : decode b_Tree_take 33 = .ok (.iastore, 1) := by decide +kernel
theorem d_Tree_take_34 : decode b_Tree_take 34 = .ok (.iinc 2 1, 3) := by decide +kernel
theorem d_Tree_take_37 : decode b_Tree_take 37 = .ok (.goto (-35), 3) := by decide +kernel
theorem d_Tree_take_40 : decode b_Tree_take 40 = .ok (.aload_n 0, 1) := by decide +kernel
theorem d_Tree_take_41 : decode b_Tree_take 41 = .ok (.aload_n 1, 1) := by decide +kernel
theorem d_Tree_take_42 : decode b_Tree_take 42 = .ok (.getfield 18, 3) := by decide +kernel
theorem d_Tree_take_45 : decode b_Tree_take 45 = .ok (.putfield 18, 3) := by decide +kernel
theorem d_Tree_take_48 : decode b_Tree_take 48 = .ok (.return_, 1) := by decide +kernel
def f_Tree_take_2 (l0 : Nat) (l1 : Nat) : Nat → Int32 → Hp → Option Hp
  | 0, _, _ => none
  | n + 1, l2, h =>
    (gI h 7 l1 2).bind fun t1 =>
    if t1 ≤ l2 then (
      (gI h 7 l1 2).bind fun t2 =>
      (sI h 7 l0 2 t2).bind fun h3 =>
      some h3
    ) else (
      (gR h 7 l0 0).bind fun t4 =>
      (gR h 7 l1 0).bind fun t5 =>
      (gA h false t5 l2).bind fun t6 =>
      (sA h t4 l2 t6).bind fun h7 =>
      (gR h7 7 l0 1).bind fun t8 =>
      (gR h7 7 l1 1).bind fun t9 =>
      (gA h7 false t9 l2).bind fun t10 =>
      (sA h7 t8 l2 t10).bind fun h11 =>
      f_Tree_take_2 l0 l1 n (l2 + (1 : Int32)) h11
    )
set_option maxHeartbeats 4000000 in
set_option maxRecDepth 100000 in
theorem t_Tree_take_2 {l0 : Nat} {l1 : Nat} {r : Hp} (C : Cx base D cI cZ b_Tree_take 3 "MovedFolders$Tree" "take" none p s m args meth c)  : ∀ (n : Nat) (l2 : Int32) (h : Hp), f_Tree_take_2 l0 l1 n l2 h = some r → ∀ (H : Heap) (locs : List Loc) (ls : Array Slot), RS base D cI cZ s H locs h → lv_has ls 3 [(0, .ref (base + l0)), (1, .ref (base + l1)), (2, .int l2)] → Wg l base D cI cZ 0 0 0 0 r none p e s m args below meth c H locs 0 0 (F0 m 2 ls []) := by
  have hx := C.1
  have hb := C.2.1
  intro n
  induction n with
  | zero =>
    intro l2 h hM
    rw [f_Tree_take_2] at hM
    cases hM
  | succ n ih =>
    intro l2 h hM H locs ls hS hl
    rw [f_Tree_take_2] at hM
    refine lv_iload_n hx hb d_Tree_take_2 rfl (lv_at hl 2 rfl) ?_
    refine lv_aload_n hx hb d_Tree_take_3 rfl (lv_at hl 1 rfl) ?_
    obtain ⟨t1, et1, hM⟩ := bS hM
    refine r_getI C hS fl_Tree_18 et1 d_Tree_take_4 ?_
    refine lv_icmp_ge (tgt := 40) hx hb d_Tree_take_7 (by decide) (fun c7_1 => ?_) (fun c7_1 => ?_)
    · rw [if_pos c7_1] at hM
      refine lv_aload_n hx hb d_Tree_take_40 rfl (lv_at hl 0 rfl) ?_
      refine lv_aload_n hx hb d_Tree_take_41 rfl (lv_at hl 1 rfl) ?_
      obtain ⟨t2, et2, hM⟩ := bS hM
      refine r_getI C hS fl_Tree_18 et2 d_Tree_take_42 ?_
      obtain ⟨h3, eh3, hM⟩ := bS hM
      refine r_putI C hS fp_Tree_18 eh3 d_Tree_take_45 (fun H locs hS => ?_)
      obtain rfl := Option.some.inj hM
      exact r_vret C hS d_Tree_take_48
    · rw [if_neg c7_1] at hM
      refine lv_aload_n hx hb d_Tree_take_10 rfl (lv_at hl 0 rfl) ?_
      obtain ⟨t4, et4, hM⟩ := bS hM
      refine r_getR C hS fl_Tree_9 et4 d_Tree_take_11 ?_
      refine lv_iload_n hx hb d_Tree_take_14 rfl (lv_at hl 2 rfl) ?_
      refine lv_aload_n hx hb d_Tree_take_15 rfl (lv_at hl 1 rfl) ?_
      obtain ⟨t5, et5, hM⟩ := bS hM
      refine r_getR C hS fl_Tree_9 et5 d_Tree_take_16 ?_
      refine lv_iload_n hx hb d_Tree_take_19 rfl (lv_at hl 2 rfl) ?_
      obtain ⟨t6, et6, hM⟩ := bS hM
      refine r_iald C hS et6 d_Tree_take_20 ?_
      obtain ⟨h7, eh7, hM⟩ := bS hM
      refine r_iast C hS eh7 d_Tree_take_21 (fun H locs hS => ?_)
      refine lv_aload_n hx hb d_Tree_take_22 rfl (lv_at hl 0 rfl) ?_
      obtain ⟨t8, et8, hM⟩ := bS hM
      refine r_getR C hS fl_Tree_15 et8 d_Tree_take_23 ?_
      refine lv_iload_n hx hb d_Tree_take_26 rfl (lv_at hl 2 rfl) ?_
      refine lv_aload_n hx hb d_Tree_take_27 rfl (lv_at hl 1 rfl) ?_
      obtain ⟨t9, et9, hM⟩ := bS hM
      refine r_getR C hS fl_Tree_15 et9 d_Tree_take_28 ?_
      refine lv_iload_n hx hb d_Tree_take_31 rfl (lv_at hl 2 rfl) ?_
      obtain ⟨t10, et10, hM⟩ := bS hM
      refine r_iald C hS et10 d_Tree_take_32 ?_
      obtain ⟨h11, eh11, hM⟩ := bS hM
      refine r_iast C hS eh11 d_Tree_take_33 (fun H locs hS => ?_)
      refine lv_iinc (v := (l2 + (1 : Int32))) (lv' := [(2, .int (l2 + (1 : Int32))), (0, .ref (base + l0)), (1, .ref (base + l1))]) hx hb d_Tree_take_34 hl (k := 2) rfl (by rw [oi_1]) (by decide) rfl (fun ls hl => ?_)
      refine lv_goto (tgt := 2) hx hb d_Tree_take_37 (by decide) ?_
      exact ih (l2 + (1 : Int32)) h11 hM _ _ _ hS (lv_sub hl [1, 2, 0] rfl)
def f_Tree_take (h : Hp) (l0 : Nat) (l1 : Nat) : Option Hp :=
  ck h 7 l0 (
    f_Tree_take_2 l0 l1 FU (0 : Int32) h
  )
theorem o_Tree_take {h : Hp} {l0 : Nat} {l1 : Nat} {r : Hp} (hM : f_Tree_take h l0 l1 = some r) : isO h 7 l0 = true := by
  unfold f_Tree_take at hM
  exact (ck_some hM).1
set_option maxHeartbeats 4000000 in
set_option maxRecDepth 100000 in
theorem t_Tree_take {h : Hp} {l0 : Nat} {l1 : Nat} {r : Hp} (C : Cx base D cI cZ b_Tree_take 3 "MovedFolders$Tree" "take" none p s m args meth c) (hM : f_Tree_take h l0 l1 = some r) (H : Heap) (locs : List Loc) (ls : Array Slot) (hS : RS base D cI cZ s H locs h) (hl : lv_has ls 3 [(0, .ref (base + l0)), (1, .ref (base + l1))]) : Wg l base D cI cZ 0 0 0 0 r none p e s m args below meth c H locs 0 0 (F0 m 0 ls []) := by
  have hx := C.1
  have hb := C.2.1
  unfold f_Tree_take at hM
  replace hM := (ck_some hM).2
  refine lv_iconst (v := (0 : Int32)) hx hb d_Tree_take_0 (by decide) ?_
  refine lv_istore_n (lv' := [(2, .int (0 : Int32)), (0, .ref (base + l0)), (1, .ref (base + l1))]) hx hb d_Tree_take_1 rfl hl (by decide) rfl (fun ls hl => ?_)
  exact t_Tree_take_2  C  FU (0 : Int32) h hM _ _ _ hS (lv_sub hl [1, 2, 0] rfl)
theorem c_Tree_take (l : Launch) (base : Nat) (D : va_G) (cI cZ : ClassId) (h : Hp) (l0 : Nat) (l1 : Nat) {r : Hp} (hM : f_Tree_take h l0 l1 = some r) : Ct l base D cI cZ y_Tree_take b_Tree_take 3 none 0 0 0 0 h [.ref (base + l0), .ref (base + l1)] r none :=
  ct_of (by decide) (Nat.le_of_ble_eq_true rfl) (fun p e s m below meth c ls C hS hl => t_Tree_take C hM _ _ _ hS hl)
theorem d_Held_take_0 : decode b_Held_take 0 = .ok (.aload_n 0, 1) := by decide +kernel
theorem d_Held_take_1 : decode b_Held_take 1 = .ok (.getfield 12, 3) := by decide +kernel
theorem d_Held_take_4 : decode b_Held_take 4 = .ok (.aload_n 1, 1) := by decide +kernel
theorem d_Held_take_5 : decode b_Held_take 5 = .ok (.getfield 12, 3) := by decide +kernel
theorem d_Held_take_8 : decode b_Held_take 8 = .ok (.invokevirtual 28, 3) := by decide +kernel
theorem d_Held_take_11 : decode b_Held_take 11 = .ok (.aload_n 0, 1) := by decide +kernel
theorem d_Held_take_12 : decode b_Held_take 12 = .ok (.getfield 18, 3) := by decide +kernel
theorem d_Held_take_15 : decode b_Held_take 15 = .ok (.aload_n 1, 1) := by decide +kernel
theorem d_Held_take_16 : decode b_Held_take 16 = .ok (.getfield 18, 3) := by decide +kernel
theorem d_Held_take_19 : decode b_Held_take 19 = .ok (.invokevirtual 28, 3) := by decide +kernel
theorem d_Held_take_22 : decode b_Held_take 22 = .ok (.aload_n 0, 1) := by decide +kernel
theorem d_Held_take_23 : decode b_Held_take 23 = .ok (.getfield 21, 3) := by decide +kernel
theorem d_Held_take_26 : decode b_Held_take 26 = .ok (.aload_n 1, 1) := by decide +kernel
theorem d_Held_take_27 : decode b_Held_take 27 = .ok (.getfield 21, 3) := by decide +kernel
theorem d_Held_take_30 : decode b_Held_take 30 = .ok (.invokevirtual 28, 3) := by decide +kernel
theorem d_Held_take_33 : decode b_Held_take 33 = .ok (.aload_n 0, 1) := by decide +kernel
theorem d_Held_take_34 : decode b_Held_take 34 = .ok (.aload_n 1, 1) := by decide +kernel
theorem d_Held_take_35 : decode b_Held_take 35 = .ok (.getfield 24, 3) := by decide +kernel
theorem d_Held_take_38 : decode b_Held_take 38 = .ok (.putfield 24, 3) := by decide +kernel
theorem d_Held_take_41 : decode b_Held_take 41 = .ok (.return_, 1) := by decide +kernel
def f_Held_take (h : Hp) (l0 : Nat) (l1 : Nat) : Option Hp :=
  ck h 0 l0 (
    (gR h 0 l0 0).bind fun t1 =>
    (gR h 0 l1 0).bind fun t2 =>
    (f_Tree_take h t1 t2).bind fun h3 =>
    (gR h3 0 l0 1).bind fun t4 =>
    (gR h3 0 l1 1).bind fun t5 =>
    (f_Tree_take h3 t4 t5).bind fun h6 =>
    (gR h6 0 l0 2).bind fun t7 =>
    (gR h6 0 l1 2).bind fun t8 =>
    (f_Tree_take h6 t7 t8).bind fun h9 =>
    (gI h9 0 l1 3).bind fun t10 =>
    (sI h9 0 l0 3 t10).bind fun h11 =>
    some h11
  )
theorem o_Held_take {h : Hp} {l0 : Nat} {l1 : Nat} {r : Hp} (hM : f_Held_take h l0 l1 = some r) : isO h 0 l0 = true := by
  unfold f_Held_take at hM
  exact (ck_some hM).1
set_option maxHeartbeats 4000000 in
set_option maxRecDepth 100000 in
theorem t_Held_take {h : Hp} {l0 : Nat} {l1 : Nat} {r : Hp} (C : Cx base D cI cZ b_Held_take 2 "MovedFolders$Held" "take" none p s m args meth c) (hM : f_Held_take h l0 l1 = some r) (H : Heap) (locs : List Loc) (ls : Array Slot) (hS : RS base D cI cZ s H locs h) (hl : lv_has ls 2 [(0, .ref (base + l0)), (1, .ref (base + l1))]) : Wg l base D cI cZ 1 22 0 0 r none p e s m args below meth c H locs 0 0 (F0 m 0 ls []) := by
  have hx := C.1
  have hb := C.2.1
  unfold f_Held_take at hM
  replace hM := (ck_some hM).2
  refine lv_aload_n hx hb d_Held_take_0 rfl (lv_at hl 0 rfl) ?_
  obtain ⟨t1, et1, hM⟩ := bS hM
  refine r_getR C hS fl_Held_12 et1 d_Held_take_1 ?_
  refine lv_aload_n hx hb d_Held_take_4 rfl (lv_at hl 1 rfl) ?_
  obtain ⟨t2, et2, hM⟩ := bS hM
  refine r_getR C hS fl_Held_12 et2 d_Held_take_5 ?_
  obtain ⟨h3, eh3, hM⟩ := bS hM
  refine r_callVv C hS cv_Held_28 (c_Tree_take l base D cI cZ h t1 t2 eh3) (o_Tree_take eh3) (rest := []) rfl hl.1 rfl (Nat.le_of_ble_eq_true rfl) ⟨(Nat.le_of_ble_eq_true rfl), (Nat.le_of_ble_eq_true rfl)⟩ ⟨(Nat.le_of_ble_eq_true rfl), (Nat.le_of_ble_eq_true rfl)⟩ d_Held_take_8 (fun H locs hS => ?_)
  refine lv_aload_n hx hb d_Held_take_11 rfl (lv_at hl 0 rfl) ?_
  obtain ⟨t4, et4, hM⟩ := bS hM
  refine r_getR C hS fl_Held_18 et4 d_Held_take_12 ?_
  refine lv_aload_n hx hb d_Held_take_15 rfl (lv_at hl 1 rfl) ?_
  obtain ⟨t5, et5, hM⟩ := bS hM
  refine r_getR C hS fl_Held_18 et5 d_Held_take_16 ?_
  obtain ⟨h6, eh6, hM⟩ := bS hM
  refine r_callVv C hS cv_Held_28 (c_Tree_take l base D cI cZ h3 t4 t5 eh6) (o_Tree_take eh6) (rest := []) rfl hl.1 rfl (Nat.le_of_ble_eq_true rfl) ⟨(Nat.le_of_ble_eq_true rfl), (Nat.le_of_ble_eq_true rfl)⟩ ⟨(Nat.le_of_ble_eq_true rfl), (Nat.le_of_ble_eq_true rfl)⟩ d_Held_take_19 (fun H locs hS => ?_)
  refine lv_aload_n hx hb d_Held_take_22 rfl (lv_at hl 0 rfl) ?_
  obtain ⟨t7, et7, hM⟩ := bS hM
  refine r_getR C hS fl_Held_21 et7 d_Held_take_23 ?_
  refine lv_aload_n hx hb d_Held_take_26 rfl (lv_at hl 1 rfl) ?_
  obtain ⟨t8, et8, hM⟩ := bS hM
  refine r_getR C hS fl_Held_21 et8 d_Held_take_27 ?_
  obtain ⟨h9, eh9, hM⟩ := bS hM
  refine r_callVv C hS cv_Held_28 (c_Tree_take l base D cI cZ h6 t7 t8 eh9) (o_Tree_take eh9) (rest := []) rfl hl.1 rfl (Nat.le_of_ble_eq_true rfl) ⟨(Nat.le_of_ble_eq_true rfl), (Nat.le_of_ble_eq_true rfl)⟩ ⟨(Nat.le_of_ble_eq_true rfl), (Nat.le_of_ble_eq_true rfl)⟩ d_Held_take_30 (fun H locs hS => ?_)
  refine lv_aload_n hx hb d_Held_take_33 rfl (lv_at hl 0 rfl) ?_
  refine lv_aload_n hx hb d_Held_take_34 rfl (lv_at hl 1 rfl) ?_
  obtain ⟨t10, et10, hM⟩ := bS hM
  refine r_getI C hS fl_Held_24 et10 d_Held_take_35 ?_
  obtain ⟨h11, eh11, hM⟩ := bS hM
  refine r_putI C hS fp_Held_24 eh11 d_Held_take_38 (fun H locs hS => ?_)
  obtain rfl := Option.some.inj hM
  exact r_vret C hS d_Held_take_41
theorem c_Held_take (l : Launch) (base : Nat) (D : va_G) (cI cZ : ClassId) (h : Hp) (l0 : Nat) (l1 : Nat) {r : Hp} (hM : f_Held_take h l0 l1 = some r) : Ct l base D cI cZ y_Held_take b_Held_take 2 none 1 22 0 0 h [.ref (base + l0), .ref (base + l1)] r none :=
  ct_of (by decide) (Nat.le_of_ble_eq_true rfl) (fun p e s m below meth c ls C hS hl => t_Held_take C hM _ _ _ hS hl)
theorem d_Letters_isFolder_0 : decode b_Letters_isFolder 0 = .ok (.iload_n 0, 1) := by decide +kernel
theorem d_Letters_isFolder_1 : decode b_Letters_isFolder 1 = .ok (.ifCond .lt 10, 3) := by decide +kernel
theorem d_Letters_isFolder_4 : decode b_Letters_isFolder 4 = .ok (.iload_n 0, 1) := by decide +kernel
theorem d_Letters_isFolder_5 : decode b_Letters_isFolder 5 = .ok (.sipush 444, 3) := by decide +kernel
theorem d_Letters_isFolder_8 : decode b_Letters_isFolder 8 = .ok (.if_icmp .le 5, 3) := by decide +kernel
theorem d_Letters_isFolder_11 : decode b_Letters_isFolder 11 = .ok (.iconst 0, 1) := by decide +kernel
theorem d_Letters_isFolder_12 : decode b_Letters_isFolder 12 = .ok (.ireturn, 1) := by decide +kernel
theorem d_Letters_isFolder_13 : decode b_Letters_isFolder 13 = .ok (.iload_n 0, 1) := by decide +kernel
theorem d_Letters_isFolder_14 : decode b_Letters_isFolder 14 = .ok (.bipush 100, 2) := by decide +kernel
theorem d_Letters_isFolder_16 : decode b_Letters_isFolder 16 = .ok (.idiv, 1) := by decide +kernel
theorem d_Letters_isFolder_17 : decode b_Letters_isFolder 17 = .ok (.istore_n 1, 1) := by decide +kernel
theorem d_Letters_isFolder_18 : decode b_Letters_isFolder 18 = .ok (.iload_n 0, 1) := by decide +kernel
theorem d_Letters_isFolder_19 : decode b_Letters_isFolder 19 = .ok (.bipush 10, 2) := by decide +kernel
theorem d_Letters_isFolder_21 : decode b_Letters_isFolder 21 = .ok (.idiv, 1) := by decide +kernel
theorem d_Letters_isFolder_22 : decode b_Letters_isFolder 22 = .ok (.bipush 10, 2) := by decide +kernel
theorem d_Letters_isFolder_24 : decode b_Letters_isFolder 24 = .ok (.irem, 1) := by decide +kernel
theorem d_Letters_isFolder_25 : decode b_Letters_isFolder 25 = .ok (.istore_n 2, 1) := by decide +kernel
theorem d_Letters_isFolder_26 : decode b_Letters_isFolder 26 = .ok (.iload_n 0, 1) := by decide +kernel
theorem d_Letters_isFolder_27 : decode b_Letters_isFolder 27 = .ok (.bipush 10, 2) := by decide +kernel
theorem d_Letters_isFolder_29 : decode b_Letters_isFolder 29 = .ok (.irem, 1) := by decide +kernel
theorem d_Letters_isFolder_30 : decode b_Letters_isFolder 30 = .ok (.istore_n 3, 1) := by decide +kernel
theorem d_Letters_isFolder_31 : decode b_Letters_isFolder 31 = .ok (.iload_n 2, 1) := by decide +kernel
theorem d_Letters_isFolder_32 : decode b_Letters_isFolder 32 = .ok (.iconst 4, 1) := by decide +kernel
theorem d_Letters_isFolder_33 : decode b_Letters_isFolder 33 = .ok (.if_icmp .gt 8, 3) := by decide +kernel
theorem d_Letters_isFolder_36 : decode b_Letters_isFolder 36 = .ok (.iload_n 3, 1) := by decide +kernel
theorem d_Letters_isFolder_37 : decode b_Letters_isFolder 37 = .ok (.iconst 4, 1) := by decide +kernel
theorem d_Letters_isFolder_38 : decode b_Letters_isFolder 38 = .ok (.if_icmp .le 5, 3) := by decide +kernel
theorem d_Letters_isFolder_41 : decode b_Letters_isFolder 41 = .ok (.iconst 0, 1) := by decide +kernel
theorem d_Letters_isFolder_42 : decode b_Letters_isFolder 42 = .ok (.ireturn, 1) := by decide +kernel
theorem d_Letters_isFolder_43 : decode b_Letters_isFolder 43 = .ok (.iload_n 1, 1) := by decide +kernel
theorem d_Letters_isFolder_44 : decode b_Letters_isFolder 44 = .ok (.ifCond .ne 7, 3) := by decide +kernel
theorem d_Letters_isFolder_47 : decode b_Letters_isFolder 47 = .ok (.iload_n 2, 1) := by decide +kernel
theorem d_Letters_isFolder_48 : decode b_Letters_isFolder 48 = .ok (.ifCond .ne 15, 3) := by decide +kernel
theorem d_Letters_isFolder_51 : decode b_Letters_isFolder 51 = .ok (.iload_n 2, 1) := by decide +kernel
theorem d_Letters_isFolder_52 : decode b_Letters_isFolder 52 = .ok (.ifCond .ne 7, 3) := by decide +kernel
theorem d_Letters_isFolder_55 : decode b_Letters_isFolder 55 = .ok (.iload_n 3, 1) := by decide +kernel
theorem d_Letters_isFolder_56 : decode b_Letters_isFolder 56 = .ok (.ifCond .ne 7, 3) := by decide +kernel
theorem d_Letters_isFolder_59 : decode b_Letters_isFolder 59 = .ok (.iconst 1, 1) := by decide +kernel
theorem d_Letters_isFolder_60 : decode b_Letters_isFolder 60 = .ok (.goto 4, 3) := by decide +kernel
theorem d_Letters_isFolder_63 : decode b_Letters_isFolder 63 = .ok (.iconst 0, 1) := by decide +kernel
theorem d_Letters_isFolder_64 : decode b_Letters_isFolder 64 = .ok (.ireturn, 1) := by decide +kernel
def f_Letters_isFolder (l0 : Int32) : Option Int32 :=
  if l0 < (0 : Int32) then (
    rz (0 : Int32)
  ) else (
    if l0 ≤ (444 : Int32) then (
      if (4 : Int32) < (irem (l0 / (10 : Int32)) (10 : Int32)) then (
        rz (0 : Int32)
      ) else (
        if (irem l0 (10 : Int32)) ≤ (4 : Int32) then (
          rz (if (l0 / (100 : Int32)) = (0 : Int32) then (if (irem (l0 / (10 : Int32)) (10 : Int32)) = (0 : Int32) then (if (irem (l0 / (10 : Int32)) (10 : Int32)) = (0 : Int32) then (if (irem l0 (10 : Int32)) = (0 : Int32) then ((1 : Int32)) else ((0 : Int32))) else ((1 : Int32))) else ((0 : Int32))) else (if (irem (l0 / (10 : Int32)) (10 : Int32)) = (0 : Int32) then (if (irem l0 (10 : Int32)) = (0 : Int32) then ((1 : Int32)) else ((0 : Int32))) else ((1 : Int32))))
        ) else (
          rz (0 : Int32)
        )
      )
    ) else (
      rz (0 : Int32)
    )
  )
set_option maxHeartbeats 4000000 in
set_option maxRecDepth 100000 in
theorem t_Letters_isFolder {h : Hp} {l0 : Int32} {r : Int32} (C : Cx base D cI cZ b_Letters_isFolder 4 "MovedFolders$Letters" "isFolder" (some .boolean) p s m args meth c) (hM : f_Letters_isFolder l0 = some r) (H : Heap) (locs : List Loc) (ls : Array Slot) (hS : RS base D cI cZ s H locs h) (hl : lv_has ls 4 [(0, .int l0)]) : Wg l base D cI cZ 0 0 0 0 h (some (.int r)) p e s m args below meth c H locs 0 0 (F0 m 0 ls []) := by
  have hx := C.1
  have hb := C.2.1
  unfold f_Letters_isFolder at hM
  refine lv_iload_n hx hb d_Letters_isFolder_0 rfl (lv_at hl 0 rfl) ?_
  refine lv_if_lt (tgt := 11) hx hb d_Letters_isFolder_1 (by decide) (fun c1_1 => ?_) (fun c1_1 => ?_)
  · rw [if_pos c1_1] at hM
    refine lv_iconst (v := (0 : Int32)) hx hb d_Letters_isFolder_11 (by decide) ?_
    exact r_zret C hS hM d_Letters_isFolder_12
  · rw [if_neg c1_1] at hM
    refine lv_iload_n hx hb d_Letters_isFolder_4 rfl (lv_at hl 0 rfl) ?_
    refine lv_sipush (v := (444 : Int32)) hx hb d_Letters_isFolder_5 (by decide) ?_
    refine lv_icmp_le (tgt := 13) hx hb d_Letters_isFolder_8 (by decide) (fun c8_2 => ?_) (fun c8_2 => ?_)
    · rw [if_pos c8_2] at hM
      refine lv_iload_n hx hb d_Letters_isFolder_13 rfl (lv_at hl 0 rfl) ?_
      refine lv_bipush (v := (100 : Int32)) hx hb d_Letters_isFolder_14 (by decide) ?_
      refine lv_idiv hx hb d_Letters_isFolder_16 (by decide) ?_
      refine lv_istore_n (lv' := [(1, .int (l0 / (100 : Int32))), (0, .int l0)]) hx hb d_Letters_isFolder_17 rfl hl (by decide) rfl (fun ls hl => ?_)
      refine lv_iload_n hx hb d_Letters_isFolder_18 rfl (lv_at hl 1 rfl) ?_
      refine lv_bipush (v := (10 : Int32)) hx hb d_Letters_isFolder_19 (by decide) ?_
      refine lv_idiv hx hb d_Letters_isFolder_21 (by decide) ?_
      refine lv_bipush (v := (10 : Int32)) hx hb d_Letters_isFolder_22 (by decide) ?_
      refine r_irem hx hb d_Letters_isFolder_24 (by decide) ?_
      refine lv_istore_n (lv' := [(2, .int (irem (l0 / (10 : Int32)) (10 : Int32))), (1, .int (l0 / (100 : Int32))), (0, .int l0)]) hx hb d_Letters_isFolder_25 rfl hl (by decide) rfl (fun ls hl => ?_)
      refine lv_iload_n hx hb d_Letters_isFolder_26 rfl (lv_at hl 2 rfl) ?_
      refine lv_bipush (v := (10 : Int32)) hx hb d_Letters_isFolder_27 (by decide) ?_
      refine r_irem hx hb d_Letters_isFolder_29 (by decide) ?_
      refine lv_istore_n (lv' := [(3, .int (irem l0 (10 : Int32))), (2, .int (irem (l0 / (10 : Int32)) (10 : Int32))), (1, .int (l0 / (100 : Int32))), (0, .int l0)]) hx hb d_Letters_isFolder_30 rfl hl (by decide) rfl (fun ls hl => ?_)
      refine lv_iload_n hx hb d_Letters_isFolder_31 rfl (lv_at hl 1 rfl) ?_
      refine lv_iconst (v := (4 : Int32)) hx hb d_Letters_isFolder_32 (by decide) ?_
      refine lv_icmp_gt (tgt := 41) hx hb d_Letters_isFolder_33 (by decide) (fun c33_3 => ?_) (fun c33_3 => ?_)
      · rw [if_pos c33_3] at hM
        refine lv_iconst (v := (0 : Int32)) hx hb d_Letters_isFolder_41 (by decide) ?_
        exact r_zret C hS hM d_Letters_isFolder_42
      · rw [if_neg c33_3] at hM
        refine lv_iload_n hx hb d_Letters_isFolder_36 rfl (lv_at hl 0 rfl) ?_
        refine lv_iconst (v := (4 : Int32)) hx hb d_Letters_isFolder_37 (by decide) ?_
        refine lv_icmp_le (tgt := 43) hx hb d_Letters_isFolder_38 (by decide) (fun c38_4 => ?_) (fun c38_4 => ?_)
        · rw [if_pos c38_4] at hM
          refine lv_iload_n hx hb d_Letters_isFolder_43 rfl (lv_at hl 2 rfl) ?_
          have kJ64_5 : ∀ (H : Heap) (locs : List Loc) (ls : Array Slot), RS base D cI cZ s H locs h → lv_has ls 4 [] → Wg l base D cI cZ 0 0 0 0 h (some (.int r)) p e s m args below meth c H locs 0 0 (F0 m 64 ls [.int (if (l0 / (100 : Int32)) = (0 : Int32) then (if (irem (l0 / (10 : Int32)) (10 : Int32)) = (0 : Int32) then (if (irem (l0 / (10 : Int32)) (10 : Int32)) = (0 : Int32) then (if (irem l0 (10 : Int32)) = (0 : Int32) then ((1 : Int32)) else ((0 : Int32))) else ((1 : Int32))) else ((0 : Int32))) else (if (irem (l0 / (10 : Int32)) (10 : Int32)) = (0 : Int32) then (if (irem l0 (10 : Int32)) = (0 : Int32) then ((1 : Int32)) else ((0 : Int32))) else ((1 : Int32))))]) := by
            intro H locs ls hS hl
            exact r_zret C hS hM d_Letters_isFolder_64
          refine lv_if_ne (tgt := 51) hx hb d_Letters_isFolder_44 (by decide) (fun c44_6 => ?_) (fun c44_6 => ?_)
          · rw [if_neg c44_6] at kJ64_5
            refine lv_iload_n hx hb d_Letters_isFolder_51 rfl (lv_at hl 1 rfl) ?_
            refine lv_if_ne (tgt := 59) hx hb d_Letters_isFolder_52 (by decide) (fun c52_7 => ?_) (fun c52_7 => ?_)
            · rw [if_neg c52_7] at kJ64_5
              refine lv_iconst (v := (1 : Int32)) hx hb d_Letters_isFolder_59 (by decide) ?_
              refine lv_goto (tgt := 64) hx hb d_Letters_isFolder_60 (by decide) ?_
              exact kJ64_5 _ _ _ hS (lv_sub hl [] rfl)
            · rw [if_pos c52_7] at kJ64_5
              refine lv_iload_n hx hb d_Letters_isFolder_55 rfl (lv_at hl 0 rfl) ?_
              refine lv_if_ne (tgt := 63) hx hb d_Letters_isFolder_56 (by decide) (fun c56_8 => ?_) (fun c56_8 => ?_)
              · rw [if_neg c56_8] at kJ64_5
                refine lv_iconst (v := (0 : Int32)) hx hb d_Letters_isFolder_63 (by decide) ?_
                exact kJ64_5 _ _ _ hS (lv_sub hl [] rfl)
              · rw [if_pos c56_8] at kJ64_5
                refine lv_iconst (v := (1 : Int32)) hx hb d_Letters_isFolder_59 (by decide) ?_
                refine lv_goto (tgt := 64) hx hb d_Letters_isFolder_60 (by decide) ?_
                exact kJ64_5 _ _ _ hS (lv_sub hl [] rfl)
          · rw [if_pos c44_6] at kJ64_5
            refine lv_iload_n hx hb d_Letters_isFolder_47 rfl (lv_at hl 1 rfl) ?_
            refine lv_if_ne (tgt := 63) hx hb d_Letters_isFolder_48 (by decide) (fun c48_9 => ?_) (fun c48_9 => ?_)
            · rw [if_neg c48_9] at kJ64_5
              refine lv_iconst (v := (0 : Int32)) hx hb d_Letters_isFolder_63 (by decide) ?_
              exact kJ64_5 _ _ _ hS (lv_sub hl [] rfl)
            · rw [if_pos c48_9] at kJ64_5
              refine lv_iload_n hx hb d_Letters_isFolder_51 rfl (lv_at hl 1 rfl) ?_
              refine lv_if_ne (tgt := 59) hx hb d_Letters_isFolder_52 (by decide) (fun c52_10 => ?_) (fun c52_10 => ?_)
              · rw [if_neg c52_10] at kJ64_5
                refine lv_iconst (v := (1 : Int32)) hx hb d_Letters_isFolder_59 (by decide) ?_
                refine lv_goto (tgt := 64) hx hb d_Letters_isFolder_60 (by decide) ?_
                exact kJ64_5 _ _ _ hS (lv_sub hl [] rfl)
              · rw [if_pos c52_10] at kJ64_5
                refine lv_iload_n hx hb d_Letters_isFolder_55 rfl (lv_at hl 0 rfl) ?_
                refine lv_if_ne (tgt := 63) hx hb d_Letters_isFolder_56 (by decide) (fun c56_11 => ?_) (fun c56_11 => ?_)
                · rw [if_neg c56_11] at kJ64_5
                  refine lv_iconst (v := (0 : Int32)) hx hb d_Letters_isFolder_63 (by decide) ?_
                  exact kJ64_5 _ _ _ hS (lv_sub hl [] rfl)
                · rw [if_pos c56_11] at kJ64_5
                  refine lv_iconst (v := (1 : Int32)) hx hb d_Letters_isFolder_59 (by decide) ?_
                  refine lv_goto (tgt := 64) hx hb d_Letters_isFolder_60 (by decide) ?_
                  exact kJ64_5 _ _ _ hS (lv_sub hl [] rfl)
        · rw [if_neg c38_4] at hM
          refine lv_iconst (v := (0 : Int32)) hx hb d_Letters_isFolder_41 (by decide) ?_
          exact r_zret C hS hM d_Letters_isFolder_42
    · rw [if_neg c8_2] at hM
      refine lv_iconst (v := (0 : Int32)) hx hb d_Letters_isFolder_11 (by decide) ?_
      exact r_zret C hS hM d_Letters_isFolder_12
theorem c_Letters_isFolder (l : Launch) (base : Nat) (D : va_G) (cI cZ : ClassId) (h : Hp) (l0 : Int32) {r : Int32} (hM : f_Letters_isFolder l0 = some r) : Ct l base D cI cZ y_Letters_isFolder b_Letters_isFolder 4 (some .boolean) 0 0 0 0 h [.int l0] h (some (.int r)) :=
  ct_of (by decide) (Nat.le_of_ble_eq_true rfl) (fun p e s m below meth c ls C hS hl => t_Letters_isFolder C hM _ _ _ hS hl)
theorem d_Letters_folderOf_0 : decode b_Letters_folderOf 0 = .ok (.iload_n 0, 1) := by decide +kernel
theorem d_Letters_folderOf_1 : decode b_Letters_folderOf 1 = .ok (.bipush 10, 2) := by decide +kernel
theorem d_Letters_folderOf_3 : decode b_Letters_folderOf 3 = .ok (.idiv, 1) := by decide +kernel
theorem d_Letters_folderOf_4 : decode b_Letters_folderOf 4 = .ok (.ireturn, 1) := by decide +kernel
def f_Letters_folderOf (l0 : Int32) : Option Int32 :=
  some (l0 / (10 : Int32))
set_option maxHeartbeats 4000000 in
set_option maxRecDepth 100000 in
theorem t_Letters_folderOf {h : Hp} {l0 : Int32} {r : Int32} (C : Cx base D cI cZ b_Letters_folderOf 1 "MovedFolders$Letters" "folderOf" (some .int) p s m args meth c) (hM : f_Letters_folderOf l0 = some r) (H : Heap) (locs : List Loc) (ls : Array Slot) (hS : RS base D cI cZ s H locs h) (hl : lv_has ls 1 [(0, .int l0)]) : Wg l base D cI cZ 0 0 0 0 h (some (.int r)) p e s m args below meth c H locs 0 0 (F0 m 0 ls []) := by
  have hx := C.1
  have hb := C.2.1
  unfold f_Letters_folderOf at hM
  refine lv_iload_n hx hb d_Letters_folderOf_0 rfl (lv_at hl 0 rfl) ?_
  refine lv_bipush (v := (10 : Int32)) hx hb d_Letters_folderOf_1 (by decide) ?_
  refine lv_idiv hx hb d_Letters_folderOf_3 (by decide) ?_
  obtain rfl := Option.some.inj hM
  exact r_iret C hS d_Letters_folderOf_4
theorem c_Letters_folderOf (l : Launch) (base : Nat) (D : va_G) (cI cZ : ClassId) (h : Hp) (l0 : Int32) {r : Int32} (hM : f_Letters_folderOf l0 = some r) : Ct l base D cI cZ y_Letters_folderOf b_Letters_folderOf 1 (some .int) 0 0 0 0 h [.int l0] h (some (.int r)) :=
  ct_of (by decide) (Nat.le_of_ble_eq_true rfl) (fun p e s m below meth c ls C hS hl => t_Letters_folderOf C hM _ _ _ hS hl)
theorem d_Letters_nameOf_0 : decode b_Letters_nameOf 0 = .ok (.iload_n 0, 1) := by decide +kernel
theorem d_Letters_nameOf_1 : decode b_Letters_nameOf 1 = .ok (.bipush 10, 2) := by decide +kernel
theorem d_Letters_nameOf_3 : decode b_Letters_nameOf 3 = .ok (.irem, 1) := by decide +kernel
theorem d_Letters_nameOf_4 : decode b_Letters_nameOf 4 = .ok (.ireturn, 1) := by decide +kernel
def f_Letters_nameOf (l0 : Int32) : Option Int32 :=
  some (irem l0 (10 : Int32))
set_option maxHeartbeats 4000000 in
set_option maxRecDepth 100000 in
theorem t_Letters_nameOf {h : Hp} {l0 : Int32} {r : Int32} (C : Cx base D cI cZ b_Letters_nameOf 1 "MovedFolders$Letters" "nameOf" (some .int) p s m args meth c) (hM : f_Letters_nameOf l0 = some r) (H : Heap) (locs : List Loc) (ls : Array Slot) (hS : RS base D cI cZ s H locs h) (hl : lv_has ls 1 [(0, .int l0)]) : Wg l base D cI cZ 0 0 0 0 h (some (.int r)) p e s m args below meth c H locs 0 0 (F0 m 0 ls []) := by
  have hx := C.1
  have hb := C.2.1
  unfold f_Letters_nameOf at hM
  refine lv_iload_n hx hb d_Letters_nameOf_0 rfl (lv_at hl 0 rfl) ?_
  refine lv_bipush (v := (10 : Int32)) hx hb d_Letters_nameOf_1 (by decide) ?_
  refine r_irem hx hb d_Letters_nameOf_3 (by decide) ?_
  obtain rfl := Option.some.inj hM
  exact r_iret C hS d_Letters_nameOf_4
theorem c_Letters_nameOf (l : Launch) (base : Nat) (D : va_G) (cI cZ : ClassId) (h : Hp) (l0 : Int32) {r : Int32} (hM : f_Letters_nameOf l0 = some r) : Ct l base D cI cZ y_Letters_nameOf b_Letters_nameOf 1 (some .int) 0 0 0 0 h [.int l0] h (some (.int r)) :=
  ct_of (by decide) (Nat.le_of_ble_eq_true rfl) (fun p e s m below meth c ls C hS hl => t_Letters_nameOf C hM _ _ _ hS hl)
theorem d_Letters_lengthOf_0 : decode b_Letters_lengthOf 0 = .ok (.iload_n 0, 1) := by decide +kernel
theorem d_Letters_lengthOf_1 : decode b_Letters_lengthOf 1 = .ok (.bipush 10, 2) := by decide +kernel
theorem d_Letters_lengthOf_3 : decode b_Letters_lengthOf 3 = .ok (.irem, 1) := by decide +kernel
theorem d_Letters_lengthOf_4 : decode b_Letters_lengthOf 4 = .ok (.ifCond .eq 5, 3) := by decide +kernel
theorem d_Letters_lengthOf_7 : decode b_Letters_lengthOf 7 = .ok (.iconst 3, 1) := by decide +kernel
theorem d_Letters_lengthOf_8 : decode b_Letters_lengthOf 8 = .ok (.ireturn, 1) := by decide +kernel
theorem d_Letters_lengthOf_9 : decode b_Letters_lengthOf 9 = .ok (.iload_n 0, 1) := by decide +kernel
theorem d_Letters_lengthOf_10 : decode b_Letters_lengthOf 10 = .ok (.bipush 100, 2) := by decide +kernel
theorem d_Letters_lengthOf_12 : decode b_Letters_lengthOf 12 = .ok (.irem, 1) := by decide +kernel
theorem d_Letters_lengthOf_13 : decode b_Letters_lengthOf 13 = .ok (.ifCond .eq 7, 3) := by decide +kernel
theorem d_Letters_lengthOf_16 : decode b_Letters_lengthOf 16 = .ok (.iconst 2, 1) := by decide +kernel
theorem d_Letters_lengthOf_17 : decode b_Letters_lengthOf 17 = .ok (.goto 12, 3) := by decide +kernel
theorem d_Letters_lengthOf_20 : decode b_Letters_lengthOf 20 = .ok (.iload_n 0, 1) := by decide +kernel
theorem d_Letters_lengthOf_21 : decode b_Letters_lengthOf 21 = .ok (.ifCond .eq 7, 3) := by decide +kernel
theorem d_Letters_lengthOf_24 : decode b_Letters_lengthOf 24 = .ok (.iconst 1, 1) := by decide +kernel
theorem d_Letters_lengthOf_25 : decode b_Letters_lengthOf 25 = .ok (.goto 4, 3) := by decide +kernel
theorem d_Letters_lengthOf_28 : decode b_Letters_lengthOf 28 = .ok (.iconst 0, 1) := by decide +kernel
theorem d_Letters_lengthOf_29 : decode b_Letters_lengthOf 29 = .ok (.ireturn, 1) := by decide +kernel
def f_Letters_lengthOf (l0 : Int32) : Option Int32 :=
  if (irem l0 (10 : Int32)) = (0 : Int32) then (
    some (if (irem l0 (100 : Int32)) = (0 : Int32) then (if l0 = (0 : Int32) then ((0 : Int32)) else ((1 : Int32))) else ((2 : Int32)))
  ) else (
    some (3 : Int32)
  )
set_option maxHeartbeats 4000000 in
set_option maxRecDepth 100000 in
theorem t_Letters_lengthOf {h : Hp} {l0 : Int32} {r : Int32} (C : Cx base D cI cZ b_Letters_lengthOf 1 "MovedFolders$Letters" "lengthOf" (some .int) p s m args meth c) (hM : f_Letters_lengthOf l0 = some r) (H : Heap) (locs : List Loc) (ls : Array Slot) (hS : RS base D cI cZ s H locs h) (hl : lv_has ls 1 [(0, .int l0)]) : Wg l base D cI cZ 0 0 0 0 h (some (.int r)) p e s m args below meth c H locs 0 0 (F0 m 0 ls []) := by
  have hx := C.1
  have hb := C.2.1
  unfold f_Letters_lengthOf at hM
  refine lv_iload_n hx hb d_Letters_lengthOf_0 rfl (lv_at hl 0 rfl) ?_
  refine lv_bipush (v := (10 : Int32)) hx hb d_Letters_lengthOf_1 (by decide) ?_
  refine r_irem hx hb d_Letters_lengthOf_3 (by decide) ?_
  refine lv_if_eq (tgt := 9) hx hb d_Letters_lengthOf_4 (by decide) (fun c4_1 => ?_) (fun c4_1 => ?_)
  · rw [if_pos c4_1] at hM
    refine lv_iload_n hx hb d_Letters_lengthOf_9 rfl (lv_at hl 0 rfl) ?_
    refine lv_bipush (v := (100 : Int32)) hx hb d_Letters_lengthOf_10 (by decide) ?_
    refine r_irem hx hb d_Letters_lengthOf_12 (by decide) ?_
    have kJ29_2 : ∀ (H : Heap) (locs : List Loc) (ls : Array Slot), RS base D cI cZ s H locs h → lv_has ls 1 [] → Wg l base D cI cZ 0 0 0 0 h (some (.int r)) p e s m args below meth c H locs 0 0 (F0 m 29 ls [.int (if (irem l0 (100 : Int32)) = (0 : Int32) then (if l0 = (0 : Int32) then ((0 : Int32)) else ((1 : Int32))) else ((2 : Int32)))]) := by
      intro H locs ls hS hl
      obtain rfl := Option.some.inj hM
      exact r_iret C hS d_Letters_lengthOf_29
    refine lv_if_eq (tgt := 20) hx hb d_Letters_lengthOf_13 (by decide) (fun c13_3 => ?_) (fun c13_3 => ?_)
    · rw [if_pos c13_3] at kJ29_2
      refine lv_iload_n hx hb d_Letters_lengthOf_20 rfl (lv_at hl 0 rfl) ?_
      refine lv_if_eq (tgt := 28) hx hb d_Letters_lengthOf_21 (by decide) (fun c21_4 => ?_) (fun c21_4 => ?_)
      · rw [if_pos c21_4] at kJ29_2
        refine lv_iconst (v := (0 : Int32)) hx hb d_Letters_lengthOf_28 (by decide) ?_
        exact kJ29_2 _ _ _ hS (lv_sub hl [] rfl)
      · rw [if_neg c21_4] at kJ29_2
        refine lv_iconst (v := (1 : Int32)) hx hb d_Letters_lengthOf_24 (by decide) ?_
        refine lv_goto (tgt := 29) hx hb d_Letters_lengthOf_25 (by decide) ?_
        exact kJ29_2 _ _ _ hS (lv_sub hl [] rfl)
    · rw [if_neg c13_3] at kJ29_2
      refine lv_iconst (v := (2 : Int32)) hx hb d_Letters_lengthOf_16 (by decide) ?_
      refine lv_goto (tgt := 29) hx hb d_Letters_lengthOf_17 (by decide) ?_
      exact kJ29_2 _ _ _ hS (lv_sub hl [] rfl)
  · rw [if_neg c4_1] at hM
    refine lv_iconst (v := (3 : Int32)) hx hb d_Letters_lengthOf_7 (by decide) ?_
    obtain rfl := Option.some.inj hM
    exact r_iret C hS d_Letters_lengthOf_8
theorem c_Letters_lengthOf (l : Launch) (base : Nat) (D : va_G) (cI cZ : ClassId) (h : Hp) (l0 : Int32) {r : Int32} (hM : f_Letters_lengthOf l0 = some r) : Ct l base D cI cZ y_Letters_lengthOf b_Letters_lengthOf 1 (some .int) 0 0 0 0 h [.int l0] h (some (.int r)) :=
  ct_of (by decide) (Nat.le_of_ble_eq_true rfl) (fun p e s m below meth c ls C hS hl => t_Letters_lengthOf C hM _ _ _ hS hl)
theorem d_Letters_firstOf_0 : decode b_Letters_firstOf 0 = .ok (.iload_n 1, 1) := by decide +kernel
theorem d_Letters_firstOf_1 : decode b_Letters_firstOf 1 = .ok (.tableswitch 43 0 2 #[27, 29, 36], 27) := by decide +kernel
theorem d_Letters_firstOf_28 : decode b_Letters_firstOf 28 = .ok (.iconst 0, 1) := by decide +kernel
theorem d_Letters_firstOf_29 : decode b_Letters_firstOf 29 = .ok (.ireturn, 1) := by decide +kernel
theorem d_Letters_firstOf_30 : decode b_Letters_firstOf 30 = .ok (.iload_n 0, 1) := by decide +kernel
theorem d_Letters_firstOf_31 : decode b_Letters_firstOf 31 = .ok (.iload_n 0, 1) := by decide +kernel
theorem d_Letters_firstOf_32 : decode b_Letters_firstOf 32 = .ok (.bipush 100, 2) := by decide +kernel
theorem d_Letters_firstOf_34 : decode b_Letters_firstOf 34 = .ok (.irem, 1) := by decide +kernel
theorem d_Letters_firstOf_35 : decode b_Letters_firstOf 35 = .ok (.isub, 1) := by decide +kernel
theorem d_Letters_firstOf_36 : decode b_Letters_firstOf 36 = .ok (.ireturn, 1) := by decide +kernel
theorem d_Letters_firstOf_37 : decode b_Letters_firstOf 37 = .ok (.iload_n 0, 1) := by decide +kernel
theorem d_Letters_firstOf_38 : decode b_Letters_firstOf 38 = .ok (.iload_n 0, 1) := by decide +kernel
theorem d_Letters_firstOf_39 : decode b_Letters_firstOf 39 = .ok (.bipush 10, 2) := by decide +kernel
theorem d_Letters_firstOf_41 : decode b_Letters_firstOf 41 = .ok (.irem, 1) := by decide +kernel
theorem d_Letters_firstOf_42 : decode b_Letters_firstOf 42 = .ok (.isub, 1) := by decide +kernel
theorem d_Letters_firstOf_43 : decode b_Letters_firstOf 43 = .ok (.ireturn, 1) := by decide +kernel
theorem d_Letters_firstOf_44 : decode b_Letters_firstOf 44 = .ok (.iload_n 0, 1) := by decide +kernel
theorem d_Letters_firstOf_45 : decode b_Letters_firstOf 45 = .ok (.ireturn, 1) := by decide +kernel
def f_Letters_firstOf (l0 : Int32) (l1 : Int32) : Option Int32 :=
  if l1 = (0 : Int32) then (
    some (0 : Int32)
  ) else (
    if l1 = (1 : Int32) then (
      some (l0 - (irem l0 (100 : Int32)))
    ) else (
      if l1 = (2 : Int32) then (
        some (l0 - (irem l0 (10 : Int32)))
      ) else (
        some l0
  )))
set_option maxHeartbeats 4000000 in
set_option maxRecDepth 100000 in
theorem t_Letters_firstOf {h : Hp} {l0 : Int32} {l1 : Int32} {r : Int32} (C : Cx base D cI cZ b_Letters_firstOf 2 "MovedFolders$Letters" "firstOf" (some .int) p s m args meth c) (hM : f_Letters_firstOf l0 l1 = some r) (H : Heap) (locs : List Loc) (ls : Array Slot) (hS : RS base D cI cZ s H locs h) (hl : lv_has ls 2 [(0, .int l0), (1, .int l1)]) : Wg l base D cI cZ 0 0 0 0 h (some (.int r)) p e s m args below meth c H locs 0 0 (F0 m 0 ls []) := by
  have hx := C.1
  have hb := C.2.1
  unfold f_Letters_firstOf at hM
  refine lv_iload_n hx hb d_Letters_firstOf_0 rfl (lv_at hl 1 rfl) ?_
  by_cases c1_1 : l1 = (0 : Int32)
  · rw [if_pos c1_1] at hM
    refine lv_tableIn (off := 27) (tgt := 28) hx hb d_Letters_firstOf_1 (by rw [c1_1]; decide) (by rw [c1_1]; decide) (by rw [c1_1]; rfl) (by decide) ?_
    refine lv_iconst (v := (0 : Int32)) hx hb d_Letters_firstOf_28 (by decide) ?_
    obtain rfl := Option.some.inj hM
    exact r_iret C hS d_Letters_firstOf_29
  rw [if_neg c1_1] at hM
  by_cases c1_2 : l1 = (1 : Int32)
  · rw [if_pos c1_2] at hM
    refine lv_tableIn (off := 29) (tgt := 30) hx hb d_Letters_firstOf_1 (by rw [c1_2]; decide) (by rw [c1_2]; decide) (by rw [c1_2]; rfl) (by decide) ?_
    refine lv_iload_n hx hb d_Letters_firstOf_30 rfl (lv_at hl 0 rfl) ?_
    refine lv_iload_n hx hb d_Letters_firstOf_31 rfl (lv_at hl 0 rfl) ?_
    refine lv_bipush (v := (100 : Int32)) hx hb d_Letters_firstOf_32 (by decide) ?_
    refine r_irem hx hb d_Letters_firstOf_34 (by decide) ?_
    refine lv_isub hx hb d_Letters_firstOf_35 ?_
    obtain rfl := Option.some.inj hM
    exact r_iret C hS d_Letters_firstOf_36
  rw [if_neg c1_2] at hM
  by_cases c1_3 : l1 = (2 : Int32)
  · rw [if_pos c1_3] at hM
    refine lv_tableIn (off := 36) (tgt := 37) hx hb d_Letters_firstOf_1 (by rw [c1_3]; decide) (by rw [c1_3]; decide) (by rw [c1_3]; rfl) (by decide) ?_
    refine lv_iload_n hx hb d_Letters_firstOf_37 rfl (lv_at hl 0 rfl) ?_
    refine lv_iload_n hx hb d_Letters_firstOf_38 rfl (lv_at hl 0 rfl) ?_
    refine lv_bipush (v := (10 : Int32)) hx hb d_Letters_firstOf_39 (by decide) ?_
    refine r_irem hx hb d_Letters_firstOf_41 (by decide) ?_
    refine lv_isub hx hb d_Letters_firstOf_42 ?_
    obtain rfl := Option.some.inj hM
    exact r_iret C hS d_Letters_firstOf_43
  rw [if_neg c1_3] at hM
  refine r_tabD (tgt := 44) hx hb d_Letters_firstOf_1 [0, 1, 2] (List.forall_mem_cons.mpr ⟨lv_neT c1_1 rfl, (List.forall_mem_cons.mpr ⟨lv_neT c1_2 rfl, (List.forall_mem_cons.mpr ⟨lv_neT c1_3 rfl, (List.forall_mem_nil _)⟩)⟩)⟩) (by decide) (by decide) ?_
  refine lv_iload_n hx hb d_Letters_firstOf_44 rfl (lv_at hl 0 rfl) ?_
  obtain rfl := Option.some.inj hM
  exact r_iret C hS d_Letters_firstOf_45
theorem c_Letters_firstOf (l : Launch) (base : Nat) (D : va_G) (cI cZ : ClassId) (h : Hp) (l0 : Int32) (l1 : Int32) {r : Int32} (hM : f_Letters_firstOf l0 l1 = some r) : Ct l base D cI cZ y_Letters_firstOf b_Letters_firstOf 2 (some .int) 0 0 0 0 h [.int l0, .int l1] h (some (.int r)) :=
  ct_of (by decide) (Nat.le_of_ble_eq_true rfl) (fun p e s m below meth c ls C hS hl => t_Letters_firstOf C hM _ _ _ hS hl)
theorem d_Letters_shift_0 : decode b_Letters_shift 0 = .ok (.iload_n 0, 1) := by decide +kernel
theorem d_Letters_shift_1 : decode b_Letters_shift 1 = .ok (.istore_n 3, 1) := by decide +kernel
theorem d_Letters_shift_2 : decode b_Letters_shift 2 = .ok (.iload_n 1, 1) := by decide +kernel
theorem d_Letters_shift_3 : decode b_Letters_shift 3 = .ok (.istore 4, 2) := by decide +kernel
theorem d_Letters_shift_5 : decode b_Letters_shift 5 = .ok (.iload 4, 2) := by decide +kernel
theorem d_Letters_shift_7 : decode b_Letters_shift 7 = .ok (.iload_n 2, 1) := by decide +kernel
theorem d_Letters_shift_8 : decode b_Letters_shift 8 = .ok (.if_icmp .ge 14, 3) := by decide +kernel
theorem d_Letters_shift_11 : decode b_Letters_shift 11 = .ok (.iload_n 3, 1) := by decide +kernel
theorem d_Letters_shift_12 : decode b_Letters_shift 12 = .ok (.bipush 10, 2) := by decide +kernel
theorem d_Letters_shift_14 : decode b_Letters_shift 14 = .ok (.idiv, 1) := by decide +kernel
theorem d_Letters_shift_15 : decode b_Letters_shift 15 = .ok (.istore_n 3, 1) := by decide +kernel
theorem d_Letters_shift_16 : decode b_Letters_shift 16 = .ok (.iinc 4 1, 3) := by decide +kernel
theorem d_Letters_shift_19 : decode b_Letters_shift 19 = .ok (.goto (-14), 3) := by decide +kernel
theorem d_Letters_shift_22 : decode b_Letters_shift 22 = .ok (.iload_n 2, 1) := by decide +kernel
theorem d_Letters_shift_23 : decode b_Letters_shift 23 = .ok (.istore 4, 2) := by decide +kernel
theorem d_Letters_shift_25 : decode b_Letters_shift 25 = .ok (.iload 4, 2) := by decide +kernel
theorem d_Letters_shift_27 : decode b_Letters_shift 27 = .ok (.iload_n 1, 1) := by decide +kernel
theorem d_Letters_shift_28 : decode b_Letters_shift 28 = .ok (.if_icmp .ge 14, 3) := by decide +kernel
theorem d_Letters_shift_31 : decode b_Letters_shift 31 = .ok (.iload_n 3, 1) := by decide +kernel
theorem d_Letters_shift_32 : decode b_Letters_shift 32 = .ok (.bipush 10, 2) := by decide +kernel
theorem d_Letters_shift_34 : decode b_Letters_shift 34 = .ok (.imul, 1) := by decide +kernel
theorem d_Letters_shift_35 : decode b_Letters_shift 35 = .ok (.istore_n 3, 1) := by decide +kernel
theorem d_Letters_shift_36 : decode b_Letters_shift 36 = .ok (.iinc 4 1, 3) := by decide +kernel
theorem d_Letters_shift_39 : decode b_Letters_shift 39 = .ok (.goto (-14), 3) := by decide +kernel
theorem d_Letters_shift_42 : decode b_Letters_shift 42 = .ok (.iload_n 3, 1) := by decide +kernel
theorem d_Letters_shift_43 : decode b_Letters_shift 43 = .ok (.ireturn, 1) := by decide +kernel
def f_Letters_shift_25 (l1 : Int32) : Nat → Int32 → Int32 → Option Int32
  | 0, _, _ => none
  | n + 1, l3, l4 =>
    if l1 ≤ l4 then (
      some l3
    ) else (
      f_Letters_shift_25 l1 n (l3 * (10 : Int32)) (l4 + (1 : Int32))
    )
set_option maxHeartbeats 4000000 in
set_option maxRecDepth 100000 in
theorem t_Letters_shift_25 {h : Hp} {l1 : Int32} {r : Int32} (C : Cx base D cI cZ b_Letters_shift 5 "MovedFolders$Letters" "shift" (some .int) p s m args meth c)  : ∀ (n : Nat) (l3 : Int32) (l4 : Int32), f_Letters_shift_25 l1 n l3 l4 = some r → ∀ (H : Heap) (locs : List Loc) (ls : Array Slot), RS base D cI cZ s H locs h → lv_has ls 5 [(1, .int l1), (3, .int l3), (4, .int l4)] → Wg l base D cI cZ 0 0 0 0 h (some (.int r)) p e s m args below meth c H locs 0 0 (F0 m 25 ls []) := by
  have hx := C.1
  have hb := C.2.1
  intro n
  induction n with
  | zero =>
    intro l3 l4 hM
    rw [f_Letters_shift_25] at hM
    cases hM
  | succ n ih =>
    intro l3 l4 hM H locs ls hS hl
    rw [f_Letters_shift_25] at hM
    refine lv_iload hx hb d_Letters_shift_25 (lv_at hl 2 rfl) ?_
    refine lv_iload_n hx hb d_Letters_shift_27 rfl (lv_at hl 0 rfl) ?_
    refine lv_icmp_ge (tgt := 42) hx hb d_Letters_shift_28 (by decide) (fun c28_2 => ?_) (fun c28_2 => ?_)
    · rw [if_pos c28_2] at hM
      refine lv_iload_n hx hb d_Letters_shift_42 rfl (lv_at hl 1 rfl) ?_
      obtain rfl := Option.some.inj hM
      exact r_iret C hS d_Letters_shift_43
    · rw [if_neg c28_2] at hM
      refine lv_iload_n hx hb d_Letters_shift_31 rfl (lv_at hl 1 rfl) ?_
      refine lv_bipush (v := (10 : Int32)) hx hb d_Letters_shift_32 (by decide) ?_
      refine lv_imul hx hb d_Letters_shift_34 ?_
      refine lv_istore_n (lv' := [(3, .int (l3 * (10 : Int32))), (1, .int l1), (4, .int l4)]) hx hb d_Letters_shift_35 rfl hl (by decide) rfl (fun ls hl => ?_)
      refine lv_iinc (v := (l4 + (1 : Int32))) (lv' := [(4, .int (l4 + (1 : Int32))), (3, .int (l3 * (10 : Int32))), (1, .int l1)]) hx hb d_Letters_shift_36 hl (k := 2) rfl (by rw [oi_1]) (by decide) rfl (fun ls hl => ?_)
      refine lv_goto (tgt := 25) hx hb d_Letters_shift_39 (by decide) ?_
      exact ih (l3 * (10 : Int32)) (l4 + (1 : Int32)) hM _ _ _ hS (lv_sub hl [2, 1, 0] rfl)
def f_Letters_shift_5 (l1 : Int32) (l2 : Int32) : Nat → Int32 → Int32 → Option Int32
  | 0, _, _ => none
  | n + 1, l3, l4 =>
    if l2 ≤ l4 then (
      f_Letters_shift_25 l1 FU l3 l2
    ) else (
      f_Letters_shift_5 l1 l2 n (l3 / (10 : Int32)) (l4 + (1 : Int32))
    )
set_option maxHeartbeats 4000000 in
set_option maxRecDepth 100000 in
theorem t_Letters_shift_5 {h : Hp} {l1 : Int32} {l2 : Int32} {r : Int32} (C : Cx base D cI cZ b_Letters_shift 5 "MovedFolders$Letters" "shift" (some .int) p s m args meth c)  : ∀ (n : Nat) (l3 : Int32) (l4 : Int32), f_Letters_shift_5 l1 l2 n l3 l4 = some r → ∀ (H : Heap) (locs : List Loc) (ls : Array Slot), RS base D cI cZ s H locs h → lv_has ls 5 [(1, .int l1), (2, .int l2), (3, .int l3), (4, .int l4)] → Wg l base D cI cZ 0 0 0 0 h (some (.int r)) p e s m args below meth c H locs 0 0 (F0 m 5 ls []) := by
  have hx := C.1
  have hb := C.2.1
  intro n
  induction n with
  | zero =>
    intro l3 l4 hM
    rw [f_Letters_shift_5] at hM
    cases hM
  | succ n ih =>
    intro l3 l4 hM H locs ls hS hl
    rw [f_Letters_shift_5] at hM
    refine lv_iload hx hb d_Letters_shift_5 (lv_at hl 3 rfl) ?_
    refine lv_iload_n hx hb d_Letters_shift_7 rfl (lv_at hl 1 rfl) ?_
    refine lv_icmp_ge (tgt := 22) hx hb d_Letters_shift_8 (by decide) (fun c8_1 => ?_) (fun c8_1 => ?_)
    · rw [if_pos c8_1] at hM
      refine lv_iload_n hx hb d_Letters_shift_22 rfl (lv_at hl 1 rfl) ?_
      refine lv_istore (lv' := [(4, .int l2), (1, .int l1), (2, .int l2), (3, .int l3)]) hx hb d_Letters_shift_23 hl (by decide) rfl (fun ls hl => ?_)
      exact t_Letters_shift_25  C  FU l3 l2 hM _ _ _ hS (lv_sub hl [1, 3, 0] rfl)
    · rw [if_neg c8_1] at hM
      refine lv_iload_n hx hb d_Letters_shift_11 rfl (lv_at hl 2 rfl) ?_
      refine lv_bipush (v := (10 : Int32)) hx hb d_Letters_shift_12 (by decide) ?_
      refine lv_idiv hx hb d_Letters_shift_14 (by decide) ?_
      refine lv_istore_n (lv' := [(3, .int (l3 / (10 : Int32))), (1, .int l1), (2, .int l2), (4, .int l4)]) hx hb d_Letters_shift_15 rfl hl (by decide) rfl (fun ls hl => ?_)
      refine lv_iinc (v := (l4 + (1 : Int32))) (lv' := [(4, .int (l4 + (1 : Int32))), (3, .int (l3 / (10 : Int32))), (1, .int l1), (2, .int l2)]) hx hb d_Letters_shift_16 hl (k := 3) rfl (by rw [oi_1]) (by decide) rfl (fun ls hl => ?_)
      refine lv_goto (tgt := 5) hx hb d_Letters_shift_19 (by decide) ?_
      exact ih (l3 / (10 : Int32)) (l4 + (1 : Int32)) hM _ _ _ hS (lv_sub hl [2, 3, 1, 0] rfl)
def f_Letters_shift (l0 : Int32) (l1 : Int32) (l2 : Int32) : Option Int32 :=
  f_Letters_shift_5 l1 l2 FU l0 l1
set_option maxHeartbeats 4000000 in
set_option maxRecDepth 100000 in
theorem t_Letters_shift {h : Hp} {l0 : Int32} {l1 : Int32} {l2 : Int32} {r : Int32} (C : Cx base D cI cZ b_Letters_shift 5 "MovedFolders$Letters" "shift" (some .int) p s m args meth c) (hM : f_Letters_shift l0 l1 l2 = some r) (H : Heap) (locs : List Loc) (ls : Array Slot) (hS : RS base D cI cZ s H locs h) (hl : lv_has ls 5 [(0, .int l0), (1, .int l1), (2, .int l2)]) : Wg l base D cI cZ 0 0 0 0 h (some (.int r)) p e s m args below meth c H locs 0 0 (F0 m 0 ls []) := by
  have hx := C.1
  have hb := C.2.1
  unfold f_Letters_shift at hM
  refine lv_iload_n hx hb d_Letters_shift_0 rfl (lv_at hl 0 rfl) ?_
  refine lv_istore_n (lv' := [(3, .int l0), (0, .int l0), (1, .int l1), (2, .int l2)]) hx hb d_Letters_shift_1 rfl hl (by decide) rfl (fun ls hl => ?_)
  refine lv_iload_n hx hb d_Letters_shift_2 rfl (lv_at hl 2 rfl) ?_
  refine lv_istore (lv' := [(4, .int l1), (3, .int l0), (0, .int l0), (1, .int l1), (2, .int l2)]) hx hb d_Letters_shift_3 hl (by decide) rfl (fun ls hl => ?_)
  exact t_Letters_shift_5  C  FU l0 l1 hM _ _ _ hS (lv_sub hl [3, 4, 1, 0] rfl)
theorem c_Letters_shift (l : Launch) (base : Nat) (D : va_G) (cI cZ : ClassId) (h : Hp) (l0 : Int32) (l1 : Int32) (l2 : Int32) {r : Int32} (hM : f_Letters_shift l0 l1 l2 = some r) : Ct l base D cI cZ y_Letters_shift b_Letters_shift 5 (some .int) 0 0 0 0 h [.int l0, .int l1, .int l2] h (some (.int r)) :=
  ct_of (by decide) (Nat.le_of_ble_eq_true rfl) (fun p e s m below meth c ls C hS hl => t_Letters_shift C hM _ _ _ hS hl)
theorem d_Loops_init_0 : decode b_Loops_init 0 = .ok (.aload_n 0, 1) := by decide +kernel
theorem d_Loops_init_1 : decode b_Loops_init 1 = .ok (.invokespecial 3, 3) := by decide +kernel
theorem d_Loops_init_4 : decode b_Loops_init 4 = .ok (.aload_n 0, 1) := by decide +kernel
theorem d_Loops_init_5 : decode b_Loops_init 5 = .ok (.bipush 25, 2) := by decide +kernel
theorem d_Loops_init_7 : decode b_Loops_init 7 = .ok (.newarray .int, 2) := by decide +kernel
theorem d_Loops_init_9 : decode b_Loops_init 9 = .ok (.putfield 9, 3) := by decide +kernel
theorem d_Loops_init_12 : decode b_Loops_init 12 = .ok (.aload_n 0, 1) := by decide +kernel
theorem d_Loops_init_13 : decode b_Loops_init 13 = .ok (.iconst 0, 1) := by decide +kernel
theorem d_Loops_init_14 : decode b_Loops_init 14 = .ok (.putfield 15, 3) := by decide +kernel
theorem d_Loops_init_17 : decode b_Loops_init 17 = .ok (.return_, 1) := by decide +kernel
def f_Loops_init (h : Hp) (l0 : Nat) : Option Hp :=
  ck h 1 l0 (
    (sR (h ++ [.inl (false, 25, fun _ => 0)]) 1 l0 0 h.length).bind fun h1 =>
    (sI h1 1 l0 1 (0 : Int32)).bind fun h2 =>
    some h2
  )
theorem o_Loops_init {h : Hp} {l0 : Nat} {r : Hp} (hM : f_Loops_init h l0 = some r) : isO h 1 l0 = true := by
  unfold f_Loops_init at hM
  exact (ck_some hM).1
set_option maxHeartbeats 4000000 in
set_option maxRecDepth 100000 in
theorem t_Loops_init {h : Hp} {l0 : Nat} {r : Hp} (C : Cx base D cI cZ b_Loops_init 1 "MovedFolders$Loops" "<init>" none p s m args meth c) (hM : f_Loops_init h l0 = some r) (H : Heap) (locs : List Loc) (ls : Array Slot) (hS : RS base D cI cZ s H locs h) (hl : lv_has ls 1 [(0, .ref (base + l0))]) : Wg l base D cI cZ 1 12 1 25 r none p e s m args below meth c H locs 0 0 (F0 m 0 ls []) := by
  have hx := C.1
  have hb := C.2.1
  unfold f_Loops_init at hM
  replace hM := (ck_some hM).2
  refine lv_aload_n hx hb d_Loops_init_0 rfl (lv_at hl 0 rfl) ?_
  refine r_obj C oi_Loops_3 hl.1 rfl ⟨(Nat.le_of_ble_eq_true rfl), (Nat.le_of_ble_eq_true rfl)⟩ d_Loops_init_1 ?_
  refine lv_aload_n hx hb d_Loops_init_4 rfl (lv_at hl 0 rfl) ?_
  refine lv_bipush (v := (25 : Int32)) hx hb d_Loops_init_5 (by decide) ?_
  refine r_newI (N := 25) C hS ac_int (by decide) (by decide) (Nat.le_of_ble_eq_true rfl) (Nat.le_of_ble_eq_true rfl) (Nat.le_of_ble_eq_true rfl) d_Loops_init_7 (fun H hS => ?_)
  obtain ⟨h1, eh1, hM⟩ := bS hM
  refine r_putF C hS fp_Loops_9 (fun q hq => by cases hq; rfl) eh1 rfl rfl d_Loops_init_9 (fun H locs hS => ?_)
  refine lv_aload_n hx hb d_Loops_init_12 rfl (lv_at hl 0 rfl) ?_
  refine lv_iconst (v := (0 : Int32)) hx hb d_Loops_init_13 (by decide) ?_
  obtain ⟨h2, eh2, hM⟩ := bS hM
  refine r_putI C hS fp_Loops_15 eh2 d_Loops_init_14 (fun H locs hS => ?_)
  obtain rfl := Option.some.inj hM
  exact r_vret C hS d_Loops_init_17
theorem c_Loops_init (l : Launch) (base : Nat) (D : va_G) (cI cZ : ClassId) (h : Hp) (l0 : Nat) {r : Hp} (hM : f_Loops_init h l0 = some r) : Ct l base D cI cZ y_Loops_init b_Loops_init 1 none 1 12 1 25 h [.ref (base + l0)] r none :=
  ct_of (by decide) (Nat.le_of_ble_eq_true rfl) (fun p e s m below meth c ls C hS hl => t_Loops_init C hM _ _ _ hS hl)
theorem d_Moves_size_0 : decode b_Moves_size 0 = .ok (.aload_n 0, 1) := by decide +kernel
theorem d_Moves_size_1 : decode b_Moves_size 1 = .ok (.getfield 22, 3) := by decide +kernel
theorem d_Moves_size_4 : decode b_Moves_size 4 = .ok (.ireturn, 1) := by decide +kernel
def f_Moves_size (h : Hp) (l0 : Nat) : Option Int32 :=
  ck h 3 l0 (
    (gI h 3 l0 3).bind fun t1 =>
    some t1
  )
theorem o_Moves_size {h : Hp} {l0 : Nat} {r : Int32} (hM : f_Moves_size h l0 = some r) : isO h 3 l0 = true := by
  unfold f_Moves_size at hM
  exact (ck_some hM).1
set_option maxHeartbeats 4000000 in
set_option maxRecDepth 100000 in
theorem t_Moves_size {h : Hp} {l0 : Nat} {r : Int32} (C : Cx base D cI cZ b_Moves_size 1 "MovedFolders$Moves" "size" (some .int) p s m args meth c) (hM : f_Moves_size h l0 = some r) (H : Heap) (locs : List Loc) (ls : Array Slot) (hS : RS base D cI cZ s H locs h) (hl : lv_has ls 1 [(0, .ref (base + l0))]) : Wg l base D cI cZ 0 0 0 0 h (some (.int r)) p e s m args below meth c H locs 0 0 (F0 m 0 ls []) := by
  have hx := C.1
  have hb := C.2.1
  unfold f_Moves_size at hM
  replace hM := (ck_some hM).2
  refine lv_aload_n hx hb d_Moves_size_0 rfl (lv_at hl 0 rfl) ?_
  obtain ⟨t1, et1, hM⟩ := bS hM
  refine r_getI C hS fl_Moves_22 et1 d_Moves_size_1 ?_
  obtain rfl := Option.some.inj hM
  exact r_iret C hS d_Moves_size_4
theorem c_Moves_size (l : Launch) (base : Nat) (D : va_G) (cI cZ : ClassId) (h : Hp) (l0 : Nat) {r : Int32} (hM : f_Moves_size h l0 = some r) : Ct l base D cI cZ y_Moves_size b_Moves_size 1 (some .int) 0 0 0 0 h [.ref (base + l0)] h (some (.int r)) :=
  ct_of (by decide) (Nat.le_of_ble_eq_true rfl) (fun p e s m below meth c ls C hS hl => t_Moves_size C hM _ _ _ hS hl)
theorem d_Moves_targetAt_0 : decode b_Moves_targetAt 0 = .ok (.iload_n 1, 1) := by decide +kernel
theorem d_Moves_targetAt_1 : decode b_Moves_targetAt 1 = .ok (.ifCond .lt 20, 3) := by decide +kernel
theorem d_Moves_targetAt_4 : decode b_Moves_targetAt 4 = .ok (.iload_n 1, 1) := by decide +kernel
theorem d_Moves_targetAt_5 : decode b_Moves_targetAt 5 = .ok (.aload_n 0, 1) := by decide +kernel
theorem d_Moves_targetAt_6 : decode b_Moves_targetAt 6 = .ok (.getfield 22, 3) := by decide +kernel
theorem d_Moves_targetAt_9 : decode b_Moves_targetAt 9 = .ok (.if_icmp .ge 12, 3) := by decide +kernel
theorem d_Moves_targetAt_12 : decode b_Moves_targetAt 12 = .ok (.aload_n 0, 1) := by decide +kernel
theorem d_Moves_targetAt_13 : decode b_Moves_targetAt 13 = .ok (.getfield 15, 3) := by decide +kernel
theorem d_Moves_targetAt_16 : decode b_Moves_targetAt 16 = .ok (.iload_n 1, 1) := by decide +kernel
theorem d_Moves_targetAt_17 : decode b_Moves_targetAt 17 = .ok (.iaload, 1) := by decide +kernel
theorem d_Moves_targetAt_18 : decode b_Moves_targetAt 18 = .ok (.goto 5, 3) := by decide +kernel
theorem d_Moves_targetAt_21 : decode b_Moves_targetAt 21 = .ok (.bipush (-6), 2) := by decide +kernel
theorem d_Moves_targetAt_23 : decode b_Moves_targetAt 23 = .ok (.ireturn, 1) := by decide +kernel
def f_Moves_targetAt (h : Hp) (l0 : Nat) (l1 : Int32) : Option Int32 :=
  ck h 3 l0 (
    (
      if l1 < (0 : Int32) then (
        some (-6 : Int32)
      ) else (
        (gI h 3 l0 3).bind fun t2 =>
        if t2 ≤ l1 then (
          some (-6 : Int32)
        ) else (
          (gR h 3 l0 1).bind fun t3 =>
          (gA h false t3 l1).bind fun t4 =>
          some t4
        )
      )
    ).bind fun t1 =>
    some t1
  )
theorem o_Moves_targetAt {h : Hp} {l0 : Nat} {l1 : Int32} {r : Int32} (hM : f_Moves_targetAt h l0 l1 = some r) : isO h 3 l0 = true := by
  unfold f_Moves_targetAt at hM
  exact (ck_some hM).1
set_option maxHeartbeats 4000000 in
set_option maxRecDepth 100000 in
theorem t_Moves_targetAt {h : Hp} {l0 : Nat} {l1 : Int32} {r : Int32} (C : Cx base D cI cZ b_Moves_targetAt 2 "MovedFolders$Moves" "targetAt" (some .int) p s m args meth c) (hM : f_Moves_targetAt h l0 l1 = some r) (H : Heap) (locs : List Loc) (ls : Array Slot) (hS : RS base D cI cZ s H locs h) (hl : lv_has ls 2 [(0, .ref (base + l0)), (1, .int l1)]) : Wg l base D cI cZ 0 0 0 0 h (some (.int r)) p e s m args below meth c H locs 0 0 (F0 m 0 ls []) := by
  have hx := C.1
  have hb := C.2.1
  unfold f_Moves_targetAt at hM
  replace hM := (ck_some hM).2
  refine lv_iload_n hx hb d_Moves_targetAt_0 rfl (lv_at hl 1 rfl) ?_
  obtain ⟨t1, et1, hM⟩ := bS hM
  have kJ23_1 : ∀ (H : Heap) (locs : List Loc) (ls : Array Slot), RS base D cI cZ s H locs h → lv_has ls 2 [] → Wg l base D cI cZ 0 0 0 0 h (some (.int r)) p e s m args below meth c H locs 0 0 (F0 m 23 ls [.int t1]) := by
    intro H locs ls hS hl
    obtain rfl := Option.some.inj hM
    exact r_iret C hS d_Moves_targetAt_23
  refine lv_if_lt (tgt := 21) hx hb d_Moves_targetAt_1 (by decide) (fun c1_2 => ?_) (fun c1_2 => ?_)
  · rw [if_pos c1_2] at et1
    refine lv_bipush (v := (-6 : Int32)) hx hb d_Moves_targetAt_21 (by decide) ?_
    obtain rfl := Option.some.inj et1
    exact kJ23_1 _ _ _ hS (lv_sub hl [] rfl)
  · rw [if_neg c1_2] at et1
    refine lv_iload_n hx hb d_Moves_targetAt_4 rfl (lv_at hl 1 rfl) ?_
    refine lv_aload_n hx hb d_Moves_targetAt_5 rfl (lv_at hl 0 rfl) ?_
    obtain ⟨t2, et2, et1⟩ := bS et1
    refine r_getI C hS fl_Moves_22 et2 d_Moves_targetAt_6 ?_
    refine lv_icmp_ge (tgt := 21) hx hb d_Moves_targetAt_9 (by decide) (fun c9_3 => ?_) (fun c9_3 => ?_)
    · rw [if_pos c9_3] at et1
      refine lv_bipush (v := (-6 : Int32)) hx hb d_Moves_targetAt_21 (by decide) ?_
      obtain rfl := Option.some.inj et1
      exact kJ23_1 _ _ _ hS (lv_sub hl [] rfl)
    · rw [if_neg c9_3] at et1
      refine lv_aload_n hx hb d_Moves_targetAt_12 rfl (lv_at hl 0 rfl) ?_
      obtain ⟨t3, et3, et1⟩ := bS et1
      refine r_getR C hS fl_Moves_15 et3 d_Moves_targetAt_13 ?_
      refine lv_iload_n hx hb d_Moves_targetAt_16 rfl (lv_at hl 1 rfl) ?_
      obtain ⟨t4, et4, et1⟩ := bS et1
      refine r_iald C hS et4 d_Moves_targetAt_17 ?_
      refine lv_goto (tgt := 23) hx hb d_Moves_targetAt_18 (by decide) ?_
      obtain rfl := Option.some.inj et1
      exact kJ23_1 _ _ _ hS (lv_sub hl [] rfl)
theorem c_Moves_targetAt (l : Launch) (base : Nat) (D : va_G) (cI cZ : ClassId) (h : Hp) (l0 : Nat) (l1 : Int32) {r : Int32} (hM : f_Moves_targetAt h l0 l1 = some r) : Ct l base D cI cZ y_Moves_targetAt b_Moves_targetAt 2 (some .int) 0 0 0 0 h [.ref (base + l0), .int l1] h (some (.int r)) :=
  ct_of (by decide) (Nat.le_of_ble_eq_true rfl) (fun p e s m below meth c ls C hS hl => t_Moves_targetAt C hM _ _ _ hS hl)
theorem d_Loops_isReached_0 : decode b_Loops_isReached 0 = .ok (.iconst 0, 1) := by decide +kernel
theorem d_Loops_isReached_1 : decode b_Loops_isReached 1 = .ok (.istore_n 2, 1) := by decide +kernel
theorem d_Loops_isReached_2 : decode b_Loops_isReached 2 = .ok (.iload_n 2, 1) := by decide +kernel
theorem d_Loops_isReached_3 : decode b_Loops_isReached 3 = .ok (.aload_n 0, 1) := by decide +kernel
theorem d_Loops_isReached_4 : decode b_Loops_isReached 4 = .ok (.getfield 15, 3) := by decide +kernel
theorem d_Loops_isReached_7 : decode b_Loops_isReached 7 = .ok (.if_icmp .ge 21, 3) := by decide +kernel
theorem d_Loops_isReached_10 : decode b_Loops_isReached 10 = .ok (.aload_n 0, 1) := by decide +kernel
theorem d_Loops_isReached_11 : decode b_Loops_isReached 11 = .ok (.getfield 9, 3) := by decide +kernel
theorem d_Loops_isReached_14 : decode b_Loops_isReached 14 = .ok (.iload_n 2, 1) := by decide +kernel
theorem d_Loops_isReached_15 : decode b_Loops_isReached 15 = .ok (.iaload, 1) := by decide +kernel
theorem d_Loops_isReached_16 : decode b_Loops_isReached 16 = .ok (.iload_n 1, 1) := by decide +kernel
theorem d_Loops_isReached_17 : decode b_Loops_isReached 17 = .ok (.if_icmp .ne 5, 3) := by decide +kernel
theorem d_Loops_isReached_20 : decode b_Loops_isReached 20 = .ok (.iconst 1, 1) := by decide +kernel
theorem d_Loops_isReached_21 : decode b_Loops_isReached 21 = .ok (.ireturn, 1) := by decide +kernel
theorem d_Loops_isReached_22 : decode b_Loops_isReached 22 = .ok (.iinc 2 1, 3) := by decide +kernel
theorem d_Loops_isReached_25 : decode b_Loops_isReached 25 = .ok (.goto (-23), 3) := by decide +kernel
theorem d_Loops_isReached_28 : decode b_Loops_isReached 28 = .ok (.iconst 0, 1) := by decide +kernel
theorem d_Loops_isReached_29 : decode b_Loops_isReached 29 = .ok (.ireturn, 1) := by decide +kernel
def f_Loops_isReached_2 (h : Hp) (l0 : Nat) (l1 : Int32) : Nat → Int32 → Option Int32
  | 0, _ => none
  | n + 1, l2 =>
    (gI h 1 l0 1).bind fun t1 =>
    if t1 ≤ l2 then (
      rz (0 : Int32)
    ) else (
      (gR h 1 l0 0).bind fun t2 =>
      (gA h false t2 l2).bind fun t3 =>
      if t3 = l1 then (
        rz (1 : Int32)
      ) else (
        f_Loops_isReached_2 h l0 l1 n (l2 + (1 : Int32))
      )
    )
set_option maxHeartbeats 4000000 in
set_option maxRecDepth 100000 in
theorem t_Loops_isReached_2 {h : Hp} {l0 : Nat} {l1 : Int32} {r : Int32} (C : Cx base D cI cZ b_Loops_isReached 3 "MovedFolders$Loops" "isReached" (some .boolean) p s m args meth c)  : ∀ (n : Nat) (l2 : Int32), f_Loops_isReached_2 h l0 l1 n l2 = some r → ∀ (H : Heap) (locs : List Loc) (ls : Array Slot), RS base D cI cZ s H locs h → lv_has ls 3 [(0, .ref (base + l0)), (1, .int l1), (2, .int l2)] → Wg l base D cI cZ 0 0 0 0 h (some (.int r)) p e s m args below meth c H locs 0 0 (F0 m 2 ls []) := by
  have hx := C.1
  have hb := C.2.1
  intro n
  induction n with
  | zero =>
    intro l2 hM
    rw [f_Loops_isReached_2] at hM
    cases hM
  | succ n ih =>
    intro l2 hM H locs ls hS hl
    rw [f_Loops_isReached_2] at hM
    refine lv_iload_n hx hb d_Loops_isReached_2 rfl (lv_at hl 2 rfl) ?_
    refine lv_aload_n hx hb d_Loops_isReached_3 rfl (lv_at hl 0 rfl) ?_
    obtain ⟨t1, et1, hM⟩ := bS hM
    refine r_getI C hS fl_Loops_15 et1 d_Loops_isReached_4 ?_
    refine lv_icmp_ge (tgt := 28) hx hb d_Loops_isReached_7 (by decide) (fun c7_1 => ?_) (fun c7_1 => ?_)
    · rw [if_pos c7_1] at hM
      refine lv_iconst (v := (0 : Int32)) hx hb d_Loops_isReached_28 (by decide) ?_
      exact r_zret C hS hM d_Loops_isReached_29
    · rw [if_neg c7_1] at hM
      refine lv_aload_n hx hb d_Loops_isReached_10 rfl (lv_at hl 0 rfl) ?_
      obtain ⟨t2, et2, hM⟩ := bS hM
      refine r_getR C hS fl_Loops_9 et2 d_Loops_isReached_11 ?_
      refine lv_iload_n hx hb d_Loops_isReached_14 rfl (lv_at hl 2 rfl) ?_
      obtain ⟨t3, et3, hM⟩ := bS hM
      refine r_iald C hS et3 d_Loops_isReached_15 ?_
      refine lv_iload_n hx hb d_Loops_isReached_16 rfl (lv_at hl 1 rfl) ?_
      refine lv_icmp_ne (tgt := 22) hx hb d_Loops_isReached_17 (by decide) (fun c17_2 => ?_) (fun c17_2 => ?_)
      · rw [if_neg c17_2] at hM
        refine lv_iinc (v := (l2 + (1 : Int32))) (lv' := [(2, .int (l2 + (1 : Int32))), (0, .ref (base + l0)), (1, .int l1)]) hx hb d_Loops_isReached_22 hl (k := 2) rfl (by rw [oi_1]) (by decide) rfl (fun ls hl => ?_)
        refine lv_goto (tgt := 2) hx hb d_Loops_isReached_25 (by decide) ?_
        exact ih (l2 + (1 : Int32)) hM _ _ _ hS (lv_sub hl [1, 2, 0] rfl)
      · rw [if_pos c17_2] at hM
        refine lv_iconst (v := (1 : Int32)) hx hb d_Loops_isReached_20 (by decide) ?_
        exact r_zret C hS hM d_Loops_isReached_21
def f_Loops_isReached (h : Hp) (l0 : Nat) (l1 : Int32) : Option Int32 :=
  ck h 1 l0 (
    f_Loops_isReached_2 h l0 l1 FU (0 : Int32)
  )
theorem o_Loops_isReached {h : Hp} {l0 : Nat} {l1 : Int32} {r : Int32} (hM : f_Loops_isReached h l0 l1 = some r) : isO h 1 l0 = true := by
  unfold f_Loops_isReached at hM
  exact (ck_some hM).1
set_option maxHeartbeats 4000000 in
set_option maxRecDepth 100000 in
theorem t_Loops_isReached {h : Hp} {l0 : Nat} {l1 : Int32} {r : Int32} (C : Cx base D cI cZ b_Loops_isReached 3 "MovedFolders$Loops" "isReached" (some .boolean) p s m args meth c) (hM : f_Loops_isReached h l0 l1 = some r) (H : Heap) (locs : List Loc) (ls : Array Slot) (hS : RS base D cI cZ s H locs h) (hl : lv_has ls 3 [(0, .ref (base + l0)), (1, .int l1)]) : Wg l base D cI cZ 0 0 0 0 h (some (.int r)) p e s m args below meth c H locs 0 0 (F0 m 0 ls []) := by
  have hx := C.1
  have hb := C.2.1
  unfold f_Loops_isReached at hM
  replace hM := (ck_some hM).2
  refine lv_iconst (v := (0 : Int32)) hx hb d_Loops_isReached_0 (by decide) ?_
  refine lv_istore_n (lv' := [(2, .int (0 : Int32)), (0, .ref (base + l0)), (1, .int l1)]) hx hb d_Loops_isReached_1 rfl hl (by decide) rfl (fun ls hl => ?_)
  exact t_Loops_isReached_2  C  FU (0 : Int32) hM _ _ _ hS (lv_sub hl [1, 2, 0] rfl)
theorem c_Loops_isReached (l : Launch) (base : Nat) (D : va_G) (cI cZ : ClassId) (h : Hp) (l0 : Nat) (l1 : Int32) {r : Int32} (hM : f_Loops_isReached h l0 l1 = some r) : Ct l base D cI cZ y_Loops_isReached b_Loops_isReached 3 (some .boolean) 0 0 0 0 h [.ref (base + l0), .int l1] h (some (.int r)) :=
  ct_of (by decide) (Nat.le_of_ble_eq_true rfl) (fun p e s m below meth c ls C hS hl => t_Loops_isReached C hM _ _ _ hS hl)
theorem d_Loops_add_0 : decode b_Loops_add 0 = .ok (.iload_n 1, 1) := by decide +kernel
theorem d_Loops_add_1 : decode b_Loops_add 1 = .ok (.bipush (-6), 2) := by decide +kernel
theorem d_Loops_add_3 : decode b_Loops_add 3 = .ok (.if_icmp .eq 43, 3) := by decide +kernel
theorem d_Loops_add_6 : decode b_Loops_add 6 = .ok (.aload_n 0, 1) := by decide +kernel
theorem d_Loops_add_7 : decode b_Loops_add 7 = .ok (.getfield 15, 3) := by decide +kernel
theorem d_Loops_add_10 : decode b_Loops_add 10 = .ok (.aload_n 0, 1) := by decide +kernel
theorem d_Loops_add_11 : decode b_Loops_add 11 = .ok (.getfield 9, 3) := by decide +kernel
theorem d_Loops_add_14 : decode b_Loops_add 14 = .ok (.arraylength, 1) := by decide +kernel
theorem d_Loops_add_15 : decode b_Loops_add 15 = .ok (.if_icmp .ge 31, 3) := by decide +kernel
theorem d_Loops_add_18 : decode b_Loops_add 18 = .ok (.aload_n 0, 1) := by decide +kernel
theorem d_Loops_add_19 : decode b_Loops_add 19 = .ok (.iload_n 1, 1) := by decide +kernel
theorem d_Loops_add_20 : decode b_Loops_add 20 = .ok (.invokevirtual 40, 3) := by decide +kernel
theorem d_Loops_add_23 : decode b_Loops_add 23 = .ok (.ifCond .ne 23, 3) := by decide +kernel
theorem d_Loops_add_26 : decode b_Loops_add 26 = .ok (.aload_n 0, 1) := by decide +kernel
theorem d_Loops_add_27 : decode b_Loops_add 27 = .ok (.getfield 9, 3) := by decide +kernel
theorem d_Loops_add_30 : decode b_Loops_add 30 = .ok (.aload_n 0, 1) := by decide +kernel
theorem d_Loops_add_31 : decode b_Loops_add 31 = .ok (.getfield 15, 3) := by decide +kernel
theorem d_Loops_add_34 : decode b_Loops_add 34 = .ok (.iload_n 1, 1) := by decide +kernel
theorem d_Loops_add_35 : decode b_Loops_add 35 = .ok (.iastore, 1) := by decide +kernel
theorem d_Loops_add_36 : decode b_Loops_add 36 = .ok (.aload_n 0, 1) := by decide +kernel
theorem d_Loops_add_37 : decode b_Loops_add 37 = .ok (.dup, 1) := by decide +kernel
theorem d_Loops_add_38 : decode b_Loops_add 38 = .ok (.getfield 15, 3) := by decide +kernel
theorem d_Loops_add_41 : decode b_Loops_add 41 = .ok (.iconst 1, 1) := by decide +kernel
theorem d_Loops_add_42 : decode b_Loops_add 42 = .ok (.iadd, 1) := by decide +kernel
theorem d_Loops_add_43 : decode b_Loops_add 43 = .ok (.putfield 15, 3) := by decide +kernel
theorem d_Loops_add_46 : decode b_Loops_add 46 = .ok (.return_, 1) := by decide +kernel
def f_Loops_add (h : Hp) (l0 : Nat) (l1 : Int32) : Option Hp :=
  ck h 1 l0 (
    (
      if l1 = (-6 : Int32) then (
        some h
      ) else (
        (gI h 1 l0 1).bind fun t2 =>
        (gR h 1 l0 0).bind fun t3 =>
        (lA h t3).bind fun t4 =>
        if t4 ≤ t2 then (
          some h
        ) else (
          (f_Loops_isReached h l0 l1).bind fun t5 =>
          if t5 = (0 : Int32) then (
            (gR h 1 l0 0).bind fun t6 =>
            (gI h 1 l0 1).bind fun t7 =>
            (sA h t6 t7 l1).bind fun h8 =>
            (gI h8 1 l0 1).bind fun t9 =>
            (sI h8 1 l0 1 (t9 + (1 : Int32))).bind fun h10 =>
            some h10
          ) else (
            some h
          )
        )
      )
    ).bind fun h1 =>
    some h1
  )
theorem o_Loops_add {h : Hp} {l0 : Nat} {l1 : Int32} {r : Hp} (hM : f_Loops_add h l0 l1 = some r) : isO h 1 l0 = true := by
  unfold f_Loops_add at hM
  exact (ck_some hM).1
set_option maxHeartbeats 4000000 in
set_option maxRecDepth 100000 in
theorem t_Loops_add {h : Hp} {l0 : Nat} {l1 : Int32} {r : Hp} (C : Cx base D cI cZ b_Loops_add 2 "MovedFolders$Loops" "add" none p s m args meth c) (hM : f_Loops_add h l0 l1 = some r) (H : Heap) (locs : List Loc) (ls : Array Slot) (hS : RS base D cI cZ s H locs h) (hl : lv_has ls 2 [(0, .ref (base + l0)), (1, .int l1)]) : Wg l base D cI cZ 1 22 0 0 r none p e s m args below meth c H locs 0 0 (F0 m 0 ls []) := by
  have hx := C.1
  have hb := C.2.1
  unfold f_Loops_add at hM
  replace hM := (ck_some hM).2
  refine lv_iload_n hx hb d_Loops_add_0 rfl (lv_at hl 1 rfl) ?_
  refine lv_bipush (v := (-6 : Int32)) hx hb d_Loops_add_1 (by decide) ?_
  obtain ⟨h1, eh1, hM⟩ := bS hM
  have kJ46_1 : ∀ (H : Heap) (locs : List Loc) (ls : Array Slot), RS base D cI cZ s H locs h1 → lv_has ls 2 [] → Wg l base D cI cZ 1 22 0 0 r none p e s m args below meth c H locs 0 0 (F0 m 46 ls []) := by
    intro H locs ls hS hl
    obtain rfl := Option.some.inj hM
    exact r_vret C hS d_Loops_add_46
  refine lv_icmp_eq (tgt := 46) hx hb d_Loops_add_3 (by decide) (fun c3_2 => ?_) (fun c3_2 => ?_)
  · rw [if_pos c3_2] at eh1
    obtain rfl := Option.some.inj eh1
    exact kJ46_1 _ _ _ hS (lv_sub hl [] rfl)
  · rw [if_neg c3_2] at eh1
    refine lv_aload_n hx hb d_Loops_add_6 rfl (lv_at hl 0 rfl) ?_
    obtain ⟨t2, et2, eh1⟩ := bS eh1
    refine r_getI C hS fl_Loops_15 et2 d_Loops_add_7 ?_
    refine lv_aload_n hx hb d_Loops_add_10 rfl (lv_at hl 0 rfl) ?_
    obtain ⟨t3, et3, eh1⟩ := bS eh1
    refine r_getR C hS fl_Loops_9 et3 d_Loops_add_11 ?_
    obtain ⟨t4, et4, eh1⟩ := bS eh1
    refine r_alen C hS et4 d_Loops_add_14 ?_
    refine lv_icmp_ge (tgt := 46) hx hb d_Loops_add_15 (by decide) (fun c15_3 => ?_) (fun c15_3 => ?_)
    · rw [if_pos c15_3] at eh1
      obtain rfl := Option.some.inj eh1
      exact kJ46_1 _ _ _ hS (lv_sub hl [] rfl)
    · rw [if_neg c15_3] at eh1
      refine lv_aload_n hx hb d_Loops_add_18 rfl (lv_at hl 0 rfl) ?_
      refine lv_iload_n hx hb d_Loops_add_19 rfl (lv_at hl 1 rfl) ?_
      obtain ⟨t5, et5, eh1⟩ := bS eh1
      refine r_callVi (x := t5) C hS cv_Loops_40 (c_Loops_isReached l base D cI cZ h l0 l1 et5) (o_Loops_isReached et5) (rest := []) rfl hl.1 rfl (Nat.le_of_ble_eq_true rfl) ⟨(Nat.le_of_ble_eq_true rfl), (Nat.le_of_ble_eq_true rfl)⟩ ⟨(Nat.le_of_ble_eq_true rfl), (Nat.le_of_ble_eq_true rfl)⟩ d_Loops_add_20 (fun H locs hS => ?_)
      refine lv_if_ne (tgt := 46) hx hb d_Loops_add_23 (by decide) (fun c23_4 => ?_) (fun c23_4 => ?_)
      · rw [if_neg c23_4] at eh1
        obtain rfl := Option.some.inj eh1
        exact kJ46_1 _ _ _ hS (lv_sub hl [] rfl)
      · rw [if_pos c23_4] at eh1
        refine lv_aload_n hx hb d_Loops_add_26 rfl (lv_at hl 0 rfl) ?_
        obtain ⟨t6, et6, eh1⟩ := bS eh1
        refine r_getR C hS fl_Loops_9 et6 d_Loops_add_27 ?_
        refine lv_aload_n hx hb d_Loops_add_30 rfl (lv_at hl 0 rfl) ?_
        obtain ⟨t7, et7, eh1⟩ := bS eh1
        refine r_getI C hS fl_Loops_15 et7 d_Loops_add_31 ?_
        refine lv_iload_n hx hb d_Loops_add_34 rfl (lv_at hl 1 rfl) ?_
        obtain ⟨h8, eh8, eh1⟩ := bS eh1
        refine r_iast C hS eh8 d_Loops_add_35 (fun H locs hS => ?_)
        refine lv_aload_n hx hb d_Loops_add_36 rfl (lv_at hl 0 rfl) ?_
        refine lv_dup hx hb d_Loops_add_37 rfl ?_
        obtain ⟨t9, et9, eh1⟩ := bS eh1
        refine r_getI C hS fl_Loops_15 et9 d_Loops_add_38 ?_
        refine lv_iconst (v := (1 : Int32)) hx hb d_Loops_add_41 (by decide) ?_
        refine lv_iadd hx hb d_Loops_add_42 ?_
        obtain ⟨h10, eh10, eh1⟩ := bS eh1
        refine r_putI C hS fp_Loops_15 eh10 d_Loops_add_43 (fun H locs hS => ?_)
        obtain rfl := Option.some.inj eh1
        exact kJ46_1 _ _ _ hS (lv_sub hl [] rfl)
theorem c_Loops_add (l : Launch) (base : Nat) (D : va_G) (cI cZ : ClassId) (h : Hp) (l0 : Nat) (l1 : Int32) {r : Hp} (hM : f_Loops_add h l0 l1 = some r) : Ct l base D cI cZ y_Loops_add b_Loops_add 2 none 1 22 0 0 h [.ref (base + l0), .int l1] r none :=
  ct_of (by decide) (Nat.le_of_ble_eq_true rfl) (fun p e s m below meth c ls C hS hl => t_Loops_add C hM _ _ _ hS hl)
theorem d_Moves_placeOf_0 : decode b_Moves_placeOf 0 = .ok (.iconst 0, 1) := by decide +kernel
theorem d_Moves_placeOf_1 : decode b_Moves_placeOf 1 = .ok (.istore_n 2, 1) := by decide +kernel
theorem d_Moves_placeOf_2 : decode b_Moves_placeOf 2 = .ok (.iload_n 2, 1) := by decide +kernel
theorem d_Moves_placeOf_3 : decode b_Moves_placeOf 3 = .ok (.aload_n 0, 1) := by decide +kernel
theorem d_Moves_placeOf_4 : decode b_Moves_placeOf 4 = .ok (.getfield 22, 3) := by decide +kernel
theorem d_Moves_placeOf_7 : decode b_Moves_placeOf 7 = .ok (.if_icmp .ge 21, 3) := by decide +kernel
theorem d_Moves_placeOf_10 : decode b_Moves_placeOf 10 = .ok (.aload_n 0, 1) := by decide +kernel
theorem d_Moves_placeOf_11 : decode b_Moves_placeOf 11 = .ok (.getfield 9, 3) := by decide +kernel
theorem d_Moves_placeOf_14 : decode b_Moves_placeOf 14 = .ok (.iload_n 2, 1) := by decide +kernel
theorem d_Moves_placeOf_15 : decode b_Moves_placeOf 15 = .ok (.iaload, 1) := by decide +kernel
theorem d_Moves_placeOf_16 : decode b_Moves_placeOf 16 = .ok (.iload_n 1, 1) := by decide +kernel
theorem d_Moves_placeOf_17 : decode b_Moves_placeOf 17 = .ok (.if_icmp .ne 5, 3) := by decide +kernel
theorem d_Moves_placeOf_20 : decode b_Moves_placeOf 20 = .ok (.iload_n 2, 1) := by decide +kernel
theorem d_Moves_placeOf_21 : decode b_Moves_placeOf 21 = .ok (.ireturn, 1) := by decide +kernel
theorem d_Moves_placeOf_22 : decode b_Moves_placeOf 22 = .ok (.iinc 2 1, 3) := by decide +kernel
theorem d_Moves_placeOf_25 : decode b_Moves_placeOf 25 = .ok (.goto (-23), 3) := by decide +kernel
theorem d_Moves_placeOf_28 : decode b_Moves_placeOf 28 = .ok (.bipush (-6), 2) := by decide +kernel
theorem d_Moves_placeOf_30 : decode b_Moves_placeOf 30 = .ok (.ireturn, 1) := by decide +kernel
def f_Moves_placeOf_2 (h : Hp) (l0 : Nat) (l1 : Int32) : Nat → Int32 → Option Int32
  | 0, _ => none
  | n + 1, l2 =>
    (gI h 3 l0 3).bind fun t1 =>
    if t1 ≤ l2 then (
      some (-6 : Int32)
    ) else (
      (gR h 3 l0 0).bind fun t2 =>
      (gA h false t2 l2).bind fun t3 =>
      if t3 = l1 then (
        some l2
      ) else (
        f_Moves_placeOf_2 h l0 l1 n (l2 + (1 : Int32))
      )
    )
set_option maxHeartbeats 4000000 in
set_option maxRecDepth 100000 in
theorem t_Moves_placeOf_2 {h : Hp} {l0 : Nat} {l1 : Int32} {r : Int32} (C : Cx base D cI cZ b_Moves_placeOf 3 "MovedFolders$Moves" "placeOf" (some .int) p s m args meth c)  : ∀ (n : Nat) (l2 : Int32), f_Moves_placeOf_2 h l0 l1 n l2 = some r → ∀ (H : Heap) (locs : List Loc) (ls : Array Slot), RS base D cI cZ s H locs h → lv_has ls 3 [(0, .ref (base + l0)), (1, .int l1), (2, .int l2)] → Wg l base D cI cZ 0 0 0 0 h (some (.int r)) p e s m args below meth c H locs 0 0 (F0 m 2 ls []) := by
  have hx := C.1
  have hb := C.2.1
  intro n
  induction n with
  | zero =>
    intro l2 hM
    rw [f_Moves_placeOf_2] at hM
    cases hM
  | succ n ih =>
    intro l2 hM H locs ls hS hl
    rw [f_Moves_placeOf_2] at hM
    refine lv_iload_n hx hb d_Moves_placeOf_2 rfl (lv_at hl 2 rfl) ?_
    refine lv_aload_n hx hb d_Moves_placeOf_3 rfl (lv_at hl 0 rfl) ?_
    obtain ⟨t1, et1, hM⟩ := bS hM
    refine r_getI C hS fl_Moves_22 et1 d_Moves_placeOf_4 ?_
    refine lv_icmp_ge (tgt := 28) hx hb d_Moves_placeOf_7 (by decide) (fun c7_1 => ?_) (fun c7_1 => ?_)
    · rw [if_pos c7_1] at hM
      refine lv_bipush (v := (-6 : Int32)) hx hb d_Moves_placeOf_28 (by decide) ?_
      obtain rfl := Option.some.inj hM
      exact r_iret C hS d_Moves_placeOf_30
    · rw [if_neg c7_1] at hM
      refine lv_aload_n hx hb d_Moves_placeOf_10 rfl (lv_at hl 0 rfl) ?_
      obtain ⟨t2, et2, hM⟩ := bS hM
      refine r_getR C hS fl_Moves_9 et2 d_Moves_placeOf_11 ?_
      refine lv_iload_n hx hb d_Moves_placeOf_14 rfl (lv_at hl 2 rfl) ?_
      obtain ⟨t3, et3, hM⟩ := bS hM
      refine r_iald C hS et3 d_Moves_placeOf_15 ?_
      refine lv_iload_n hx hb d_Moves_placeOf_16 rfl (lv_at hl 1 rfl) ?_
      refine lv_icmp_ne (tgt := 22) hx hb d_Moves_placeOf_17 (by decide) (fun c17_2 => ?_) (fun c17_2 => ?_)
      · rw [if_neg c17_2] at hM
        refine lv_iinc (v := (l2 + (1 : Int32))) (lv' := [(2, .int (l2 + (1 : Int32))), (0, .ref (base + l0)), (1, .int l1)]) hx hb d_Moves_placeOf_22 hl (k := 2) rfl (by rw [oi_1]) (by decide) rfl (fun ls hl => ?_)
        refine lv_goto (tgt := 2) hx hb d_Moves_placeOf_25 (by decide) ?_
        exact ih (l2 + (1 : Int32)) hM _ _ _ hS (lv_sub hl [1, 2, 0] rfl)
      · rw [if_pos c17_2] at hM
        refine lv_iload_n hx hb d_Moves_placeOf_20 rfl (lv_at hl 2 rfl) ?_
        obtain rfl := Option.some.inj hM
        exact r_iret C hS d_Moves_placeOf_21
def f_Moves_placeOf (h : Hp) (l0 : Nat) (l1 : Int32) : Option Int32 :=
  ck h 3 l0 (
    f_Moves_placeOf_2 h l0 l1 FU (0 : Int32)
  )
theorem o_Moves_placeOf {h : Hp} {l0 : Nat} {l1 : Int32} {r : Int32} (hM : f_Moves_placeOf h l0 l1 = some r) : isO h 3 l0 = true := by
  unfold f_Moves_placeOf at hM
  exact (ck_some hM).1
set_option maxHeartbeats 4000000 in
set_option maxRecDepth 100000 in
theorem t_Moves_placeOf {h : Hp} {l0 : Nat} {l1 : Int32} {r : Int32} (C : Cx base D cI cZ b_Moves_placeOf 3 "MovedFolders$Moves" "placeOf" (some .int) p s m args meth c) (hM : f_Moves_placeOf h l0 l1 = some r) (H : Heap) (locs : List Loc) (ls : Array Slot) (hS : RS base D cI cZ s H locs h) (hl : lv_has ls 3 [(0, .ref (base + l0)), (1, .int l1)]) : Wg l base D cI cZ 0 0 0 0 h (some (.int r)) p e s m args below meth c H locs 0 0 (F0 m 0 ls []) := by
  have hx := C.1
  have hb := C.2.1
  unfold f_Moves_placeOf at hM
  replace hM := (ck_some hM).2
  refine lv_iconst (v := (0 : Int32)) hx hb d_Moves_placeOf_0 (by decide) ?_
  refine lv_istore_n (lv' := [(2, .int (0 : Int32)), (0, .ref (base + l0)), (1, .int l1)]) hx hb d_Moves_placeOf_1 rfl hl (by decide) rfl (fun ls hl => ?_)
  exact t_Moves_placeOf_2  C  FU (0 : Int32) hM _ _ _ hS (lv_sub hl [1, 2, 0] rfl)
theorem c_Moves_placeOf (l : Launch) (base : Nat) (D : va_G) (cI cZ : ClassId) (h : Hp) (l0 : Nat) (l1 : Int32) {r : Int32} (hM : f_Moves_placeOf h l0 l1 = some r) : Ct l base D cI cZ y_Moves_placeOf b_Moves_placeOf 3 (some .int) 0 0 0 0 h [.ref (base + l0), .int l1] h (some (.int r)) :=
  ct_of (by decide) (Nat.le_of_ble_eq_true rfl) (fun p e s m below meth c ls C hS hl => t_Moves_placeOf C hM _ _ _ hS hl)
theorem d_Moves_targetOf_0 : decode b_Moves_targetOf 0 = .ok (.aload_n 0, 1) := by decide +kernel
theorem d_Moves_targetOf_1 : decode b_Moves_targetOf 1 = .ok (.aload_n 0, 1) := by decide +kernel
theorem d_Moves_targetOf_2 : decode b_Moves_targetOf 2 = .ok (.iload_n 1, 1) := by decide +kernel
theorem d_Moves_targetOf_3 : decode b_Moves_targetOf 3 = .ok (.invokevirtual 26, 3) := by decide +kernel
theorem d_Moves_targetOf_6 : decode b_Moves_targetOf 6 = .ok (.invokevirtual 30, 3) := by decide +kernel
theorem d_Moves_targetOf_9 : decode b_Moves_targetOf 9 = .ok (.ireturn, 1) := by decide +kernel
def f_Moves_targetOf (h : Hp) (l0 : Nat) (l1 : Int32) : Option Int32 :=
  ck h 3 l0 (
    (f_Moves_placeOf h l0 l1).bind fun t1 =>
    (f_Moves_targetAt h l0 t1).bind fun t2 =>
    some t2
  )
theorem o_Moves_targetOf {h : Hp} {l0 : Nat} {l1 : Int32} {r : Int32} (hM : f_Moves_targetOf h l0 l1 = some r) : isO h 3 l0 = true := by
  unfold f_Moves_targetOf at hM
  exact (ck_some hM).1
set_option maxHeartbeats 4000000 in
set_option maxRecDepth 100000 in
theorem t_Moves_targetOf {h : Hp} {l0 : Nat} {l1 : Int32} {r : Int32} (C : Cx base D cI cZ b_Moves_targetOf 2 "MovedFolders$Moves" "targetOf" (some .int) p s m args meth c) (hM : f_Moves_targetOf h l0 l1 = some r) (H : Heap) (locs : List Loc) (ls : Array Slot) (hS : RS base D cI cZ s H locs h) (hl : lv_has ls 2 [(0, .ref (base + l0)), (1, .int l1)]) : Wg l base D cI cZ 1 22 0 0 h (some (.int r)) p e s m args below meth c H locs 0 0 (F0 m 0 ls []) := by
  have hx := C.1
  have hb := C.2.1
  unfold f_Moves_targetOf at hM
  replace hM := (ck_some hM).2
  refine lv_aload_n hx hb d_Moves_targetOf_0 rfl (lv_at hl 0 rfl) ?_
  refine lv_aload_n hx hb d_Moves_targetOf_1 rfl (lv_at hl 0 rfl) ?_
  refine lv_iload_n hx hb d_Moves_targetOf_2 rfl (lv_at hl 1 rfl) ?_
  obtain ⟨t1, et1, hM⟩ := bS hM
  refine r_callVi (x := t1) C hS cv_Moves_26 (c_Moves_placeOf l base D cI cZ h l0 l1 et1) (o_Moves_placeOf et1) (rest := [.ref (base + l0)]) rfl hl.1 rfl (Nat.le_of_ble_eq_true rfl) ⟨(Nat.le_of_ble_eq_true rfl), (Nat.le_of_ble_eq_true rfl)⟩ ⟨(Nat.le_of_ble_eq_true rfl), (Nat.le_of_ble_eq_true rfl)⟩ d_Moves_targetOf_3 (fun H locs hS => ?_)
  obtain ⟨t2, et2, hM⟩ := bS hM
  refine r_callVi (x := t2) C hS cv_Moves_30 (c_Moves_targetAt l base D cI cZ h l0 t1 et2) (o_Moves_targetAt et2) (rest := []) rfl hl.1 rfl (Nat.le_of_ble_eq_true rfl) ⟨(Nat.le_of_ble_eq_true rfl), (Nat.le_of_ble_eq_true rfl)⟩ ⟨(Nat.le_of_ble_eq_true rfl), (Nat.le_of_ble_eq_true rfl)⟩ d_Moves_targetOf_6 (fun H locs hS => ?_)
  obtain rfl := Option.some.inj hM
  exact r_iret C hS d_Moves_targetOf_9
theorem c_Moves_targetOf (l : Launch) (base : Nat) (D : va_G) (cI cZ : ClassId) (h : Hp) (l0 : Nat) (l1 : Int32) {r : Int32} (hM : f_Moves_targetOf h l0 l1 = some r) : Ct l base D cI cZ y_Moves_targetOf b_Moves_targetOf 2 (some .int) 1 22 0 0 h [.ref (base + l0), .int l1] h (some (.int r)) :=
  ct_of (by decide) (Nat.le_of_ble_eq_true rfl) (fun p e s m below meth c ls C hS hl => t_Moves_targetOf C hM _ _ _ hS hl)
theorem d_Loops_reachFrom_0 : decode b_Loops_reachFrom 0 = .ok (.aload_n 0, 1) := by decide +kernel
theorem d_Loops_reachFrom_1 : decode b_Loops_reachFrom 1 = .ok (.iconst 0, 1) := by decide +kernel
theorem d_Loops_reachFrom_2 : decode b_Loops_reachFrom 2 = .ok (.putfield 15, 3) := by decide +kernel
theorem d_Loops_reachFrom_5 : decode b_Loops_reachFrom 5 = .ok (.aload_n 0, 1) := by decide +kernel
theorem d_Loops_reachFrom_6 : decode b_Loops_reachFrom 6 = .ok (.iload_n 1, 1) := by decide +kernel
theorem d_Loops_reachFrom_7 : decode b_Loops_reachFrom 7 = .ok (.invokevirtual 48, 3) := by decide +kernel
theorem d_Loops_reachFrom_10 : decode b_Loops_reachFrom 10 = .ok (.iconst 0, 1) := by decide +kernel
theorem d_Loops_reachFrom_11 : decode b_Loops_reachFrom 11 = .ok (.istore 4, 2) := by decide +kernel
theorem d_Loops_reachFrom_13 : decode b_Loops_reachFrom 13 = .ok (.iload 4, 2) := by decide +kernel
theorem d_Loops_reachFrom_15 : decode b_Loops_reachFrom 15 = .ok (.aload_n 0, 1) := by decide +kernel
theorem d_Loops_reachFrom_16 : decode b_Loops_reachFrom 16 = .ok (.getfield 9, 3) := by decide +kernel
theorem d_Loops_reachFrom_19 : decode b_Loops_reachFrom 19 = .ok (.arraylength, 1) := by decide +kernel
theorem d_Loops_reachFrom_20 : decode b_Loops_reachFrom 20 = .ok (.if_icmp .ge 48, 3) := by decide +kernel
theorem d_Loops_reachFrom_23 : decode b_Loops_reachFrom 23 = .ok (.iload 4, 2) := by decide +kernel
theorem d_Loops_reachFrom_25 : decode b_Loops_reachFrom 25 = .ok (.aload_n 0, 1) := by decide +kernel
theorem d_Loops_reachFrom_26 : decode b_Loops_reachFrom 26 = .ok (.getfield 15, 3) := by decide +kernel
theorem d_Loops_reachFrom_29 : decode b_Loops_reachFrom 29 = .ok (.if_icmp .ge 39, 3) := by decide +kernel
theorem d_Loops_reachFrom_32 : decode b_Loops_reachFrom 32 = .ok (.aload_n 0, 1) := by decide +kernel
theorem d_Loops_reachFrom_33 : decode b_Loops_reachFrom 33 = .ok (.aload_n 2, 1) := by decide +kernel
theorem d_Loops_reachFrom_34 : decode b_Loops_reachFrom 34 = .ok (.aload_n 0, 1) := by decide +kernel
theorem d_Loops_reachFrom_35 : decode b_Loops_reachFrom 35 = .ok (.getfield 9, 3) := by decide +kernel
theorem d_Loops_reachFrom_38 : decode b_Loops_reachFrom 38 = .ok (.iload 4, 2) := by decide +kernel
theorem d_Loops_reachFrom_40 : decode b_Loops_reachFrom 40 = .ok (.iaload, 1) := by decide +kernel
theorem d_Loops_reachFrom_41 : decode b_Loops_reachFrom 41 = .ok (.invokevirtual 52, 3) := by decide +kernel
theorem d_Loops_reachFrom_44 : decode b_Loops_reachFrom 44 = .ok (.invokevirtual 48, 3) := by decide +kernel
theorem d_Loops_reachFrom_47 : decode b_Loops_reachFrom 47 = .ok (.aload_n 0, 1) := by decide +kernel
theorem d_Loops_reachFrom_48 : decode b_Loops_reachFrom 48 = .ok (.aload_n 3, 1) := by decide +kernel
theorem d_Loops_reachFrom_49 : decode b_Loops_reachFrom 49 = .ok (.aload_n 0, 1) := by decide +kernel
theorem d_Loops_reachFrom_50 : decode b_Loops_reachFrom 50 = .ok (.getfield 9, 3) := by decide +kernel
theorem d_Loops_reachFrom_53 : decode b_Loops_reachFrom 53 = .ok (.iload 4, 2) := by decide +kernel
theorem d_Loops_reachFrom_55 : decode b_Loops_reachFrom 55 = .ok (.iaload, 1) := by decide +kernel
theorem d_Loops_reachFrom_56 : decode b_Loops_reachFrom 56 = .ok (.invokevirtual 52, 3) := by decide +kernel
theorem d_Loops_reachFrom_59 : decode b_Loops_reachFrom 59 = .ok (.invokevirtual 48, 3) := by decide +kernel
theorem d_Loops_reachFrom_62 : decode b_Loops_reachFrom 62 = .ok (.iinc 4 1, 3) := by decide +kernel
theorem d_Loops_reachFrom_65 : decode b_Loops_reachFrom 65 = .ok (.goto (-52), 3) := by decide +kernel
theorem d_Loops_reachFrom_68 : decode b_Loops_reachFrom 68 = .ok (.return_, 1) := by decide +kernel
def f_Loops_reachFrom_13 (l0 : Nat) (l2 : Nat) (l3 : Nat) : Nat → Int32 → Hp → Option Hp
  | 0, _, _ => none
  | n + 1, l4, h =>
    (gR h 1 l0 0).bind fun t3 =>
    (lA h t3).bind fun t4 =>
    if t4 ≤ l4 then (
      some h
    ) else (
      (gI h 1 l0 1).bind fun t5 =>
      if t5 ≤ l4 then (
        some h
      ) else (
        (gR h 1 l0 0).bind fun t6 =>
        (gA h false t6 l4).bind fun t7 =>
        (f_Moves_targetOf h l2 t7).bind fun t8 =>
        (f_Loops_add h l0 t8).bind fun h9 =>
        (gR h9 1 l0 0).bind fun t10 =>
        (gA h9 false t10 l4).bind fun t11 =>
        (f_Moves_targetOf h9 l3 t11).bind fun t12 =>
        (f_Loops_add h9 l0 t12).bind fun h13 =>
        f_Loops_reachFrom_13 l0 l2 l3 n (l4 + (1 : Int32)) h13
      )
    )
set_option maxHeartbeats 4000000 in
set_option maxRecDepth 100000 in
theorem t_Loops_reachFrom_13 {l0 : Nat} {l2 : Nat} {l3 : Nat} {r : Hp} (C : Cx base D cI cZ b_Loops_reachFrom 5 "MovedFolders$Loops" "reachFrom" none p s m args meth c)  : ∀ (n : Nat) (l4 : Int32) (h : Hp), f_Loops_reachFrom_13 l0 l2 l3 n l4 h = some r → ∀ (H : Heap) (locs : List Loc) (ls : Array Slot), RS base D cI cZ s H locs h → lv_has ls 5 [(0, .ref (base + l0)), (2, .ref (base + l2)), (3, .ref (base + l3)), (4, .int l4)] → Wg l base D cI cZ 2 43 0 0 r none p e s m args below meth c H locs 0 0 (F0 m 13 ls []) := by
  have hx := C.1
  have hb := C.2.1
  intro n
  induction n with
  | zero =>
    intro l4 h hM
    rw [f_Loops_reachFrom_13] at hM
    cases hM
  | succ n ih =>
    intro l4 h hM H locs ls hS hl
    rw [f_Loops_reachFrom_13] at hM
    refine lv_iload hx hb d_Loops_reachFrom_13 (lv_at hl 3 rfl) ?_
    refine lv_aload_n hx hb d_Loops_reachFrom_15 rfl (lv_at hl 0 rfl) ?_
    obtain ⟨t3, et3, hM⟩ := bS hM
    refine r_getR C hS fl_Loops_9 et3 d_Loops_reachFrom_16 ?_
    obtain ⟨t4, et4, hM⟩ := bS hM
    refine r_alen C hS et4 d_Loops_reachFrom_19 ?_
    refine lv_icmp_ge (tgt := 68) hx hb d_Loops_reachFrom_20 (by decide) (fun c20_1 => ?_) (fun c20_1 => ?_)
    · rw [if_pos c20_1] at hM
      obtain rfl := Option.some.inj hM
      exact r_vret C hS d_Loops_reachFrom_68
    · rw [if_neg c20_1] at hM
      refine lv_iload hx hb d_Loops_reachFrom_23 (lv_at hl 3 rfl) ?_
      refine lv_aload_n hx hb d_Loops_reachFrom_25 rfl (lv_at hl 0 rfl) ?_
      obtain ⟨t5, et5, hM⟩ := bS hM
      refine r_getI C hS fl_Loops_15 et5 d_Loops_reachFrom_26 ?_
      refine lv_icmp_ge (tgt := 68) hx hb d_Loops_reachFrom_29 (by decide) (fun c29_2 => ?_) (fun c29_2 => ?_)
      · rw [if_pos c29_2] at hM
        obtain rfl := Option.some.inj hM
        exact r_vret C hS d_Loops_reachFrom_68
      · rw [if_neg c29_2] at hM
        refine lv_aload_n hx hb d_Loops_reachFrom_32 rfl (lv_at hl 0 rfl) ?_
        refine lv_aload_n hx hb d_Loops_reachFrom_33 rfl (lv_at hl 1 rfl) ?_
        refine lv_aload_n hx hb d_Loops_reachFrom_34 rfl (lv_at hl 0 rfl) ?_
        obtain ⟨t6, et6, hM⟩ := bS hM
        refine r_getR C hS fl_Loops_9 et6 d_Loops_reachFrom_35 ?_
        refine lv_iload hx hb d_Loops_reachFrom_38 (lv_at hl 3 rfl) ?_
        obtain ⟨t7, et7, hM⟩ := bS hM
        refine r_iald C hS et7 d_Loops_reachFrom_40 ?_
        obtain ⟨t8, et8, hM⟩ := bS hM
        refine r_callVi (x := t8) C hS cv_Loops_52 (c_Moves_targetOf l base D cI cZ h l2 t7 et8) (o_Moves_targetOf et8) (rest := [.ref (base + l0)]) rfl hl.1 rfl (Nat.le_of_ble_eq_true rfl) ⟨(Nat.le_of_ble_eq_true rfl), (Nat.le_of_ble_eq_true rfl)⟩ ⟨(Nat.le_of_ble_eq_true rfl), (Nat.le_of_ble_eq_true rfl)⟩ d_Loops_reachFrom_41 (fun H locs hS => ?_)
        obtain ⟨h9, eh9, hM⟩ := bS hM
        refine r_callVv C hS cv_Loops_48 (c_Loops_add l base D cI cZ h l0 t8 eh9) (o_Loops_add eh9) (rest := []) rfl hl.1 rfl (Nat.le_of_ble_eq_true rfl) ⟨(Nat.le_of_ble_eq_true rfl), (Nat.le_of_ble_eq_true rfl)⟩ ⟨(Nat.le_of_ble_eq_true rfl), (Nat.le_of_ble_eq_true rfl)⟩ d_Loops_reachFrom_44 (fun H locs hS => ?_)
        refine lv_aload_n hx hb d_Loops_reachFrom_47 rfl (lv_at hl 0 rfl) ?_
        refine lv_aload_n hx hb d_Loops_reachFrom_48 rfl (lv_at hl 2 rfl) ?_
        refine lv_aload_n hx hb d_Loops_reachFrom_49 rfl (lv_at hl 0 rfl) ?_
        obtain ⟨t10, et10, hM⟩ := bS hM
        refine r_getR C hS fl_Loops_9 et10 d_Loops_reachFrom_50 ?_
        refine lv_iload hx hb d_Loops_reachFrom_53 (lv_at hl 3 rfl) ?_
        obtain ⟨t11, et11, hM⟩ := bS hM
        refine r_iald C hS et11 d_Loops_reachFrom_55 ?_
        obtain ⟨t12, et12, hM⟩ := bS hM
        refine r_callVi (x := t12) C hS cv_Loops_52 (c_Moves_targetOf l base D cI cZ h9 l3 t11 et12) (o_Moves_targetOf et12) (rest := [.ref (base + l0)]) rfl hl.1 rfl (Nat.le_of_ble_eq_true rfl) ⟨(Nat.le_of_ble_eq_true rfl), (Nat.le_of_ble_eq_true rfl)⟩ ⟨(Nat.le_of_ble_eq_true rfl), (Nat.le_of_ble_eq_true rfl)⟩ d_Loops_reachFrom_56 (fun H locs hS => ?_)
        obtain ⟨h13, eh13, hM⟩ := bS hM
        refine r_callVv C hS cv_Loops_48 (c_Loops_add l base D cI cZ h9 l0 t12 eh13) (o_Loops_add eh13) (rest := []) rfl hl.1 rfl (Nat.le_of_ble_eq_true rfl) ⟨(Nat.le_of_ble_eq_true rfl), (Nat.le_of_ble_eq_true rfl)⟩ ⟨(Nat.le_of_ble_eq_true rfl), (Nat.le_of_ble_eq_true rfl)⟩ d_Loops_reachFrom_59 (fun H locs hS => ?_)
        refine lv_iinc (v := (l4 + (1 : Int32))) (lv' := [(4, .int (l4 + (1 : Int32))), (0, .ref (base + l0)), (2, .ref (base + l2)), (3, .ref (base + l3))]) hx hb d_Loops_reachFrom_62 hl (k := 3) rfl (by rw [oi_1]) (by decide) rfl (fun ls hl => ?_)
        refine lv_goto (tgt := 13) hx hb d_Loops_reachFrom_65 (by decide) ?_
        exact ih (l4 + (1 : Int32)) h13 hM _ _ _ hS (lv_sub hl [1, 2, 3, 0] rfl)
def f_Loops_reachFrom (h : Hp) (l0 : Nat) (l1 : Int32) (l2 : Nat) (l3 : Nat) : Option Hp :=
  ck h 1 l0 (
    (sI h 1 l0 1 (0 : Int32)).bind fun h1 =>
    (f_Loops_add h1 l0 l1).bind fun h2 =>
    f_Loops_reachFrom_13 l0 l2 l3 FU (0 : Int32) h2
  )
theorem o_Loops_reachFrom {h : Hp} {l0 : Nat} {l1 : Int32} {l2 : Nat} {l3 : Nat} {r : Hp} (hM : f_Loops_reachFrom h l0 l1 l2 l3 = some r) : isO h 1 l0 = true := by
  unfold f_Loops_reachFrom at hM
  exact (ck_some hM).1
set_option maxHeartbeats 4000000 in
set_option maxRecDepth 100000 in
theorem t_Loops_reachFrom {h : Hp} {l0 : Nat} {l1 : Int32} {l2 : Nat} {l3 : Nat} {r : Hp} (C : Cx base D cI cZ b_Loops_reachFrom 5 "MovedFolders$Loops" "reachFrom" none p s m args meth c) (hM : f_Loops_reachFrom h l0 l1 l2 l3 = some r) (H : Heap) (locs : List Loc) (ls : Array Slot) (hS : RS base D cI cZ s H locs h) (hl : lv_has ls 5 [(0, .ref (base + l0)), (1, .int l1), (2, .ref (base + l2)), (3, .ref (base + l3))]) : Wg l base D cI cZ 2 43 0 0 r none p e s m args below meth c H locs 0 0 (F0 m 0 ls []) := by
  have hx := C.1
  have hb := C.2.1
  unfold f_Loops_reachFrom at hM
  replace hM := (ck_some hM).2
  refine lv_aload_n hx hb d_Loops_reachFrom_0 rfl (lv_at hl 0 rfl) ?_
  refine lv_iconst (v := (0 : Int32)) hx hb d_Loops_reachFrom_1 (by decide) ?_
  obtain ⟨h1, eh1, hM⟩ := bS hM
  refine r_putI C hS fp_Loops_15 eh1 d_Loops_reachFrom_2 (fun H locs hS => ?_)
  refine lv_aload_n hx hb d_Loops_reachFrom_5 rfl (lv_at hl 0 rfl) ?_
  refine lv_iload_n hx hb d_Loops_reachFrom_6 rfl (lv_at hl 1 rfl) ?_
  obtain ⟨h2, eh2, hM⟩ := bS hM
  refine r_callVv C hS cv_Loops_48 (c_Loops_add l base D cI cZ h1 l0 l1 eh2) (o_Loops_add eh2) (rest := []) rfl hl.1 rfl (Nat.le_of_ble_eq_true rfl) ⟨(Nat.le_of_ble_eq_true rfl), (Nat.le_of_ble_eq_true rfl)⟩ ⟨(Nat.le_of_ble_eq_true rfl), (Nat.le_of_ble_eq_true rfl)⟩ d_Loops_reachFrom_7 (fun H locs hS => ?_)
  refine lv_iconst (v := (0 : Int32)) hx hb d_Loops_reachFrom_10 (by decide) ?_
  refine lv_istore (lv' := [(4, .int (0 : Int32)), (0, .ref (base + l0)), (1, .int l1), (2, .ref (base + l2)), (3, .ref (base + l3))]) hx hb d_Loops_reachFrom_11 hl (by decide) rfl (fun ls hl => ?_)
  exact t_Loops_reachFrom_13  C  FU (0 : Int32) h2 hM _ _ _ hS (lv_sub hl [1, 3, 4, 0] rfl)
theorem c_Loops_reachFrom (l : Launch) (base : Nat) (D : va_G) (cI cZ : ClassId) (h : Hp) (l0 : Nat) (l1 : Int32) (l2 : Nat) (l3 : Nat) {r : Hp} (hM : f_Loops_reachFrom h l0 l1 l2 l3 = some r) : Ct l base D cI cZ y_Loops_reachFrom b_Loops_reachFrom 5 none 2 43 0 0 h [.ref (base + l0), .int l1, .ref (base + l2), .ref (base + l3)] r none :=
  ct_of (by decide) (Nat.le_of_ble_eq_true rfl) (fun p e s m below meth c ls C hS hl => t_Loops_reachFrom C hM _ _ _ hS hl)
theorem d_Moves_startAt_0 : decode b_Moves_startAt 0 = .ok (.iload_n 1, 1) := by decide +kernel
theorem d_Moves_startAt_1 : decode b_Moves_startAt 1 = .ok (.ifCond .lt 20, 3) := by decide +kernel
theorem d_Moves_startAt_4 : decode b_Moves_startAt 4 = .ok (.iload_n 1, 1) := by decide +kernel
theorem d_Moves_startAt_5 : decode b_Moves_startAt 5 = .ok (.aload_n 0, 1) := by decide +kernel
theorem d_Moves_startAt_6 : decode b_Moves_startAt 6 = .ok (.getfield 22, 3) := by decide +kernel
theorem d_Moves_startAt_9 : decode b_Moves_startAt 9 = .ok (.if_icmp .ge 12, 3) := by decide +kernel
theorem d_Moves_startAt_12 : decode b_Moves_startAt 12 = .ok (.aload_n 0, 1) := by decide +kernel
theorem d_Moves_startAt_13 : decode b_Moves_startAt 13 = .ok (.getfield 9, 3) := by decide +kernel
theorem d_Moves_startAt_16 : decode b_Moves_startAt 16 = .ok (.iload_n 1, 1) := by decide +kernel
theorem d_Moves_startAt_17 : decode b_Moves_startAt 17 = .ok (.iaload, 1) := by decide +kernel
theorem d_Moves_startAt_18 : decode b_Moves_startAt 18 = .ok (.goto 5, 3) := by decide +kernel
theorem d_Moves_startAt_21 : decode b_Moves_startAt 21 = .ok (.bipush (-6), 2) := by decide +kernel
theorem d_Moves_startAt_23 : decode b_Moves_startAt 23 = .ok (.ireturn, 1) := by decide +kernel
def f_Moves_startAt (h : Hp) (l0 : Nat) (l1 : Int32) : Option Int32 :=
  ck h 3 l0 (
    (
      if l1 < (0 : Int32) then (
        some (-6 : Int32)
      ) else (
        (gI h 3 l0 3).bind fun t2 =>
        if t2 ≤ l1 then (
          some (-6 : Int32)
        ) else (
          (gR h 3 l0 0).bind fun t3 =>
          (gA h false t3 l1).bind fun t4 =>
          some t4
        )
      )
    ).bind fun t1 =>
    some t1
  )
theorem o_Moves_startAt {h : Hp} {l0 : Nat} {l1 : Int32} {r : Int32} (hM : f_Moves_startAt h l0 l1 = some r) : isO h 3 l0 = true := by
  unfold f_Moves_startAt at hM
  exact (ck_some hM).1
set_option maxHeartbeats 4000000 in
set_option maxRecDepth 100000 in
theorem t_Moves_startAt {h : Hp} {l0 : Nat} {l1 : Int32} {r : Int32} (C : Cx base D cI cZ b_Moves_startAt 2 "MovedFolders$Moves" "startAt" (some .int) p s m args meth c) (hM : f_Moves_startAt h l0 l1 = some r) (H : Heap) (locs : List Loc) (ls : Array Slot) (hS : RS base D cI cZ s H locs h) (hl : lv_has ls 2 [(0, .ref (base + l0)), (1, .int l1)]) : Wg l base D cI cZ 0 0 0 0 h (some (.int r)) p e s m args below meth c H locs 0 0 (F0 m 0 ls []) := by
  have hx := C.1
  have hb := C.2.1
  unfold f_Moves_startAt at hM
  replace hM := (ck_some hM).2
  refine lv_iload_n hx hb d_Moves_startAt_0 rfl (lv_at hl 1 rfl) ?_
  obtain ⟨t1, et1, hM⟩ := bS hM
  have kJ23_1 : ∀ (H : Heap) (locs : List Loc) (ls : Array Slot), RS base D cI cZ s H locs h → lv_has ls 2 [] → Wg l base D cI cZ 0 0 0 0 h (some (.int r)) p e s m args below meth c H locs 0 0 (F0 m 23 ls [.int t1]) := by
    intro H locs ls hS hl
    obtain rfl := Option.some.inj hM
    exact r_iret C hS d_Moves_startAt_23
  refine lv_if_lt (tgt := 21) hx hb d_Moves_startAt_1 (by decide) (fun c1_2 => ?_) (fun c1_2 => ?_)
  · rw [if_pos c1_2] at et1
    refine lv_bipush (v := (-6 : Int32)) hx hb d_Moves_startAt_21 (by decide) ?_
    obtain rfl := Option.some.inj et1
    exact kJ23_1 _ _ _ hS (lv_sub hl [] rfl)
  · rw [if_neg c1_2] at et1
    refine lv_iload_n hx hb d_Moves_startAt_4 rfl (lv_at hl 1 rfl) ?_
    refine lv_aload_n hx hb d_Moves_startAt_5 rfl (lv_at hl 0 rfl) ?_
    obtain ⟨t2, et2, et1⟩ := bS et1
    refine r_getI C hS fl_Moves_22 et2 d_Moves_startAt_6 ?_
    refine lv_icmp_ge (tgt := 21) hx hb d_Moves_startAt_9 (by decide) (fun c9_3 => ?_) (fun c9_3 => ?_)
    · rw [if_pos c9_3] at et1
      refine lv_bipush (v := (-6 : Int32)) hx hb d_Moves_startAt_21 (by decide) ?_
      obtain rfl := Option.some.inj et1
      exact kJ23_1 _ _ _ hS (lv_sub hl [] rfl)
    · rw [if_neg c9_3] at et1
      refine lv_aload_n hx hb d_Moves_startAt_12 rfl (lv_at hl 0 rfl) ?_
      obtain ⟨t3, et3, et1⟩ := bS et1
      refine r_getR C hS fl_Moves_9 et3 d_Moves_startAt_13 ?_
      refine lv_iload_n hx hb d_Moves_startAt_16 rfl (lv_at hl 1 rfl) ?_
      obtain ⟨t4, et4, et1⟩ := bS et1
      refine r_iald C hS et4 d_Moves_startAt_17 ?_
      refine lv_goto (tgt := 23) hx hb d_Moves_startAt_18 (by decide) ?_
      obtain rfl := Option.some.inj et1
      exact kJ23_1 _ _ _ hS (lv_sub hl [] rfl)
theorem c_Moves_startAt (l : Launch) (base : Nat) (D : va_G) (cI cZ : ClassId) (h : Hp) (l0 : Nat) (l1 : Int32) {r : Int32} (hM : f_Moves_startAt h l0 l1 = some r) : Ct l base D cI cZ y_Moves_startAt b_Moves_startAt 2 (some .int) 0 0 0 0 h [.ref (base + l0), .int l1] h (some (.int r)) :=
  ct_of (by decide) (Nat.le_of_ble_eq_true rfl) (fun p e s m below meth c ls C hS hl => t_Moves_startAt C hM _ _ _ hS hl)
theorem d_Moves_markRound_0 : decode b_Moves_markRound 0 = .ok (.iload_n 1, 1) := by decide +kernel
theorem d_Moves_markRound_1 : decode b_Moves_markRound 1 = .ok (.ifCond .lt 18, 3) := by decide +kernel
theorem d_Moves_markRound_4 : decode b_Moves_markRound 4 = .ok (.iload_n 1, 1) := by decide +kernel
theorem d_Moves_markRound_5 : decode b_Moves_markRound 5 = .ok (.aload_n 0, 1) := by decide +kernel
theorem d_Moves_markRound_6 : decode b_Moves_markRound 6 = .ok (.getfield 22, 3) := by decide +kernel
theorem d_Moves_markRound_9 : decode b_Moves_markRound 9 = .ok (.if_icmp .ge 10, 3) := by decide +kernel
theorem d_Moves_markRound_12 : decode b_Moves_markRound 12 = .ok (.aload_n 0, 1) := by decide +kernel
theorem d_Moves_markRound_13 : decode b_Moves_markRound 13 = .ok (.getfield 18, 3) := by decide +kernel
theorem d_Moves_markRound_16 : decode b_Moves_markRound 16 = .ok (.iload_n 1, 1) := by decide +kernel
theorem d_Moves_markRound_17 : decode b_Moves_markRound 17 = .ok (.iload_n 2, 1) := by decide +kernel
theorem d_Moves_markRound_18 : decode b_Moves_markRound 18 = .ok (.bastore, 1) := by decide +kernel
theorem d_Moves_markRound_19 : decode b_Moves_markRound 19 = .ok (.return_, 1) := by decide +kernel
def f_Moves_markRound (h : Hp) (l0 : Nat) (l1 : Int32) (l2 : Int32) : Option Hp :=
  ck h 3 l0 (
    (
      if l1 < (0 : Int32) then (
        some h
      ) else (
        (gI h 3 l0 3).bind fun t2 =>
        if t2 ≤ l1 then (
          some h
        ) else (
          (gR h 3 l0 2).bind fun t3 =>
          (sZ h t3 l1 l2).bind fun h4 =>
          some h4
        )
      )
    ).bind fun h1 =>
    some h1
  )
theorem o_Moves_markRound {h : Hp} {l0 : Nat} {l1 : Int32} {l2 : Int32} {r : Hp} (hM : f_Moves_markRound h l0 l1 l2 = some r) : isO h 3 l0 = true := by
  unfold f_Moves_markRound at hM
  exact (ck_some hM).1
set_option maxHeartbeats 4000000 in
set_option maxRecDepth 100000 in
theorem t_Moves_markRound {h : Hp} {l0 : Nat} {l1 : Int32} {l2 : Int32} {r : Hp} (C : Cx base D cI cZ b_Moves_markRound 3 "MovedFolders$Moves" "markRound" none p s m args meth c) (hM : f_Moves_markRound h l0 l1 l2 = some r) (H : Heap) (locs : List Loc) (ls : Array Slot) (hS : RS base D cI cZ s H locs h) (hl : lv_has ls 3 [(0, .ref (base + l0)), (1, .int l1), (2, .int l2)]) : Wg l base D cI cZ 0 0 0 0 r none p e s m args below meth c H locs 0 0 (F0 m 0 ls []) := by
  have hx := C.1
  have hb := C.2.1
  unfold f_Moves_markRound at hM
  replace hM := (ck_some hM).2
  refine lv_iload_n hx hb d_Moves_markRound_0 rfl (lv_at hl 1 rfl) ?_
  obtain ⟨h1, eh1, hM⟩ := bS hM
  have kJ19_1 : ∀ (H : Heap) (locs : List Loc) (ls : Array Slot), RS base D cI cZ s H locs h1 → lv_has ls 3 [] → Wg l base D cI cZ 0 0 0 0 r none p e s m args below meth c H locs 0 0 (F0 m 19 ls []) := by
    intro H locs ls hS hl
    obtain rfl := Option.some.inj hM
    exact r_vret C hS d_Moves_markRound_19
  refine lv_if_lt (tgt := 19) hx hb d_Moves_markRound_1 (by decide) (fun c1_2 => ?_) (fun c1_2 => ?_)
  · rw [if_pos c1_2] at eh1
    obtain rfl := Option.some.inj eh1
    exact kJ19_1 _ _ _ hS (lv_sub hl [] rfl)
  · rw [if_neg c1_2] at eh1
    refine lv_iload_n hx hb d_Moves_markRound_4 rfl (lv_at hl 1 rfl) ?_
    refine lv_aload_n hx hb d_Moves_markRound_5 rfl (lv_at hl 0 rfl) ?_
    obtain ⟨t2, et2, eh1⟩ := bS eh1
    refine r_getI C hS fl_Moves_22 et2 d_Moves_markRound_6 ?_
    refine lv_icmp_ge (tgt := 19) hx hb d_Moves_markRound_9 (by decide) (fun c9_3 => ?_) (fun c9_3 => ?_)
    · rw [if_pos c9_3] at eh1
      obtain rfl := Option.some.inj eh1
      exact kJ19_1 _ _ _ hS (lv_sub hl [] rfl)
    · rw [if_neg c9_3] at eh1
      refine lv_aload_n hx hb d_Moves_markRound_12 rfl (lv_at hl 0 rfl) ?_
      obtain ⟨t3, et3, eh1⟩ := bS eh1
      refine r_getR C hS fl_Moves_18 et3 d_Moves_markRound_13 ?_
      refine lv_iload_n hx hb d_Moves_markRound_16 rfl (lv_at hl 1 rfl) ?_
      refine lv_iload_n hx hb d_Moves_markRound_17 rfl (lv_at hl 2 rfl) ?_
      obtain ⟨h4, eh4, eh1⟩ := bS eh1
      refine r_zast C hS eh4 d_Moves_markRound_18 (fun H locs hS => ?_)
      obtain rfl := Option.some.inj eh1
      exact kJ19_1 _ _ _ hS (lv_sub hl [] rfl)
theorem c_Moves_markRound (l : Launch) (base : Nat) (D : va_G) (cI cZ : ClassId) (h : Hp) (l0 : Nat) (l1 : Int32) (l2 : Int32) {r : Hp} (hM : f_Moves_markRound h l0 l1 l2 = some r) : Ct l base D cI cZ y_Moves_markRound b_Moves_markRound 3 none 0 0 0 0 h [.ref (base + l0), .int l1, .int l2] r none :=
  ct_of (by decide) (Nat.le_of_ble_eq_true rfl) (fun p e s m below meth c ls C hS hl => t_Moves_markRound C hM _ _ _ hS hl)
theorem d_Loops_markThose_0 : decode b_Loops_markThose 0 = .ok (.iconst 0, 1) := by decide +kernel
theorem d_Loops_markThose_1 : decode b_Loops_markThose 1 = .ok (.istore 4, 2) := by decide +kernel
theorem d_Loops_markThose_3 : decode b_Loops_markThose 3 = .ok (.iload 4, 2) := by decide +kernel
theorem d_Loops_markThose_5 : decode b_Loops_markThose 5 = .ok (.aload_n 1, 1) := by decide +kernel
theorem d_Loops_markThose_6 : decode b_Loops_markThose 6 = .ok (.invokevirtual 23, 3) := by decide +kernel
theorem d_Loops_markThose_9 : decode b_Loops_markThose 9 = .ok (.if_icmp .ge 37, 3) := by decide +kernel
theorem d_Loops_markThose_12 : decode b_Loops_markThose 12 = .ok (.aload_n 0, 1) := by decide +kernel
theorem d_Loops_markThose_13 : decode b_Loops_markThose 13 = .ok (.aload_n 1, 1) := by decide +kernel
theorem d_Loops_markThose_14 : decode b_Loops_markThose 14 = .ok (.iload 4, 2) := by decide +kernel
theorem d_Loops_markThose_16 : decode b_Loops_markThose 16 = .ok (.invokevirtual 29, 3) := by decide +kernel
theorem d_Loops_markThose_19 : decode b_Loops_markThose 19 = .ok (.aload_n 2, 1) := by decide +kernel
theorem d_Loops_markThose_20 : decode b_Loops_markThose 20 = .ok (.aload_n 3, 1) := by decide +kernel
theorem d_Loops_markThose_21 : decode b_Loops_markThose 21 = .ok (.invokevirtual 33, 3) := by decide +kernel
theorem d_Loops_markThose_24 : decode b_Loops_markThose 24 = .ok (.aload_n 1, 1) := by decide +kernel
theorem d_Loops_markThose_25 : decode b_Loops_markThose 25 = .ok (.iload 4, 2) := by decide +kernel
theorem d_Loops_markThose_27 : decode b_Loops_markThose 27 = .ok (.aload_n 0, 1) := by decide +kernel
theorem d_Loops_markThose_28 : decode b_Loops_markThose 28 = .ok (.aload_n 1, 1) := by decide +kernel
theorem d_Loops_markThose_29 : decode b_Loops_markThose 29 = .ok (.iload 4, 2) := by decide +kernel
theorem d_Loops_markThose_31 : decode b_Loops_markThose 31 = .ok (.invokevirtual 37, 3) := by decide +kernel
theorem d_Loops_markThose_34 : decode b_Loops_markThose 34 = .ok (.invokevirtual 40, 3) := by decide +kernel
theorem d_Loops_markThose_37 : decode b_Loops_markThose 37 = .ok (.invokevirtual 44, 3) := by decide +kernel
theorem d_Loops_markThose_40 : decode b_Loops_markThose 40 = .ok (.iinc 4 1, 3) := by decide +kernel
theorem d_Loops_markThose_43 : decode b_Loops_markThose 43 = .ok (.goto (-40), 3) := by decide +kernel
theorem d_Loops_markThose_46 : decode b_Loops_markThose 46 = .ok (.return_, 1) := by decide +kernel
def f_Loops_markThose_3 (l0 : Nat) (l1 : Nat) (l2 : Nat) (l3 : Nat) : Nat → Int32 → Hp → Option Hp
  | 0, _, _ => none
  | n + 1, l4, h =>
    (f_Moves_size h l1).bind fun t1 =>
    if t1 ≤ l4 then (
      some h
    ) else (
      (f_Moves_targetAt h l1 l4).bind fun t2 =>
      (f_Loops_reachFrom h l0 t2 l2 l3).bind fun h3 =>
      (f_Moves_startAt h3 l1 l4).bind fun t4 =>
      (f_Loops_isReached h3 l0 t4).bind fun t5 =>
      (f_Moves_markRound h3 l1 l4 t5).bind fun h6 =>
      f_Loops_markThose_3 l0 l1 l2 l3 n (l4 + (1 : Int32)) h6
    )
set_option maxHeartbeats 4000000 in
set_option maxRecDepth 100000 in
theorem t_Loops_markThose_3 {l0 : Nat} {l1 : Nat} {l2 : Nat} {l3 : Nat} {r : Hp} (C : Cx base D cI cZ b_Loops_markThose 5 "MovedFolders$Loops" "markThose" none p s m args meth c)  : ∀ (n : Nat) (l4 : Int32) (h : Hp), f_Loops_markThose_3 l0 l1 l2 l3 n l4 h = some r → ∀ (H : Heap) (locs : List Loc) (ls : Array Slot), RS base D cI cZ s H locs h → lv_has ls 5 [(0, .ref (base + l0)), (1, .ref (base + l1)), (2, .ref (base + l2)), (3, .ref (base + l3)), (4, .int l4)] → Wg l base D cI cZ 3 67 0 0 r none p e s m args below meth c H locs 0 0 (F0 m 3 ls []) := by
  have hx := C.1
  have hb := C.2.1
  intro n
  induction n with
  | zero =>
    intro l4 h hM
    rw [f_Loops_markThose_3] at hM
    cases hM
  | succ n ih =>
    intro l4 h hM H locs ls hS hl
    rw [f_Loops_markThose_3] at hM
    refine lv_iload hx hb d_Loops_markThose_3 (lv_at hl 4 rfl) ?_
    refine lv_aload_n hx hb d_Loops_markThose_5 rfl (lv_at hl 1 rfl) ?_
    obtain ⟨t1, et1, hM⟩ := bS hM
    refine r_callVi (x := t1) C hS cv_Loops_23 (c_Moves_size l base D cI cZ h l1 et1) (o_Moves_size et1) (rest := [.int l4]) rfl hl.1 rfl (Nat.le_of_ble_eq_true rfl) ⟨(Nat.le_of_ble_eq_true rfl), (Nat.le_of_ble_eq_true rfl)⟩ ⟨(Nat.le_of_ble_eq_true rfl), (Nat.le_of_ble_eq_true rfl)⟩ d_Loops_markThose_6 (fun H locs hS => ?_)
    refine lv_icmp_ge (tgt := 46) hx hb d_Loops_markThose_9 (by decide) (fun c9_1 => ?_) (fun c9_1 => ?_)
    · rw [if_pos c9_1] at hM
      obtain rfl := Option.some.inj hM
      exact r_vret C hS d_Loops_markThose_46
    · rw [if_neg c9_1] at hM
      refine lv_aload_n hx hb d_Loops_markThose_12 rfl (lv_at hl 0 rfl) ?_
      refine lv_aload_n hx hb d_Loops_markThose_13 rfl (lv_at hl 1 rfl) ?_
      refine lv_iload hx hb d_Loops_markThose_14 (lv_at hl 4 rfl) ?_
      obtain ⟨t2, et2, hM⟩ := bS hM
      refine r_callVi (x := t2) C hS cv_Loops_29 (c_Moves_targetAt l base D cI cZ h l1 l4 et2) (o_Moves_targetAt et2) (rest := [.ref (base + l0)]) rfl hl.1 rfl (Nat.le_of_ble_eq_true rfl) ⟨(Nat.le_of_ble_eq_true rfl), (Nat.le_of_ble_eq_true rfl)⟩ ⟨(Nat.le_of_ble_eq_true rfl), (Nat.le_of_ble_eq_true rfl)⟩ d_Loops_markThose_16 (fun H locs hS => ?_)
      refine lv_aload_n hx hb d_Loops_markThose_19 rfl (lv_at hl 2 rfl) ?_
      refine lv_aload_n hx hb d_Loops_markThose_20 rfl (lv_at hl 3 rfl) ?_
      obtain ⟨h3, eh3, hM⟩ := bS hM
      refine r_callVv C hS cv_Loops_33 (c_Loops_reachFrom l base D cI cZ h l0 t2 l2 l3 eh3) (o_Loops_reachFrom eh3) (rest := []) rfl hl.1 rfl (Nat.le_of_ble_eq_true rfl) ⟨(Nat.le_of_ble_eq_true rfl), (Nat.le_of_ble_eq_true rfl)⟩ ⟨(Nat.le_of_ble_eq_true rfl), (Nat.le_of_ble_eq_true rfl)⟩ d_Loops_markThose_21 (fun H locs hS => ?_)
      refine lv_aload_n hx hb d_Loops_markThose_24 rfl (lv_at hl 1 rfl) ?_
      refine lv_iload hx hb d_Loops_markThose_25 (lv_at hl 4 rfl) ?_
      refine lv_aload_n hx hb d_Loops_markThose_27 rfl (lv_at hl 0 rfl) ?_
      refine lv_aload_n hx hb d_Loops_markThose_28 rfl (lv_at hl 1 rfl) ?_
      refine lv_iload hx hb d_Loops_markThose_29 (lv_at hl 4 rfl) ?_
      obtain ⟨t4, et4, hM⟩ := bS hM
      refine r_callVi (x := t4) C hS cv_Loops_37 (c_Moves_startAt l base D cI cZ h3 l1 l4 et4) (o_Moves_startAt et4) (rest := [.ref (base + l0), .int l4, .ref (base + l1)]) rfl hl.1 rfl (Nat.le_of_ble_eq_true rfl) ⟨(Nat.le_of_ble_eq_true rfl), (Nat.le_of_ble_eq_true rfl)⟩ ⟨(Nat.le_of_ble_eq_true rfl), (Nat.le_of_ble_eq_true rfl)⟩ d_Loops_markThose_31 (fun H locs hS => ?_)
      obtain ⟨t5, et5, hM⟩ := bS hM
      refine r_callVi (x := t5) C hS cv_Loops_40 (c_Loops_isReached l base D cI cZ h3 l0 t4 et5) (o_Loops_isReached et5) (rest := [.int l4, .ref (base + l1)]) rfl hl.1 rfl (Nat.le_of_ble_eq_true rfl) ⟨(Nat.le_of_ble_eq_true rfl), (Nat.le_of_ble_eq_true rfl)⟩ ⟨(Nat.le_of_ble_eq_true rfl), (Nat.le_of_ble_eq_true rfl)⟩ d_Loops_markThose_34 (fun H locs hS => ?_)
      obtain ⟨h6, eh6, hM⟩ := bS hM
      refine r_callVv C hS cv_Loops_44 (c_Moves_markRound l base D cI cZ h3 l1 l4 t5 eh6) (o_Moves_markRound eh6) (rest := []) rfl hl.1 rfl (Nat.le_of_ble_eq_true rfl) ⟨(Nat.le_of_ble_eq_true rfl), (Nat.le_of_ble_eq_true rfl)⟩ ⟨(Nat.le_of_ble_eq_true rfl), (Nat.le_of_ble_eq_true rfl)⟩ d_Loops_markThose_37 (fun H locs hS => ?_)
      refine lv_iinc (v := (l4 + (1 : Int32))) (lv' := [(4, .int (l4 + (1 : Int32))), (0, .ref (base + l0)), (1, .ref (base + l1)), (2, .ref (base + l2)), (3, .ref (base + l3))]) hx hb d_Loops_markThose_40 hl (k := 4) rfl (by rw [oi_1]) (by decide) rfl (fun ls hl => ?_)
      refine lv_goto (tgt := 3) hx hb d_Loops_markThose_43 (by decide) ?_
      exact ih (l4 + (1 : Int32)) h6 hM _ _ _ hS (lv_sub hl [1, 2, 3, 4, 0] rfl)
def f_Loops_markThose (h : Hp) (l0 : Nat) (l1 : Nat) (l2 : Nat) (l3 : Nat) : Option Hp :=
  ck h 1 l0 (
    f_Loops_markThose_3 l0 l1 l2 l3 FU (0 : Int32) h
  )
theorem o_Loops_markThose {h : Hp} {l0 : Nat} {l1 : Nat} {l2 : Nat} {l3 : Nat} {r : Hp} (hM : f_Loops_markThose h l0 l1 l2 l3 = some r) : isO h 1 l0 = true := by
  unfold f_Loops_markThose at hM
  exact (ck_some hM).1
set_option maxHeartbeats 4000000 in
set_option maxRecDepth 100000 in
theorem t_Loops_markThose {h : Hp} {l0 : Nat} {l1 : Nat} {l2 : Nat} {l3 : Nat} {r : Hp} (C : Cx base D cI cZ b_Loops_markThose 5 "MovedFolders$Loops" "markThose" none p s m args meth c) (hM : f_Loops_markThose h l0 l1 l2 l3 = some r) (H : Heap) (locs : List Loc) (ls : Array Slot) (hS : RS base D cI cZ s H locs h) (hl : lv_has ls 5 [(0, .ref (base + l0)), (1, .ref (base + l1)), (2, .ref (base + l2)), (3, .ref (base + l3))]) : Wg l base D cI cZ 3 67 0 0 r none p e s m args below meth c H locs 0 0 (F0 m 0 ls []) := by
  have hx := C.1
  have hb := C.2.1
  unfold f_Loops_markThose at hM
  replace hM := (ck_some hM).2
  refine lv_iconst (v := (0 : Int32)) hx hb d_Loops_markThose_0 (by decide) ?_
  refine lv_istore (lv' := [(4, .int (0 : Int32)), (0, .ref (base + l0)), (1, .ref (base + l1)), (2, .ref (base + l2)), (3, .ref (base + l3))]) hx hb d_Loops_markThose_1 hl (by decide) rfl (fun ls hl => ?_)
  exact t_Loops_markThose_3  C  FU (0 : Int32) h hM _ _ _ hS (lv_sub hl [1, 2, 3, 4, 0] rfl)
theorem c_Loops_markThose (l : Launch) (base : Nat) (D : va_G) (cI cZ : ClassId) (h : Hp) (l0 : Nat) (l1 : Nat) (l2 : Nat) (l3 : Nat) {r : Hp} (hM : f_Loops_markThose h l0 l1 l2 l3 = some r) : Ct l base D cI cZ y_Loops_markThose b_Loops_markThose 5 none 3 67 0 0 h [.ref (base + l0), .ref (base + l1), .ref (base + l2), .ref (base + l3)] r none :=
  ct_of (by decide) (Nat.le_of_ble_eq_true rfl) (fun p e s m below meth c ls C hS hl => t_Loops_markThose C hM _ _ _ hS hl)
theorem d_Loops_mark_0 : decode b_Loops_mark 0 = .ok (.aload_n 0, 1) := by decide +kernel
theorem d_Loops_mark_1 : decode b_Loops_mark 1 = .ok (.aload_n 1, 1) := by decide +kernel
theorem d_Loops_mark_2 : decode b_Loops_mark 2 = .ok (.aload_n 1, 1) := by decide +kernel
theorem d_Loops_mark_3 : decode b_Loops_mark 3 = .ok (.aload_n 2, 1) := by decide +kernel
theorem d_Loops_mark_4 : decode b_Loops_mark 4 = .ok (.invokevirtual 19, 3) := by decide +kernel
theorem d_Loops_mark_7 : decode b_Loops_mark 7 = .ok (.aload_n 0, 1) := by decide +kernel
theorem d_Loops_mark_8 : decode b_Loops_mark 8 = .ok (.aload_n 2, 1) := by decide +kernel
theorem d_Loops_mark_9 : decode b_Loops_mark 9 = .ok (.aload_n 1, 1) := by decide +kernel
theorem d_Loops_mark_10 : decode b_Loops_mark 10 = .ok (.aload_n 2, 1) := by decide +kernel
theorem d_Loops_mark_11 : decode b_Loops_mark 11 = .ok (.invokevirtual 19, 3) := by decide +kernel
theorem d_Loops_mark_14 : decode b_Loops_mark 14 = .ok (.return_, 1) := by decide +kernel
def f_Loops_mark (h : Hp) (l0 : Nat) (l1 : Nat) (l2 : Nat) : Option Hp :=
  ck h 1 l0 (
    (f_Loops_markThose h l0 l1 l1 l2).bind fun h1 =>
    (f_Loops_markThose h1 l0 l2 l1 l2).bind fun h2 =>
    some h2
  )
theorem o_Loops_mark {h : Hp} {l0 : Nat} {l1 : Nat} {l2 : Nat} {r : Hp} (hM : f_Loops_mark h l0 l1 l2 = some r) : isO h 1 l0 = true := by
  unfold f_Loops_mark at hM
  exact (ck_some hM).1
set_option maxHeartbeats 4000000 in
set_option maxRecDepth 100000 in
theorem t_Loops_mark {h : Hp} {l0 : Nat} {l1 : Nat} {l2 : Nat} {r : Hp} (C : Cx base D cI cZ b_Loops_mark 3 "MovedFolders$Loops" "mark" none p s m args meth c) (hM : f_Loops_mark h l0 l1 l2 = some r) (H : Heap) (locs : List Loc) (ls : Array Slot) (hS : RS base D cI cZ s H locs h) (hl : lv_has ls 3 [(0, .ref (base + l0)), (1, .ref (base + l1)), (2, .ref (base + l2))]) : Wg l base D cI cZ 4 91 0 0 r none p e s m args below meth c H locs 0 0 (F0 m 0 ls []) := by
  have hx := C.1
  have hb := C.2.1
  unfold f_Loops_mark at hM
  replace hM := (ck_some hM).2
  refine lv_aload_n hx hb d_Loops_mark_0 rfl (lv_at hl 0 rfl) ?_
  refine lv_aload_n hx hb d_Loops_mark_1 rfl (lv_at hl 1 rfl) ?_
  refine lv_aload_n hx hb d_Loops_mark_2 rfl (lv_at hl 1 rfl) ?_
  refine lv_aload_n hx hb d_Loops_mark_3 rfl (lv_at hl 2 rfl) ?_
  obtain ⟨h1, eh1, hM⟩ := bS hM
  refine r_callVv C hS cv_Loops_19 (c_Loops_markThose l base D cI cZ h l0 l1 l1 l2 eh1) (o_Loops_markThose eh1) (rest := []) rfl hl.1 rfl (Nat.le_of_ble_eq_true rfl) ⟨(Nat.le_of_ble_eq_true rfl), (Nat.le_of_ble_eq_true rfl)⟩ ⟨(Nat.le_of_ble_eq_true rfl), (Nat.le_of_ble_eq_true rfl)⟩ d_Loops_mark_4 (fun H locs hS => ?_)
  refine lv_aload_n hx hb d_Loops_mark_7 rfl (lv_at hl 0 rfl) ?_
  refine lv_aload_n hx hb d_Loops_mark_8 rfl (lv_at hl 2 rfl) ?_
  refine lv_aload_n hx hb d_Loops_mark_9 rfl (lv_at hl 1 rfl) ?_
  refine lv_aload_n hx hb d_Loops_mark_10 rfl (lv_at hl 2 rfl) ?_
  obtain ⟨h2, eh2, hM⟩ := bS hM
  refine r_callVv C hS cv_Loops_19 (c_Loops_markThose l base D cI cZ h1 l0 l2 l1 l2 eh2) (o_Loops_markThose eh2) (rest := []) rfl hl.1 rfl (Nat.le_of_ble_eq_true rfl) ⟨(Nat.le_of_ble_eq_true rfl), (Nat.le_of_ble_eq_true rfl)⟩ ⟨(Nat.le_of_ble_eq_true rfl), (Nat.le_of_ble_eq_true rfl)⟩ d_Loops_mark_11 (fun H locs hS => ?_)
  obtain rfl := Option.some.inj hM
  exact r_vret C hS d_Loops_mark_14
theorem c_Loops_mark (l : Launch) (base : Nat) (D : va_G) (cI cZ : ClassId) (h : Hp) (l0 : Nat) (l1 : Nat) (l2 : Nat) {r : Hp} (hM : f_Loops_mark h l0 l1 l2 = some r) : Ct l base D cI cZ y_Loops_mark b_Loops_mark 3 none 4 91 0 0 h [.ref (base + l0), .ref (base + l1), .ref (base + l2)] r none :=
  ct_of (by decide) (Nat.le_of_ble_eq_true rfl) (fun p e s m below meth c ls C hS hl => t_Loops_mark C hM _ _ _ hS hl)
theorem d_Merge_init_0 : decode b_Merge_init 0 = .ok (.aload_n 0, 1) := by decide +kernel
theorem d_Merge_init_1 : decode b_Merge_init 1 = .ok (.invokespecial 3, 3) := by decide +kernel
theorem d_Merge_init_4 : decode b_Merge_init 4 = .ok (.aload_n 0, 1) := by decide +kernel
theorem d_Merge_init_5 : decode b_Merge_init 5 = .ok (.bipush 36, 2) := by decide +kernel
theorem d_Merge_init_7 : decode b_Merge_init 7 = .ok (.newarray .int, 2) := by decide +kernel
theorem d_Merge_init_9 : decode b_Merge_init 9 = .ok (.putfield 9, 3) := by decide +kernel
theorem d_Merge_init_12 : decode b_Merge_init 12 = .ok (.aload_n 0, 1) := by decide +kernel
theorem d_Merge_init_13 : decode b_Merge_init 13 = .ok (.bipush 36, 2) := by decide +kernel
theorem d_Merge_init_15 : decode b_Merge_init 15 = .ok (.newarray .int, 2) := by decide +kernel
theorem d_Merge_init_17 : decode b_Merge_init 17 = .ok (.putfield 15, 3) := by decide +kernel
theorem d_Merge_init_20 : decode b_Merge_init 20 = .ok (.aload_n 0, 1) := by decide +kernel
theorem d_Merge_init_21 : decode b_Merge_init 21 = .ok (.bipush 36, 2) := by decide +kernel
theorem d_Merge_init_23 : decode b_Merge_init 23 = .ok (.newarray .int, 2) := by decide +kernel
theorem d_Merge_init_25 : decode b_Merge_init 25 = .ok (.putfield 18, 3) := by decide +kernel
theorem d_Merge_init_28 : decode b_Merge_init 28 = .ok (.aload_n 0, 1) := by decide +kernel
theorem d_Merge_init_29 : decode b_Merge_init 29 = .ok (.bipush 36, 2) := by decide +kernel
theorem d_Merge_init_31 : decode b_Merge_init 31 = .ok (.newarray .int, 2) := by decide +kernel
theorem d_Merge_init_33 : decode b_Merge_init 33 = .ok (.putfield 21, 3) := by decide +kernel
theorem d_Merge_init_36 : decode b_Merge_init 36 = .ok (.aload_n 0, 1) := by decide +kernel
theorem d_Merge_init_37 : decode b_Merge_init 37 = .ok (.iconst 0, 1) := by decide +kernel
theorem d_Merge_init_38 : decode b_Merge_init 38 = .ok (.putfield 24, 3) := by decide +kernel
theorem d_Merge_init_41 : decode b_Merge_init 41 = .ok (.aload_n 0, 1) := by decide +kernel
theorem d_Merge_init_42 : decode b_Merge_init 42 = .ok (.bipush 36, 2) := by decide +kernel
theorem d_Merge_init_44 : decode b_Merge_init 44 = .ok (.newarray .int, 2) := by decide +kernel
theorem d_Merge_init_46 : decode b_Merge_init 46 = .ok (.putfield 28, 3) := by decide +kernel
theorem d_Merge_init_49 : decode b_Merge_init 49 = .ok (.aload_n 0, 1) := by decide +kernel
theorem d_Merge_init_50 : decode b_Merge_init 50 = .ok (.bipush 36, 2) := by decide +kernel
theorem d_Merge_init_52 : decode b_Merge_init 52 = .ok (.newarray .int, 2) := by decide +kernel
theorem d_Merge_init_54 : decode b_Merge_init 54 = .ok (.putfield 31, 3) := by decide +kernel
theorem d_Merge_init_57 : decode b_Merge_init 57 = .ok (.aload_n 0, 1) := by decide +kernel
theorem d_Merge_init_58 : decode b_Merge_init 58 = .ok (.iconst 0, 1) := by decide +kernel
theorem d_Merge_init_59 : decode b_Merge_init 59 = .ok (.putfield 34, 3) := by decide +kernel
theorem d_Merge_init_62 : decode b_Merge_init 62 = .ok (.aload_n 0, 1) := by decide +kernel
theorem d_Merge_init_63 : decode b_Merge_init 63 = .ok (.bipush 12, 2) := by decide +kernel
theorem d_Merge_init_65 : decode b_Merge_init 65 = .ok (.newarray .int, 2) := by decide +kernel
theorem d_Merge_init_67 : decode b_Merge_init 67 = .ok (.putfield 37, 3) := by decide +kernel
theorem d_Merge_init_70 : decode b_Merge_init 70 = .ok (.return_, 1) := by decide +kernel
def f_Merge_init (h : Hp) (l0 : Nat) : Option Hp :=
  ck h 2 l0 (
    (sR (h ++ [.inl (false, 36, fun _ => 0)]) 2 l0 0 h.length).bind fun h1 =>
    (sR (h1 ++ [.inl (false, 36, fun _ => 0)]) 2 l0 1 h1.length).bind fun h2 =>
    (sR (h2 ++ [.inl (false, 36, fun _ => 0)]) 2 l0 2 h2.length).bind fun h3 =>
    (sR (h3 ++ [.inl (false, 36, fun _ => 0)]) 2 l0 3 h3.length).bind fun h4 =>
    (sI h4 2 l0 4 (0 : Int32)).bind fun h5 =>
    (sR (h5 ++ [.inl (false, 36, fun _ => 0)]) 2 l0 5 h5.length).bind fun h6 =>
    (sR (h6 ++ [.inl (false, 36, fun _ => 0)]) 2 l0 6 h6.length).bind fun h7 =>
    (sI h7 2 l0 7 (0 : Int32)).bind fun h8 =>
    (sR (h8 ++ [.inl (false, 12, fun _ => 0)]) 2 l0 8 h8.length).bind fun h9 =>
    some h9
  )
theorem o_Merge_init {h : Hp} {l0 : Nat} {r : Hp} (hM : f_Merge_init h l0 = some r) : isO h 2 l0 = true := by
  unfold f_Merge_init at hM
  exact (ck_some hM).1
set_option maxHeartbeats 4000000 in
set_option maxRecDepth 100000 in
theorem t_Merge_init {h : Hp} {l0 : Nat} {r : Hp} (C : Cx base D cI cZ b_Merge_init 1 "MovedFolders$Merge" "<init>" none p s m args meth c) (hM : f_Merge_init h l0 = some r) (H : Heap) (locs : List Loc) (ls : Array Slot) (hS : RS base D cI cZ s H locs h) (hl : lv_has ls 1 [(0, .ref (base + l0))]) : Wg l base D cI cZ 1 12 7 228 r none p e s m args below meth c H locs 0 0 (F0 m 0 ls []) := by
  have hx := C.1
  have hb := C.2.1
  unfold f_Merge_init at hM
  replace hM := (ck_some hM).2
  refine lv_aload_n hx hb d_Merge_init_0 rfl (lv_at hl 0 rfl) ?_
  refine r_obj C oi_Merge_3 hl.1 rfl ⟨(Nat.le_of_ble_eq_true rfl), (Nat.le_of_ble_eq_true rfl)⟩ d_Merge_init_1 ?_
  refine lv_aload_n hx hb d_Merge_init_4 rfl (lv_at hl 0 rfl) ?_
  refine lv_bipush (v := (36 : Int32)) hx hb d_Merge_init_5 (by decide) ?_
  refine r_newI (N := 36) C hS ac_int (by decide) (by decide) (Nat.le_of_ble_eq_true rfl) (Nat.le_of_ble_eq_true rfl) (Nat.le_of_ble_eq_true rfl) d_Merge_init_7 (fun H hS => ?_)
  obtain ⟨h1, eh1, hM⟩ := bS hM
  refine r_putF C hS fp_Merge_9 (fun q hq => by cases hq; rfl) eh1 rfl rfl d_Merge_init_9 (fun H locs hS => ?_)
  refine lv_aload_n hx hb d_Merge_init_12 rfl (lv_at hl 0 rfl) ?_
  refine lv_bipush (v := (36 : Int32)) hx hb d_Merge_init_13 (by decide) ?_
  refine r_newI (N := 36) C hS ac_int (by decide) (by decide) (Nat.le_of_ble_eq_true rfl) (Nat.le_of_ble_eq_true rfl) (Nat.le_of_ble_eq_true rfl) d_Merge_init_15 (fun H hS => ?_)
  obtain ⟨h2, eh2, hM⟩ := bS hM
  refine r_putF C hS fp_Merge_15 (fun q hq => by cases hq; rfl) eh2 rfl rfl d_Merge_init_17 (fun H locs hS => ?_)
  refine lv_aload_n hx hb d_Merge_init_20 rfl (lv_at hl 0 rfl) ?_
  refine lv_bipush (v := (36 : Int32)) hx hb d_Merge_init_21 (by decide) ?_
  refine r_newI (N := 36) C hS ac_int (by decide) (by decide) (Nat.le_of_ble_eq_true rfl) (Nat.le_of_ble_eq_true rfl) (Nat.le_of_ble_eq_true rfl) d_Merge_init_23 (fun H hS => ?_)
  obtain ⟨h3, eh3, hM⟩ := bS hM
  refine r_putF C hS fp_Merge_18 (fun q hq => by cases hq; rfl) eh3 rfl rfl d_Merge_init_25 (fun H locs hS => ?_)
  refine lv_aload_n hx hb d_Merge_init_28 rfl (lv_at hl 0 rfl) ?_
  refine lv_bipush (v := (36 : Int32)) hx hb d_Merge_init_29 (by decide) ?_
  refine r_newI (N := 36) C hS ac_int (by decide) (by decide) (Nat.le_of_ble_eq_true rfl) (Nat.le_of_ble_eq_true rfl) (Nat.le_of_ble_eq_true rfl) d_Merge_init_31 (fun H hS => ?_)
  obtain ⟨h4, eh4, hM⟩ := bS hM
  refine r_putF C hS fp_Merge_21 (fun q hq => by cases hq; rfl) eh4 rfl rfl d_Merge_init_33 (fun H locs hS => ?_)
  refine lv_aload_n hx hb d_Merge_init_36 rfl (lv_at hl 0 rfl) ?_
  refine lv_iconst (v := (0 : Int32)) hx hb d_Merge_init_37 (by decide) ?_
  obtain ⟨h5, eh5, hM⟩ := bS hM
  refine r_putI C hS fp_Merge_24 eh5 d_Merge_init_38 (fun H locs hS => ?_)
  refine lv_aload_n hx hb d_Merge_init_41 rfl (lv_at hl 0 rfl) ?_
  refine lv_bipush (v := (36 : Int32)) hx hb d_Merge_init_42 (by decide) ?_
  refine r_newI (N := 36) C hS ac_int (by decide) (by decide) (Nat.le_of_ble_eq_true rfl) (Nat.le_of_ble_eq_true rfl) (Nat.le_of_ble_eq_true rfl) d_Merge_init_44 (fun H hS => ?_)
  obtain ⟨h6, eh6, hM⟩ := bS hM
  refine r_putF C hS fp_Merge_28 (fun q hq => by cases hq; rfl) eh6 rfl rfl d_Merge_init_46 (fun H locs hS => ?_)
  refine lv_aload_n hx hb d_Merge_init_49 rfl (lv_at hl 0 rfl) ?_
  refine lv_bipush (v := (36 : Int32)) hx hb d_Merge_init_50 (by decide) ?_
  refine r_newI (N := 36) C hS ac_int (by decide) (by decide) (Nat.le_of_ble_eq_true rfl) (Nat.le_of_ble_eq_true rfl) (Nat.le_of_ble_eq_true rfl) d_Merge_init_52 (fun H hS => ?_)
  obtain ⟨h7, eh7, hM⟩ := bS hM
  refine r_putF C hS fp_Merge_31 (fun q hq => by cases hq; rfl) eh7 rfl rfl d_Merge_init_54 (fun H locs hS => ?_)
  refine lv_aload_n hx hb d_Merge_init_57 rfl (lv_at hl 0 rfl) ?_
  refine lv_iconst (v := (0 : Int32)) hx hb d_Merge_init_58 (by decide) ?_
  obtain ⟨h8, eh8, hM⟩ := bS hM
  refine r_putI C hS fp_Merge_34 eh8 d_Merge_init_59 (fun H locs hS => ?_)
  refine lv_aload_n hx hb d_Merge_init_62 rfl (lv_at hl 0 rfl) ?_
  refine lv_bipush (v := (12 : Int32)) hx hb d_Merge_init_63 (by decide) ?_
  refine r_newI (N := 12) C hS ac_int (by decide) (by decide) (Nat.le_of_ble_eq_true rfl) (Nat.le_of_ble_eq_true rfl) (Nat.le_of_ble_eq_true rfl) d_Merge_init_65 (fun H hS => ?_)
  obtain ⟨h9, eh9, hM⟩ := bS hM
  refine r_putF C hS fp_Merge_37 (fun q hq => by cases hq; rfl) eh9 rfl rfl d_Merge_init_67 (fun H locs hS => ?_)
  obtain rfl := Option.some.inj hM
  exact r_vret C hS d_Merge_init_70
theorem c_Merge_init (l : Launch) (base : Nat) (D : va_G) (cI cZ : ClassId) (h : Hp) (l0 : Nat) {r : Hp} (hM : f_Merge_init h l0 = some r) : Ct l base D cI cZ y_Merge_init b_Merge_init 1 none 1 12 7 228 h [.ref (base + l0)] r none :=
  ct_of (by decide) (Nat.le_of_ble_eq_true rfl) (fun p e s m below meth c ls C hS hl => t_Merge_init C hM _ _ _ hS hl)
theorem d_Merge_size_0 : decode b_Merge_size 0 = .ok (.aload_n 0, 1) := by decide +kernel
theorem d_Merge_size_1 : decode b_Merge_size 1 = .ok (.getfield 24, 3) := by decide +kernel
theorem d_Merge_size_4 : decode b_Merge_size 4 = .ok (.ireturn, 1) := by decide +kernel
def f_Merge_size (h : Hp) (l0 : Nat) : Option Int32 :=
  ck h 2 l0 (
    (gI h 2 l0 4).bind fun t1 =>
    some t1
  )
theorem o_Merge_size {h : Hp} {l0 : Nat} {r : Int32} (hM : f_Merge_size h l0 = some r) : isO h 2 l0 = true := by
  unfold f_Merge_size at hM
  exact (ck_some hM).1
set_option maxHeartbeats 4000000 in
set_option maxRecDepth 100000 in
theorem t_Merge_size {h : Hp} {l0 : Nat} {r : Int32} (C : Cx base D cI cZ b_Merge_size 1 "MovedFolders$Merge" "size" (some .int) p s m args meth c) (hM : f_Merge_size h l0 = some r) (H : Heap) (locs : List Loc) (ls : Array Slot) (hS : RS base D cI cZ s H locs h) (hl : lv_has ls 1 [(0, .ref (base + l0))]) : Wg l base D cI cZ 0 0 0 0 h (some (.int r)) p e s m args below meth c H locs 0 0 (F0 m 0 ls []) := by
  have hx := C.1
  have hb := C.2.1
  unfold f_Merge_size at hM
  replace hM := (ck_some hM).2
  refine lv_aload_n hx hb d_Merge_size_0 rfl (lv_at hl 0 rfl) ?_
  obtain ⟨t1, et1, hM⟩ := bS hM
  refine r_getI C hS fl_Merge_24 et1 d_Merge_size_1 ?_
  obtain rfl := Option.some.inj hM
  exact r_iret C hS d_Merge_size_4
theorem c_Merge_size (l : Launch) (base : Nat) (D : va_G) (cI cZ : ClassId) (h : Hp) (l0 : Nat) {r : Int32} (hM : f_Merge_size h l0 = some r) : Ct l base D cI cZ y_Merge_size b_Merge_size 1 (some .int) 0 0 0 0 h [.ref (base + l0)] h (some (.int r)) :=
  ct_of (by decide) (Nat.le_of_ble_eq_true rfl) (fun p e s m below meth c ls C hS hl => t_Merge_size C hM _ _ _ hS hl)
theorem d_Merge_clashSize_0 : decode b_Merge_clashSize 0 = .ok (.aload_n 0, 1) := by decide +kernel
theorem d_Merge_clashSize_1 : decode b_Merge_clashSize 1 = .ok (.getfield 34, 3) := by decide +kernel
theorem d_Merge_clashSize_4 : decode b_Merge_clashSize 4 = .ok (.ireturn, 1) := by decide +kernel
def f_Merge_clashSize (h : Hp) (l0 : Nat) : Option Int32 :=
  ck h 2 l0 (
    (gI h 2 l0 7).bind fun t1 =>
    some t1
  )
theorem o_Merge_clashSize {h : Hp} {l0 : Nat} {r : Int32} (hM : f_Merge_clashSize h l0 = some r) : isO h 2 l0 = true := by
  unfold f_Merge_clashSize at hM
  exact (ck_some hM).1
set_option maxHeartbeats 4000000 in
set_option maxRecDepth 100000 in
theorem t_Merge_clashSize {h : Hp} {l0 : Nat} {r : Int32} (C : Cx base D cI cZ b_Merge_clashSize 1 "MovedFolders$Merge" "clashSize" (some .int) p s m args meth c) (hM : f_Merge_clashSize h l0 = some r) (H : Heap) (locs : List Loc) (ls : Array Slot) (hS : RS base D cI cZ s H locs h) (hl : lv_has ls 1 [(0, .ref (base + l0))]) : Wg l base D cI cZ 0 0 0 0 h (some (.int r)) p e s m args below meth c H locs 0 0 (F0 m 0 ls []) := by
  have hx := C.1
  have hb := C.2.1
  unfold f_Merge_clashSize at hM
  replace hM := (ck_some hM).2
  refine lv_aload_n hx hb d_Merge_clashSize_0 rfl (lv_at hl 0 rfl) ?_
  obtain ⟨t1, et1, hM⟩ := bS hM
  refine r_getI C hS fl_Merge_34 et1 d_Merge_clashSize_1 ?_
  obtain rfl := Option.some.inj hM
  exact r_iret C hS d_Merge_clashSize_4
theorem c_Merge_clashSize (l : Launch) (base : Nat) (D : va_G) (cI cZ : ClassId) (h : Hp) (l0 : Nat) {r : Int32} (hM : f_Merge_clashSize h l0 = some r) : Ct l base D cI cZ y_Merge_clashSize b_Merge_clashSize 1 (some .int) 0 0 0 0 h [.ref (base + l0)] h (some (.int r)) :=
  ct_of (by decide) (Nat.le_of_ble_eq_true rfl) (fun p e s m below meth c ls C hS hl => t_Merge_clashSize C hM _ _ _ hS hl)
theorem d_Merge_tell_0 : decode b_Merge_tell 0 = .ok (.iload_n 1, 1) := by decide +kernel
theorem d_Merge_tell_1 : decode b_Merge_tell 1 = .ok (.ifCond .lt 11, 3) := by decide +kernel
theorem d_Merge_tell_4 : decode b_Merge_tell 4 = .ok (.iload_n 1, 1) := by decide +kernel
theorem d_Merge_tell_5 : decode b_Merge_tell 5 = .ok (.aload_n 0, 1) := by decide +kernel
theorem d_Merge_tell_6 : decode b_Merge_tell 6 = .ok (.getfield 24, 3) := by decide +kernel
theorem d_Merge_tell_9 : decode b_Merge_tell 9 = .ok (.if_icmp .lt 6, 3) := by decide +kernel
theorem d_Merge_tell_12 : decode b_Merge_tell 12 = .ok (.bipush (-6), 2) := by decide +kernel
theorem d_Merge_tell_14 : decode b_Merge_tell 14 = .ok (.ireturn, 1) := by decide +kernel
theorem d_Merge_tell_15 : decode b_Merge_tell 15 = .ok (.iload_n 2, 1) := by decide +kernel
theorem d_Merge_tell_16 : decode b_Merge_tell 16 = .ok (.tableswitch 49 0 2 #[28, 35, 42], 28) := by decide +kernel
theorem d_Merge_tell_44 : decode b_Merge_tell 44 = .ok (.aload_n 0, 1) := by decide +kernel
theorem d_Merge_tell_45 : decode b_Merge_tell 45 = .ok (.getfield 9, 3) := by decide +kernel
theorem d_Merge_tell_48 : decode b_Merge_tell 48 = .ok (.iload_n 1, 1) := by decide +kernel
theorem d_Merge_tell_49 : decode b_Merge_tell 49 = .ok (.iaload, 1) := by decide +kernel
theorem d_Merge_tell_50 : decode b_Merge_tell 50 = .ok (.ireturn, 1) := by decide +kernel
theorem d_Merge_tell_51 : decode b_Merge_tell 51 = .ok (.aload_n 0, 1) := by decide +kernel
theorem d_Merge_tell_52 : decode b_Merge_tell 52 = .ok (.getfield 15, 3) := by decide +kernel
theorem d_Merge_tell_55 : decode b_Merge_tell 55 = .ok (.iload_n 1, 1) := by decide +kernel
theorem d_Merge_tell_56 : decode b_Merge_tell 56 = .ok (.iaload, 1) := by decide +kernel
theorem d_Merge_tell_57 : decode b_Merge_tell 57 = .ok (.ireturn, 1) := by decide +kernel
theorem d_Merge_tell_58 : decode b_Merge_tell 58 = .ok (.aload_n 0, 1) := by decide +kernel
theorem d_Merge_tell_59 : decode b_Merge_tell 59 = .ok (.getfield 18, 3) := by decide +kernel
theorem d_Merge_tell_62 : decode b_Merge_tell 62 = .ok (.iload_n 1, 1) := by decide +kernel
theorem d_Merge_tell_63 : decode b_Merge_tell 63 = .ok (.iaload, 1) := by decide +kernel
theorem d_Merge_tell_64 : decode b_Merge_tell 64 = .ok (.ireturn, 1) := by decide +kernel
theorem d_Merge_tell_65 : decode b_Merge_tell 65 = .ok (.aload_n 0, 1) := by decide +kernel
theorem d_Merge_tell_66 : decode b_Merge_tell 66 = .ok (.getfield 21, 3) := by decide +kernel
theorem d_Merge_tell_69 : decode b_Merge_tell 69 = .ok (.iload_n 1, 1) := by decide +kernel
theorem d_Merge_tell_70 : decode b_Merge_tell 70 = .ok (.iaload, 1) := by decide +kernel
theorem d_Merge_tell_71 : decode b_Merge_tell 71 = .ok (.ireturn, 1) := by decide +kernel
def f_Merge_tell (h : Hp) (l0 : Nat) (l1 : Int32) (l2 : Int32) : Option Int32 :=
  ck h 2 l0 (
    if l1 < (0 : Int32) then (
      some (-6 : Int32)
    ) else (
      (gI h 2 l0 4).bind fun t1 =>
      if l1 < t1 then (
        if l2 = (0 : Int32) then (
          (gR h 2 l0 0).bind fun t2 =>
          (gA h false t2 l1).bind fun t3 =>
          some t3
        ) else (
          if l2 = (1 : Int32) then (
            (gR h 2 l0 1).bind fun t4 =>
            (gA h false t4 l1).bind fun t5 =>
            some t5
          ) else (
            if l2 = (2 : Int32) then (
              (gR h 2 l0 2).bind fun t6 =>
              (gA h false t6 l1).bind fun t7 =>
              some t7
            ) else (
              (gR h 2 l0 3).bind fun t8 =>
              (gA h false t8 l1).bind fun t9 =>
              some t9
        )))
      ) else (
        some (-6 : Int32)
      )
    )
  )
theorem o_Merge_tell {h : Hp} {l0 : Nat} {l1 : Int32} {l2 : Int32} {r : Int32} (hM : f_Merge_tell h l0 l1 l2 = some r) : isO h 2 l0 = true := by
  unfold f_Merge_tell at hM
  exact (ck_some hM).1
set_option maxHeartbeats 4000000 in
set_option maxRecDepth 100000 in
theorem t_Merge_tell {h : Hp} {l0 : Nat} {l1 : Int32} {l2 : Int32} {r : Int32} (C : Cx base D cI cZ b_Merge_tell 3 "MovedFolders$Merge" "tell" (some .int) p s m args meth c) (hM : f_Merge_tell h l0 l1 l2 = some r) (H : Heap) (locs : List Loc) (ls : Array Slot) (hS : RS base D cI cZ s H locs h) (hl : lv_has ls 3 [(0, .ref (base + l0)), (1, .int l1), (2, .int l2)]) : Wg l base D cI cZ 0 0 0 0 h (some (.int r)) p e s m args below meth c H locs 0 0 (F0 m 0 ls []) := by
  have hx := C.1
  have hb := C.2.1
  unfold f_Merge_tell at hM
  replace hM := (ck_some hM).2
  refine lv_iload_n hx hb d_Merge_tell_0 rfl (lv_at hl 1 rfl) ?_
  refine lv_if_lt (tgt := 12) hx hb d_Merge_tell_1 (by decide) (fun c1_1 => ?_) (fun c1_1 => ?_)
  · rw [if_pos c1_1] at hM
    refine lv_bipush (v := (-6 : Int32)) hx hb d_Merge_tell_12 (by decide) ?_
    obtain rfl := Option.some.inj hM
    exact r_iret C hS d_Merge_tell_14
  · rw [if_neg c1_1] at hM
    refine lv_iload_n hx hb d_Merge_tell_4 rfl (lv_at hl 1 rfl) ?_
    refine lv_aload_n hx hb d_Merge_tell_5 rfl (lv_at hl 0 rfl) ?_
    obtain ⟨t1, et1, hM⟩ := bS hM
    refine r_getI C hS fl_Merge_24 et1 d_Merge_tell_6 ?_
    refine lv_icmp_lt (tgt := 15) hx hb d_Merge_tell_9 (by decide) (fun c9_2 => ?_) (fun c9_2 => ?_)
    · rw [if_pos c9_2] at hM
      refine lv_iload_n hx hb d_Merge_tell_15 rfl (lv_at hl 2 rfl) ?_
      by_cases c16_3 : l2 = (0 : Int32)
      · rw [if_pos c16_3] at hM
        refine lv_tableIn (off := 28) (tgt := 44) hx hb d_Merge_tell_16 (by rw [c16_3]; decide) (by rw [c16_3]; decide) (by rw [c16_3]; rfl) (by decide) ?_
        refine lv_aload_n hx hb d_Merge_tell_44 rfl (lv_at hl 0 rfl) ?_
        obtain ⟨t2, et2, hM⟩ := bS hM
        refine r_getR C hS fl_Merge_9 et2 d_Merge_tell_45 ?_
        refine lv_iload_n hx hb d_Merge_tell_48 rfl (lv_at hl 1 rfl) ?_
        obtain ⟨t3, et3, hM⟩ := bS hM
        refine r_iald C hS et3 d_Merge_tell_49 ?_
        obtain rfl := Option.some.inj hM
        exact r_iret C hS d_Merge_tell_50
      rw [if_neg c16_3] at hM
      by_cases c16_4 : l2 = (1 : Int32)
      · rw [if_pos c16_4] at hM
        refine lv_tableIn (off := 35) (tgt := 51) hx hb d_Merge_tell_16 (by rw [c16_4]; decide) (by rw [c16_4]; decide) (by rw [c16_4]; rfl) (by decide) ?_
        refine lv_aload_n hx hb d_Merge_tell_51 rfl (lv_at hl 0 rfl) ?_
        obtain ⟨t4, et4, hM⟩ := bS hM
        refine r_getR C hS fl_Merge_15 et4 d_Merge_tell_52 ?_
        refine lv_iload_n hx hb d_Merge_tell_55 rfl (lv_at hl 1 rfl) ?_
        obtain ⟨t5, et5, hM⟩ := bS hM
        refine r_iald C hS et5 d_Merge_tell_56 ?_
        obtain rfl := Option.some.inj hM
        exact r_iret C hS d_Merge_tell_57
      rw [if_neg c16_4] at hM
      by_cases c16_5 : l2 = (2 : Int32)
      · rw [if_pos c16_5] at hM
        refine lv_tableIn (off := 42) (tgt := 58) hx hb d_Merge_tell_16 (by rw [c16_5]; decide) (by rw [c16_5]; decide) (by rw [c16_5]; rfl) (by decide) ?_
        refine lv_aload_n hx hb d_Merge_tell_58 rfl (lv_at hl 0 rfl) ?_
        obtain ⟨t6, et6, hM⟩ := bS hM
        refine r_getR C hS fl_Merge_18 et6 d_Merge_tell_59 ?_
        refine lv_iload_n hx hb d_Merge_tell_62 rfl (lv_at hl 1 rfl) ?_
        obtain ⟨t7, et7, hM⟩ := bS hM
        refine r_iald C hS et7 d_Merge_tell_63 ?_
        obtain rfl := Option.some.inj hM
        exact r_iret C hS d_Merge_tell_64
      rw [if_neg c16_5] at hM
      refine r_tabD (tgt := 65) hx hb d_Merge_tell_16 [0, 1, 2] (List.forall_mem_cons.mpr ⟨lv_neT c16_3 rfl, (List.forall_mem_cons.mpr ⟨lv_neT c16_4 rfl, (List.forall_mem_cons.mpr ⟨lv_neT c16_5 rfl, (List.forall_mem_nil _)⟩)⟩)⟩) (by decide) (by decide) ?_
      refine lv_aload_n hx hb d_Merge_tell_65 rfl (lv_at hl 0 rfl) ?_
      obtain ⟨t8, et8, hM⟩ := bS hM
      refine r_getR C hS fl_Merge_21 et8 d_Merge_tell_66 ?_
      refine lv_iload_n hx hb d_Merge_tell_69 rfl (lv_at hl 1 rfl) ?_
      obtain ⟨t9, et9, hM⟩ := bS hM
      refine r_iald C hS et9 d_Merge_tell_70 ?_
      obtain rfl := Option.some.inj hM
      exact r_iret C hS d_Merge_tell_71
    · rw [if_neg c9_2] at hM
      refine lv_bipush (v := (-6 : Int32)) hx hb d_Merge_tell_12 (by decide) ?_
      obtain rfl := Option.some.inj hM
      exact r_iret C hS d_Merge_tell_14
theorem c_Merge_tell (l : Launch) (base : Nat) (D : va_G) (cI cZ : ClassId) (h : Hp) (l0 : Nat) (l1 : Int32) (l2 : Int32) {r : Int32} (hM : f_Merge_tell h l0 l1 l2 = some r) : Ct l base D cI cZ y_Merge_tell b_Merge_tell 3 (some .int) 0 0 0 0 h [.ref (base + l0), .int l1, .int l2] h (some (.int r)) :=
  ct_of (by decide) (Nat.le_of_ble_eq_true rfl) (fun p e s m below meth c ls C hS hl => t_Merge_tell C hM _ _ _ hS hl)
theorem d_Merge_tellClash_0 : decode b_Merge_tellClash 0 = .ok (.iload_n 1, 1) := by decide +kernel
theorem d_Merge_tellClash_1 : decode b_Merge_tellClash 1 = .ok (.ifCond .lt 11, 3) := by decide +kernel
theorem d_Merge_tellClash_4 : decode b_Merge_tellClash 4 = .ok (.iload_n 1, 1) := by decide +kernel
theorem d_Merge_tellClash_5 : decode b_Merge_tellClash 5 = .ok (.aload_n 0, 1) := by decide +kernel
theorem d_Merge_tellClash_6 : decode b_Merge_tellClash 6 = .ok (.getfield 34, 3) := by decide +kernel
theorem d_Merge_tellClash_9 : decode b_Merge_tellClash 9 = .ok (.if_icmp .lt 6, 3) := by decide +kernel
theorem d_Merge_tellClash_12 : decode b_Merge_tellClash 12 = .ok (.bipush (-6), 2) := by decide +kernel
theorem d_Merge_tellClash_14 : decode b_Merge_tellClash 14 = .ok (.ireturn, 1) := by decide +kernel
theorem d_Merge_tellClash_15 : decode b_Merge_tellClash 15 = .ok (.iload_n 2, 1) := by decide +kernel
theorem d_Merge_tellClash_16 : decode b_Merge_tellClash 16 = .ok (.ifCond .ne 12, 3) := by decide +kernel
theorem d_Merge_tellClash_19 : decode b_Merge_tellClash 19 = .ok (.aload_n 0, 1) := by decide +kernel
theorem d_Merge_tellClash_20 : decode b_Merge_tellClash 20 = .ok (.getfield 28, 3) := by decide +kernel
theorem d_Merge_tellClash_23 : decode b_Merge_tellClash 23 = .ok (.iload_n 1, 1) := by decide +kernel
theorem d_Merge_tellClash_24 : decode b_Merge_tellClash 24 = .ok (.iaload, 1) := by decide +kernel
theorem d_Merge_tellClash_25 : decode b_Merge_tellClash 25 = .ok (.goto 9, 3) := by decide +kernel
theorem d_Merge_tellClash_28 : decode b_Merge_tellClash 28 = .ok (.aload_n 0, 1) := by decide +kernel
theorem d_Merge_tellClash_29 : decode b_Merge_tellClash 29 = .ok (.getfield 31, 3) := by decide +kernel
theorem d_Merge_tellClash_32 : decode b_Merge_tellClash 32 = .ok (.iload_n 1, 1) := by decide +kernel
theorem d_Merge_tellClash_33 : decode b_Merge_tellClash 33 = .ok (.iaload, 1) := by decide +kernel
theorem d_Merge_tellClash_34 : decode b_Merge_tellClash 34 = .ok (.ireturn, 1) := by decide +kernel
def f_Merge_tellClash (h : Hp) (l0 : Nat) (l1 : Int32) (l2 : Int32) : Option Int32 :=
  ck h 2 l0 (
    if l1 < (0 : Int32) then (
      some (-6 : Int32)
    ) else (
      (gI h 2 l0 7).bind fun t1 =>
      if l1 < t1 then (
        (
          if l2 = (0 : Int32) then (
            (gR h 2 l0 5).bind fun t5 =>
            (gA h false t5 l1).bind fun t6 =>
            some t6
          ) else (
            (gR h 2 l0 6).bind fun t3 =>
            (gA h false t3 l1).bind fun t4 =>
            some t4
          )
        ).bind fun t2 =>
        some t2
      ) else (
        some (-6 : Int32)
      )
    )
  )
theorem o_Merge_tellClash {h : Hp} {l0 : Nat} {l1 : Int32} {l2 : Int32} {r : Int32} (hM : f_Merge_tellClash h l0 l1 l2 = some r) : isO h 2 l0 = true := by
  unfold f_Merge_tellClash at hM
  exact (ck_some hM).1
set_option maxHeartbeats 4000000 in
set_option maxRecDepth 100000 in
theorem t_Merge_tellClash {h : Hp} {l0 : Nat} {l1 : Int32} {l2 : Int32} {r : Int32} (C : Cx base D cI cZ b_Merge_tellClash 3 "MovedFolders$Merge" "tellClash" (some .int) p s m args meth c) (hM : f_Merge_tellClash h l0 l1 l2 = some r) (H : Heap) (locs : List Loc) (ls : Array Slot) (hS : RS base D cI cZ s H locs h) (hl : lv_has ls 3 [(0, .ref (base + l0)), (1, .int l1), (2, .int l2)]) : Wg l base D cI cZ 0 0 0 0 h (some (.int r)) p e s m args below meth c H locs 0 0 (F0 m 0 ls []) := by
  have hx := C.1
  have hb := C.2.1
  unfold f_Merge_tellClash at hM
  replace hM := (ck_some hM).2
  refine lv_iload_n hx hb d_Merge_tellClash_0 rfl (lv_at hl 1 rfl) ?_
  refine lv_if_lt (tgt := 12) hx hb d_Merge_tellClash_1 (by decide) (fun c1_1 => ?_) (fun c1_1 => ?_)
  · rw [if_pos c1_1] at hM
    refine lv_bipush (v := (-6 : Int32)) hx hb d_Merge_tellClash_12 (by decide) ?_
    obtain rfl := Option.some.inj hM
    exact r_iret C hS d_Merge_tellClash_14
  · rw [if_neg c1_1] at hM
    refine lv_iload_n hx hb d_Merge_tellClash_4 rfl (lv_at hl 1 rfl) ?_
    refine lv_aload_n hx hb d_Merge_tellClash_5 rfl (lv_at hl 0 rfl) ?_
    obtain ⟨t1, et1, hM⟩ := bS hM
    refine r_getI C hS fl_Merge_34 et1 d_Merge_tellClash_6 ?_
    refine lv_icmp_lt (tgt := 15) hx hb d_Merge_tellClash_9 (by decide) (fun c9_2 => ?_) (fun c9_2 => ?_)
    · rw [if_pos c9_2] at hM
      refine lv_iload_n hx hb d_Merge_tellClash_15 rfl (lv_at hl 2 rfl) ?_
      obtain ⟨t2, et2, hM⟩ := bS hM
      have kJ34_3 : ∀ (H : Heap) (locs : List Loc) (ls : Array Slot), RS base D cI cZ s H locs h → lv_has ls 3 [] → Wg l base D cI cZ 0 0 0 0 h (some (.int r)) p e s m args below meth c H locs 0 0 (F0 m 34 ls [.int t2]) := by
        intro H locs ls hS hl
        obtain rfl := Option.some.inj hM
        exact r_iret C hS d_Merge_tellClash_34
      refine lv_if_ne (tgt := 28) hx hb d_Merge_tellClash_16 (by decide) (fun c16_4 => ?_) (fun c16_4 => ?_)
      · rw [if_neg c16_4] at et2
        refine lv_aload_n hx hb d_Merge_tellClash_28 rfl (lv_at hl 0 rfl) ?_
        obtain ⟨t3, et3, et2⟩ := bS et2
        refine r_getR C hS fl_Merge_31 et3 d_Merge_tellClash_29 ?_
        refine lv_iload_n hx hb d_Merge_tellClash_32 rfl (lv_at hl 1 rfl) ?_
        obtain ⟨t4, et4, et2⟩ := bS et2
        refine r_iald C hS et4 d_Merge_tellClash_33 ?_
        obtain rfl := Option.some.inj et2
        exact kJ34_3 _ _ _ hS (lv_sub hl [] rfl)
      · rw [if_pos c16_4] at et2
        refine lv_aload_n hx hb d_Merge_tellClash_19 rfl (lv_at hl 0 rfl) ?_
        obtain ⟨t5, et5, et2⟩ := bS et2
        refine r_getR C hS fl_Merge_28 et5 d_Merge_tellClash_20 ?_
        refine lv_iload_n hx hb d_Merge_tellClash_23 rfl (lv_at hl 1 rfl) ?_
        obtain ⟨t6, et6, et2⟩ := bS et2
        refine r_iald C hS et6 d_Merge_tellClash_24 ?_
        refine lv_goto (tgt := 34) hx hb d_Merge_tellClash_25 (by decide) ?_
        obtain rfl := Option.some.inj et2
        exact kJ34_3 _ _ _ hS (lv_sub hl [] rfl)
    · rw [if_neg c9_2] at hM
      refine lv_bipush (v := (-6 : Int32)) hx hb d_Merge_tellClash_12 (by decide) ?_
      obtain rfl := Option.some.inj hM
      exact r_iret C hS d_Merge_tellClash_14
theorem c_Merge_tellClash (l : Launch) (base : Nat) (D : va_G) (cI cZ : ClassId) (h : Hp) (l0 : Nat) (l1 : Int32) (l2 : Int32) {r : Int32} (hM : f_Merge_tellClash h l0 l1 l2 = some r) : Ct l base D cI cZ y_Merge_tellClash b_Merge_tellClash 3 (some .int) 0 0 0 0 h [.ref (base + l0), .int l1, .int l2] h (some (.int r)) :=
  ct_of (by decide) (Nat.le_of_ble_eq_true rfl) (fun p e s m below meth c ls C hS hl => t_Merge_tellClash C hM _ _ _ hS hl)
theorem d_Tree_clear_0 : decode b_Tree_clear 0 = .ok (.aload_n 0, 1) := by decide +kernel
theorem d_Tree_clear_1 : decode b_Tree_clear 1 = .ok (.iconst 0, 1) := by decide +kernel
theorem d_Tree_clear_2 : decode b_Tree_clear 2 = .ok (.putfield 18, 3) := by decide +kernel
theorem d_Tree_clear_5 : decode b_Tree_clear 5 = .ok (.return_, 1) := by decide +kernel
def f_Tree_clear (h : Hp) (l0 : Nat) : Option Hp :=
  ck h 7 l0 (
    (sI h 7 l0 2 (0 : Int32)).bind fun h1 =>
    some h1
  )
theorem o_Tree_clear {h : Hp} {l0 : Nat} {r : Hp} (hM : f_Tree_clear h l0 = some r) : isO h 7 l0 = true := by
  unfold f_Tree_clear at hM
  exact (ck_some hM).1
set_option maxHeartbeats 4000000 in
set_option maxRecDepth 100000 in
theorem t_Tree_clear {h : Hp} {l0 : Nat} {r : Hp} (C : Cx base D cI cZ b_Tree_clear 1 "MovedFolders$Tree" "clear" none p s m args meth c) (hM : f_Tree_clear h l0 = some r) (H : Heap) (locs : List Loc) (ls : Array Slot) (hS : RS base D cI cZ s H locs h) (hl : lv_has ls 1 [(0, .ref (base + l0))]) : Wg l base D cI cZ 0 0 0 0 r none p e s m args below meth c H locs 0 0 (F0 m 0 ls []) := by
  have hx := C.1
  have hb := C.2.1
  unfold f_Tree_clear at hM
  replace hM := (ck_some hM).2
  refine lv_aload_n hx hb d_Tree_clear_0 rfl (lv_at hl 0 rfl) ?_
  refine lv_iconst (v := (0 : Int32)) hx hb d_Tree_clear_1 (by decide) ?_
  obtain ⟨h1, eh1, hM⟩ := bS hM
  refine r_putI C hS fp_Tree_18 eh1 d_Tree_clear_2 (fun H locs hS => ?_)
  obtain rfl := Option.some.inj hM
  exact r_vret C hS d_Tree_clear_5
theorem c_Tree_clear (l : Launch) (base : Nat) (D : va_G) (cI cZ : ClassId) (h : Hp) (l0 : Nat) {r : Hp} (hM : f_Tree_clear h l0 = some r) : Ct l base D cI cZ y_Tree_clear b_Tree_clear 1 none 0 0 0 0 h [.ref (base + l0)] r none :=
  ct_of (by decide) (Nat.le_of_ble_eq_true rfl) (fun p e s m below meth c ls C hS hl => t_Tree_clear C hM _ _ _ hS hl)
theorem d_Tree_find_0 : decode b_Tree_find 0 = .ok (.iconst 0, 1) := by decide +kernel
theorem d_Tree_find_1 : decode b_Tree_find 1 = .ok (.istore_n 2, 1) := by decide +kernel
theorem d_Tree_find_2 : decode b_Tree_find 2 = .ok (.iload_n 2, 1) := by decide +kernel
theorem d_Tree_find_3 : decode b_Tree_find 3 = .ok (.aload_n 0, 1) := by decide +kernel
theorem d_Tree_find_4 : decode b_Tree_find 4 = .ok (.getfield 18, 3) := by decide +kernel
theorem d_Tree_find_7 : decode b_Tree_find 7 = .ok (.if_icmp .ge 21, 3) := by decide +kernel
theorem d_Tree_find_10 : decode b_Tree_find 10 = .ok (.aload_n 0, 1) := by decide +kernel
theorem d_Tree_find_11 : decode b_Tree_find 11 = .ok (.getfield 9, 3) := by decide +kernel
theorem d_Tree_find_14 : decode b_Tree_find 14 = .ok (.iload_n 2, 1) := by decide +kernel
theorem d_Tree_find_15 : decode b_Tree_find 15 = .ok (.iaload, 1) := by decide +kernel
theorem d_Tree_find_16 : decode b_Tree_find 16 = .ok (.iload_n 1, 1) := by decide +kernel
theorem d_Tree_find_17 : decode b_Tree_find 17 = .ok (.if_icmp .ne 5, 3) := by decide +kernel
theorem d_Tree_find_20 : decode b_Tree_find 20 = .ok (.iload_n 2, 1) := by decide +kernel
theorem d_Tree_find_21 : decode b_Tree_find 21 = .ok (.ireturn, 1) := by decide +kernel
theorem d_Tree_find_22 : decode b_Tree_find 22 = .ok (.iinc 2 1, 3) := by decide +kernel
theorem d_Tree_find_25 : decode b_Tree_find 25 = .ok (.goto (-23), 3) := by decide +kernel
theorem d_Tree_find_28 : decode b_Tree_find 28 = .ok (.bipush (-6), 2) := by decide +kernel
theorem d_Tree_find_30 : decode b_Tree_find 30 = .ok (.ireturn, 1) := by decide +kernel
def f_Tree_find_2 (h : Hp) (l0 : Nat) (l1 : Int32) : Nat → Int32 → Option Int32
  | 0, _ => none
  | n + 1, l2 =>
    (gI h 7 l0 2).bind fun t1 =>
    if t1 ≤ l2 then (
      some (-6 : Int32)
    ) else (
      (gR h 7 l0 0).bind fun t2 =>
      (gA h false t2 l2).bind fun t3 =>
      if t3 = l1 then (
        some l2
      ) else (
        f_Tree_find_2 h l0 l1 n (l2 + (1 : Int32))
      )
    )
set_option maxHeartbeats 4000000 in
set_option maxRecDepth 100000 in
theorem t_Tree_find_2 {h : Hp} {l0 : Nat} {l1 : Int32} {r : Int32} (C : Cx base D cI cZ b_Tree_find 3 "MovedFolders$Tree" "find" (some .int) p s m args meth c)  : ∀ (n : Nat) (l2 : Int32), f_Tree_find_2 h l0 l1 n l2 = some r → ∀ (H : Heap) (locs : List Loc) (ls : Array Slot), RS base D cI cZ s H locs h → lv_has ls 3 [(0, .ref (base + l0)), (1, .int l1), (2, .int l2)] → Wg l base D cI cZ 0 0 0 0 h (some (.int r)) p e s m args below meth c H locs 0 0 (F0 m 2 ls []) := by
  have hx := C.1
  have hb := C.2.1
  intro n
  induction n with
  | zero =>
    intro l2 hM
    rw [f_Tree_find_2] at hM
    cases hM
  | succ n ih =>
    intro l2 hM H locs ls hS hl
    rw [f_Tree_find_2] at hM
    refine lv_iload_n hx hb d_Tree_find_2 rfl (lv_at hl 2 rfl) ?_
    refine lv_aload_n hx hb d_Tree_find_3 rfl (lv_at hl 0 rfl) ?_
    obtain ⟨t1, et1, hM⟩ := bS hM
    refine r_getI C hS fl_Tree_18 et1 d_Tree_find_4 ?_
    refine lv_icmp_ge (tgt := 28) hx hb d_Tree_find_7 (by decide) (fun c7_1 => ?_) (fun c7_1 => ?_)
    · rw [if_pos c7_1] at hM
      refine lv_bipush (v := (-6 : Int32)) hx hb d_Tree_find_28 (by decide) ?_
      obtain rfl := Option.some.inj hM
      exact r_iret C hS d_Tree_find_30
    · rw [if_neg c7_1] at hM
      refine lv_aload_n hx hb d_Tree_find_10 rfl (lv_at hl 0 rfl) ?_
      obtain ⟨t2, et2, hM⟩ := bS hM
      refine r_getR C hS fl_Tree_9 et2 d_Tree_find_11 ?_
      refine lv_iload_n hx hb d_Tree_find_14 rfl (lv_at hl 2 rfl) ?_
      obtain ⟨t3, et3, hM⟩ := bS hM
      refine r_iald C hS et3 d_Tree_find_15 ?_
      refine lv_iload_n hx hb d_Tree_find_16 rfl (lv_at hl 1 rfl) ?_
      refine lv_icmp_ne (tgt := 22) hx hb d_Tree_find_17 (by decide) (fun c17_2 => ?_) (fun c17_2 => ?_)
      · rw [if_neg c17_2] at hM
        refine lv_iinc (v := (l2 + (1 : Int32))) (lv' := [(2, .int (l2 + (1 : Int32))), (0, .ref (base + l0)), (1, .int l1)]) hx hb d_Tree_find_22 hl (k := 2) rfl (by rw [oi_1]) (by decide) rfl (fun ls hl => ?_)
        refine lv_goto (tgt := 2) hx hb d_Tree_find_25 (by decide) ?_
        exact ih (l2 + (1 : Int32)) hM _ _ _ hS (lv_sub hl [1, 2, 0] rfl)
      · rw [if_pos c17_2] at hM
        refine lv_iload_n hx hb d_Tree_find_20 rfl (lv_at hl 2 rfl) ?_
        obtain rfl := Option.some.inj hM
        exact r_iret C hS d_Tree_find_21
def f_Tree_find (h : Hp) (l0 : Nat) (l1 : Int32) : Option Int32 :=
  ck h 7 l0 (
    f_Tree_find_2 h l0 l1 FU (0 : Int32)
  )
theorem o_Tree_find {h : Hp} {l0 : Nat} {l1 : Int32} {r : Int32} (hM : f_Tree_find h l0 l1 = some r) : isO h 7 l0 = true := by
  unfold f_Tree_find at hM
  exact (ck_some hM).1
set_option maxHeartbeats 4000000 in
set_option maxRecDepth 100000 in
theorem t_Tree_find {h : Hp} {l0 : Nat} {l1 : Int32} {r : Int32} (C : Cx base D cI cZ b_Tree_find 3 "MovedFolders$Tree" "find" (some .int) p s m args meth c) (hM : f_Tree_find h l0 l1 = some r) (H : Heap) (locs : List Loc) (ls : Array Slot) (hS : RS base D cI cZ s H locs h) (hl : lv_has ls 3 [(0, .ref (base + l0)), (1, .int l1)]) : Wg l base D cI cZ 0 0 0 0 h (some (.int r)) p e s m args below meth c H locs 0 0 (F0 m 0 ls []) := by
  have hx := C.1
  have hb := C.2.1
  unfold f_Tree_find at hM
  replace hM := (ck_some hM).2
  refine lv_iconst (v := (0 : Int32)) hx hb d_Tree_find_0 (by decide) ?_
  refine lv_istore_n (lv' := [(2, .int (0 : Int32)), (0, .ref (base + l0)), (1, .int l1)]) hx hb d_Tree_find_1 rfl hl (by decide) rfl (fun ls hl => ?_)
  exact t_Tree_find_2  C  FU (0 : Int32) hM _ _ _ hS (lv_sub hl [1, 2, 0] rfl)
theorem c_Tree_find (l : Launch) (base : Nat) (D : va_G) (cI cZ : ClassId) (h : Hp) (l0 : Nat) (l1 : Int32) {r : Int32} (hM : f_Tree_find h l0 l1 = some r) : Ct l base D cI cZ y_Tree_find b_Tree_find 3 (some .int) 0 0 0 0 h [.ref (base + l0), .int l1] h (some (.int r)) :=
  ct_of (by decide) (Nat.le_of_ble_eq_true rfl) (fun p e s m below meth c ls C hS hl => t_Tree_find C hM _ _ _ hS hl)
theorem d_Tree_openFor_0 : decode b_Tree_openFor 0 = .ok (.aload_n 0, 1) := by decide +kernel
theorem d_Tree_openFor_1 : decode b_Tree_openFor 1 = .ok (.getfield 18, 3) := by decide +kernel
theorem d_Tree_openFor_4 : decode b_Tree_openFor 4 = .ok (.istore_n 2, 1) := by decide +kernel
theorem d_Tree_openFor_5 : decode b_Tree_openFor 5 = .ok (.aload_n 0, 1) := by decide +kernel
theorem d_Tree_openFor_6 : decode b_Tree_openFor 6 = .ok (.getfield 18, 3) := by decide +kernel
theorem d_Tree_openFor_9 : decode b_Tree_openFor 9 = .ok (.istore_n 3, 1) := by decide +kernel
theorem d_Tree_openFor_10 : decode b_Tree_openFor 10 = .ok (.iload_n 3, 1) := by decide +kernel
theorem d_Tree_openFor_11 : decode b_Tree_openFor 11 = .ok (.ifCond .le 53, 3) := by decide +kernel
theorem d_Tree_openFor_14 : decode b_Tree_openFor 14 = .ok (.aload_n 0, 1) := by decide +kernel
theorem d_Tree_openFor_15 : decode b_Tree_openFor 15 = .ok (.getfield 9, 3) := by decide +kernel
theorem d_Tree_openFor_18 : decode b_Tree_openFor 18 = .ok (.iload_n 3, 1) := by decide +kernel
theorem d_Tree_openFor_19 : decode b_Tree_openFor 19 = .ok (.iconst 1, 1) := by decide +kernel
theorem d_Tree_openFor_20 : decode b_Tree_openFor 20 = .ok (.isub, 1) := by decide +kernel
theorem d_Tree_openFor_21 : decode b_Tree_openFor 21 = .ok (.iaload, 1) := by decide +kernel
theorem d_Tree_openFor_22 : decode b_Tree_openFor 22 = .ok (.iload_n 1, 1) := by decide +kernel
theorem d_Tree_openFor_23 : decode b_Tree_openFor 23 = .ok (.if_icmp .le 41, 3) := by decide +kernel
theorem d_Tree_openFor_26 : decode b_Tree_openFor 26 = .ok (.aload_n 0, 1) := by decide +kernel
theorem d_Tree_openFor_27 : decode b_Tree_openFor 27 = .ok (.getfield 9, 3) := by decide +kernel
theorem d_Tree_openFor_30 : decode b_Tree_openFor 30 = .ok (.iload_n 3, 1) := by decide +kernel
theorem d_Tree_openFor_31 : decode b_Tree_openFor 31 = .ok (.aload_n 0, 1) := by decide +kernel
theorem d_Tree_openFor_32 : decode b_Tree_openFor 32 = .ok (.getfield 9, 3) := by decide +kernel
theorem d_Tree_openFor_35 : decode b_Tree_openFor 35 = .ok (.iload_n 3, 1) := by decide +kernel
theorem d_Tree_openFor_36 : decode b_Tree_openFor 36 = .ok (.iconst 1, 1) := by decide +kernel
theorem d_Tree_openFor_37 : decode b_Tree_openFor 37 = .ok (.isub, 1) := by decide +kernel
theorem d_Tree_openFor_38 : decode b_Tree_openFor 38 = .ok (.iaload, 1) := by decide +kernel
theorem d_Tree_openFor_39 : decode b_Tree_openFor 39 = .ok (.iastore, 1) := by decide +kernel
theorem d_Tree_openFor_40 : decode b_Tree_openFor 40 = .ok (.aload_n 0, 1) := by decide +kernel
theorem d_Tree_openFor_41 : decode b_Tree_openFor 41 = .ok (.getfield 15, 3) := by decide +kernel
theorem d_Tree_openFor_44 : decode b_Tree_openFor 44 = .ok (.iload_n 3, 1) := by decide +kernel
theorem d_Tree_openFor_45 : decode b_Tree_openFor 45 = .ok (.aload_n 0, 1) := by decide +kernel
theorem d_Tree_openFor_46 : decode b_Tree_openFor 46 = .ok (.getfield 15, 3) := by decide +kernel
theorem d_Tree_openFor_49 : decode b_Tree_openFor 49 = .ok (.iload_n 3, 1) := by decide +kernel
theorem d_Tree_openFor_50 : decode b_Tree_openFor 50 = .ok (.iconst 1, 1) := by decide +kernel
theorem d_Tree_openFor_51 : decode b_Tree_openFor 51 = .ok (.isub, 1) := by decide +kernel
theorem d_Tree_openFor_52 : decode b_Tree_openFor 52 = .ok (.iaload, 1) := by decide +kernel
theorem d_Tree_openFor_53 : decode b_Tree_openFor 53 = .ok (.iastore, 1) := by decide +kernel
theorem d_Tree_openFor_54 : decode b_Tree_openFor 54 = .ok (.iload_n 3, 1) := by decide +kernel
theorem d_Tree_openFor_55 : decode b_Tree_openFor 55 = .ok (.iconst 1, 1) := by decide +kernel
theorem d_Tree_openFor_56 : decode b_Tree_openFor 56 = .ok (.isub, 1) := by decide +kernel
theorem d_Tree_openFor_57 : decode b_Tree_openFor 57 = .ok (.istore_n 2, 1) := by decide +kernel
theorem d_Tree_openFor_58 : decode b_Tree_openFor 58 = .ok (.iinc 3 (-1), 3) := by decide +kernel
theorem d_Tree_openFor_61 : decode b_Tree_openFor 61 = .ok (.goto (-51), 3) := by decide +kernel
theorem d_Tree_openFor_64 : decode b_Tree_openFor 64 = .ok (.aload_n 0, 1) := by decide +kernel
theorem d_Tree_openFor_65 : decode b_Tree_openFor 65 = .ok (.dup, 1) := by decide +kernel
theorem d_Tree_openFor_66 : decode b_Tree_openFor 66 = .ok (.getfield 18, 3) := by decide +kernel
theorem d_Tree_openFor_69 : decode b_Tree_openFor 69 = .ok (.iconst 1, 1) := by decide +kernel
theorem d_Tree_openFor_70 : decode b_Tree_openFor 70 = .ok (.iadd, 1) := by decide +kernel
theorem d_Tree_openFor_71 : decode b_Tree_openFor 71 = .ok (.putfield 18, 3) := by decide +kernel
theorem d_Tree_openFor_74 : decode b_Tree_openFor 74 = .ok (.iload_n 2, 1) := by decide +kernel
theorem d_Tree_openFor_75 : decode b_Tree_openFor 75 = .ok (.ireturn, 1) := by decide +kernel
def f_Tree_openFor_64 (h : Hp) (l0 : Nat) (l2 : Int32) : Option (Int32 × Hp) :=
  (gI h 7 l0 2).bind fun t3 =>
  (sI h 7 l0 2 (t3 + (1 : Int32))).bind fun h4 =>
  some (l2, h4)
set_option maxHeartbeats 4000000 in
set_option maxRecDepth 100000 in
theorem t_Tree_openFor_64 {h : Hp} {l0 : Nat} {l2 : Int32} {r : (Int32 × Hp)} (C : Cx base D cI cZ b_Tree_openFor 4 "MovedFolders$Tree" "openFor" (some .int) p s m args meth c)  (hM : f_Tree_openFor_64 h l0 l2 = some r) (H : Heap) (locs : List Loc) (ls : Array Slot) (hS : RS base D cI cZ s H locs h) (hl : lv_has ls 4 [(0, .ref (base + l0)), (2, .int l2)]) : Wg l base D cI cZ 0 0 0 0 r.2 (some (.int r.1)) p e s m args below meth c H locs 0 0 (F0 m 64 ls []) := by
  have hx := C.1
  have hb := C.2.1
  unfold f_Tree_openFor_64 at hM
  refine lv_aload_n hx hb d_Tree_openFor_64 rfl (lv_at hl 0 rfl) ?_
  refine lv_dup hx hb d_Tree_openFor_65 rfl ?_
  obtain ⟨t3, et3, hM⟩ := bS hM
  refine r_getI C hS fl_Tree_18 et3 d_Tree_openFor_66 ?_
  refine lv_iconst (v := (1 : Int32)) hx hb d_Tree_openFor_69 (by decide) ?_
  refine lv_iadd hx hb d_Tree_openFor_70 ?_
  obtain ⟨h4, eh4, hM⟩ := bS hM
  refine r_putI C hS fp_Tree_18 eh4 d_Tree_openFor_71 (fun H locs hS => ?_)
  refine lv_iload_n hx hb d_Tree_openFor_74 rfl (lv_at hl 1 rfl) ?_
  obtain rfl := Option.some.inj hM
  exact r_iret C hS d_Tree_openFor_75
def f_Tree_openFor_10 (l0 : Nat) (l1 : Int32) : Nat → Int32 → Int32 → Hp → Option (Int32 × Hp)
  | 0, _, _, _ => none
  | n + 1, l2, l3, h =>
    if l3 ≤ (0 : Int32) then (
      f_Tree_openFor_64 h l0 l2
    ) else (
      (gR h 7 l0 0).bind fun t5 =>
      (gA h false t5 (l3 - (1 : Int32))).bind fun t6 =>
      if t6 ≤ l1 then (
        f_Tree_openFor_64 h l0 l2
      ) else (
        (gR h 7 l0 0).bind fun t7 =>
        (gR h 7 l0 0).bind fun t8 =>
        (gA h false t8 (l3 - (1 : Int32))).bind fun t9 =>
        (sA h t7 l3 t9).bind fun h10 =>
        (gR h10 7 l0 1).bind fun t11 =>
        (gR h10 7 l0 1).bind fun t12 =>
        (gA h10 false t12 (l3 - (1 : Int32))).bind fun t13 =>
        (sA h10 t11 l3 t13).bind fun h14 =>
        f_Tree_openFor_10 l0 l1 n (l3 - (1 : Int32)) (l3 + (-1 : Int32)) h14
      )
    )
set_option maxHeartbeats 4000000 in
set_option maxRecDepth 100000 in
theorem t_Tree_openFor_10 {l0 : Nat} {l1 : Int32} {r : (Int32 × Hp)} (C : Cx base D cI cZ b_Tree_openFor 4 "MovedFolders$Tree" "openFor" (some .int) p s m args meth c)  : ∀ (n : Nat) (l2 : Int32) (l3 : Int32) (h : Hp), f_Tree_openFor_10 l0 l1 n l2 l3 h = some r → ∀ (H : Heap) (locs : List Loc) (ls : Array Slot), RS base D cI cZ s H locs h → lv_has ls 4 [(0, .ref (base + l0)), (1, .int l1), (2, .int l2), (3, .int l3)] → Wg l base D cI cZ 0 0 0 0 r.2 (some (.int r.1)) p e s m args below meth c H locs 0 0 (F0 m 10 ls []) := by
  have hx := C.1
  have hb := C.2.1
  intro n
  induction n with
  | zero =>
    intro l2 l3 h hM
    rw [f_Tree_openFor_10] at hM
    cases hM
  | succ n ih =>
    intro l2 l3 h hM H locs ls hS hl
    rw [f_Tree_openFor_10] at hM
    refine lv_iload_n hx hb d_Tree_openFor_10 rfl (lv_at hl 3 rfl) ?_
    refine lv_if_le (tgt := 64) hx hb d_Tree_openFor_11 (by decide) (fun c11_1 => ?_) (fun c11_1 => ?_)
    · rw [if_pos c11_1] at hM
      exact t_Tree_openFor_64  C  hM _ _ _ hS (lv_sub hl [0, 2] rfl)
    · rw [if_neg c11_1] at hM
      refine lv_aload_n hx hb d_Tree_openFor_14 rfl (lv_at hl 0 rfl) ?_
      obtain ⟨t5, et5, hM⟩ := bS hM
      refine r_getR C hS fl_Tree_9 et5 d_Tree_openFor_15 ?_
      refine lv_iload_n hx hb d_Tree_openFor_18 rfl (lv_at hl 3 rfl) ?_
      refine lv_iconst (v := (1 : Int32)) hx hb d_Tree_openFor_19 (by decide) ?_
      refine lv_isub hx hb d_Tree_openFor_20 ?_
      obtain ⟨t6, et6, hM⟩ := bS hM
      refine r_iald C hS et6 d_Tree_openFor_21 ?_
      refine lv_iload_n hx hb d_Tree_openFor_22 rfl (lv_at hl 1 rfl) ?_
      refine lv_icmp_le (tgt := 64) hx hb d_Tree_openFor_23 (by decide) (fun c23_2 => ?_) (fun c23_2 => ?_)
      · rw [if_pos c23_2] at hM
        exact t_Tree_openFor_64  C  hM _ _ _ hS (lv_sub hl [0, 2] rfl)
      · rw [if_neg c23_2] at hM
        refine lv_aload_n hx hb d_Tree_openFor_26 rfl (lv_at hl 0 rfl) ?_
        obtain ⟨t7, et7, hM⟩ := bS hM
        refine r_getR C hS fl_Tree_9 et7 d_Tree_openFor_27 ?_
        refine lv_iload_n hx hb d_Tree_openFor_30 rfl (lv_at hl 3 rfl) ?_
        refine lv_aload_n hx hb d_Tree_openFor_31 rfl (lv_at hl 0 rfl) ?_
        obtain ⟨t8, et8, hM⟩ := bS hM
        refine r_getR C hS fl_Tree_9 et8 d_Tree_openFor_32 ?_
        refine lv_iload_n hx hb d_Tree_openFor_35 rfl (lv_at hl 3 rfl) ?_
        refine lv_iconst (v := (1 : Int32)) hx hb d_Tree_openFor_36 (by decide) ?_
        refine lv_isub hx hb d_Tree_openFor_37 ?_
        obtain ⟨t9, et9, hM⟩ := bS hM
        refine r_iald C hS et9 d_Tree_openFor_38 ?_
        obtain ⟨h10, eh10, hM⟩ := bS hM
        refine r_iast C hS eh10 d_Tree_openFor_39 (fun H locs hS => ?_)
        refine lv_aload_n hx hb d_Tree_openFor_40 rfl (lv_at hl 0 rfl) ?_
        obtain ⟨t11, et11, hM⟩ := bS hM
        refine r_getR C hS fl_Tree_15 et11 d_Tree_openFor_41 ?_
        refine lv_iload_n hx hb d_Tree_openFor_44 rfl (lv_at hl 3 rfl) ?_
        refine lv_aload_n hx hb d_Tree_openFor_45 rfl (lv_at hl 0 rfl) ?_
        obtain ⟨t12, et12, hM⟩ := bS hM
        refine r_getR C hS fl_Tree_15 et12 d_Tree_openFor_46 ?_
        refine lv_iload_n hx hb d_Tree_openFor_49 rfl (lv_at hl 3 rfl) ?_
        refine lv_iconst (v := (1 : Int32)) hx hb d_Tree_openFor_50 (by decide) ?_
        refine lv_isub hx hb d_Tree_openFor_51 ?_
        obtain ⟨t13, et13, hM⟩ := bS hM
        refine r_iald C hS et13 d_Tree_openFor_52 ?_
        obtain ⟨h14, eh14, hM⟩ := bS hM
        refine r_iast C hS eh14 d_Tree_openFor_53 (fun H locs hS => ?_)
        refine lv_iload_n hx hb d_Tree_openFor_54 rfl (lv_at hl 3 rfl) ?_
        refine lv_iconst (v := (1 : Int32)) hx hb d_Tree_openFor_55 (by decide) ?_
        refine lv_isub hx hb d_Tree_openFor_56 ?_
        refine lv_istore_n (lv' := [(2, .int (l3 - (1 : Int32))), (0, .ref (base + l0)), (1, .int l1), (3, .int l3)]) hx hb d_Tree_openFor_57 rfl hl (by decide) rfl (fun ls hl => ?_)
        refine lv_iinc (v := (l3 + (-1 : Int32))) (lv' := [(3, .int (l3 + (-1 : Int32))), (2, .int (l3 - (1 : Int32))), (0, .ref (base + l0)), (1, .int l1)]) hx hb d_Tree_openFor_58 hl (k := 3) rfl (by rw [oi_m1]) (by decide) rfl (fun ls hl => ?_)
        refine lv_goto (tgt := 10) hx hb d_Tree_openFor_61 (by decide) ?_
        exact ih (l3 - (1 : Int32)) (l3 + (-1 : Int32)) h14 hM _ _ _ hS (lv_sub hl [2, 3, 1, 0] rfl)
def f_Tree_openFor (h : Hp) (l0 : Nat) (l1 : Int32) : Option (Int32 × Hp) :=
  ck h 7 l0 (
    (gI h 7 l0 2).bind fun t1 =>
    (gI h 7 l0 2).bind fun t2 =>
    f_Tree_openFor_10 l0 l1 FU t1 t2 h
  )
theorem o_Tree_openFor {h : Hp} {l0 : Nat} {l1 : Int32} {r : (Int32 × Hp)} (hM : f_Tree_openFor h l0 l1 = some r) : isO h 7 l0 = true := by
  unfold f_Tree_openFor at hM
  exact (ck_some hM).1
set_option maxHeartbeats 4000000 in
set_option maxRecDepth 100000 in
theorem t_Tree_openFor {h : Hp} {l0 : Nat} {l1 : Int32} {r : (Int32 × Hp)} (C : Cx base D cI cZ b_Tree_openFor 4 "MovedFolders$Tree" "openFor" (some .int) p s m args meth c) (hM : f_Tree_openFor h l0 l1 = some r) (H : Heap) (locs : List Loc) (ls : Array Slot) (hS : RS base D cI cZ s H locs h) (hl : lv_has ls 4 [(0, .ref (base + l0)), (1, .int l1)]) : Wg l base D cI cZ 0 0 0 0 r.2 (some (.int r.1)) p e s m args below meth c H locs 0 0 (F0 m 0 ls []) := by
  have hx := C.1
  have hb := C.2.1
  unfold f_Tree_openFor at hM
  replace hM := (ck_some hM).2
  refine lv_aload_n hx hb d_Tree_openFor_0 rfl (lv_at hl 0 rfl) ?_
  obtain ⟨t1, et1, hM⟩ := bS hM
  refine r_getI C hS fl_Tree_18 et1 d_Tree_openFor_1 ?_
  refine lv_istore_n (lv' := [(2, .int t1), (0, .ref (base + l0)), (1, .int l1)]) hx hb d_Tree_openFor_4 rfl hl (by decide) rfl (fun ls hl => ?_)
  refine lv_aload_n hx hb d_Tree_openFor_5 rfl (lv_at hl 1 rfl) ?_
  obtain ⟨t2, et2, hM⟩ := bS hM
  refine r_getI C hS fl_Tree_18 et2 d_Tree_openFor_6 ?_
  refine lv_istore_n (lv' := [(3, .int t2), (2, .int t1), (0, .ref (base + l0)), (1, .int l1)]) hx hb d_Tree_openFor_9 rfl hl (by decide) rfl (fun ls hl => ?_)
  exact t_Tree_openFor_10  C  FU t1 t2 h hM _ _ _ hS (lv_sub hl [2, 3, 1, 0] rfl)
theorem c_Tree_openFor (l : Launch) (base : Nat) (D : va_G) (cI cZ : ClassId) (h : Hp) (l0 : Nat) (l1 : Int32) {r : (Int32 × Hp)} (hM : f_Tree_openFor h l0 l1 = some r) : Ct l base D cI cZ y_Tree_openFor b_Tree_openFor 4 (some .int) 0 0 0 0 h [.ref (base + l0), .int l1] r.2 (some (.int r.1)) :=
  ct_of (by decide) (Nat.le_of_ble_eq_true rfl) (fun p e s m below meth c ls C hS hl => t_Tree_openFor C hM _ _ _ hS hl)
end MM0
end
