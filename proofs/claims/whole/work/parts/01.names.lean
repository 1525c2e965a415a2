-- ===== PART A: goes FIRST, ahead of the names: the tables' words, and 'selects' of the private methods out of them =====
/-- a private method of a class that the tables say can be made, by its rows of tables_1 -/
def lw_okq (q : MethodName × Nat) : Prop := (q.1.cls ≠ "java/lang/invoke/MethodHandle" ∧ q.1.cls ≠ "java/lang/invoke/VarHandle") ∧ Cond.instantiable q.1.cls q.2 ∈ tables_1 ∧ Cond.privateMethod q.1 ∈ tables_1 ∧ Cond.instanceMethod q.1 ∈ tables_1
theorem lw_p0 : lw_okq (⟨"MovedFolders$Pad", "letters", "()I"⟩, 2) := ⟨⟨by decide +kernel, by decide +kernel⟩, List.mem_of_getElem? (i := 24) (by decide +kernel), List.mem_of_getElem? (i := 242) (by decide +kernel), List.mem_of_getElem? (i := 243) (by decide +kernel)⟩
theorem lw_p1 : lw_okq (⟨"MovedFolders$Pad", "runOf", "(IIII)I"⟩, 2) := ⟨⟨by decide +kernel, by decide +kernel⟩, List.mem_of_getElem? (i := 24) (by decide +kernel), List.mem_of_getElem? (i := 246) (by decide +kernel), List.mem_of_getElem? (i := 247) (by decide +kernel)⟩
theorem lw_p2 : lw_okq (⟨"MovedFolders$Pad", "signAt", "(I)I"⟩, 2) := ⟨⟨by decide +kernel, by decide +kernel⟩, List.mem_of_getElem? (i := 24) (by decide +kernel), List.mem_of_getElem? (i := 250) (by decide +kernel), List.mem_of_getElem? (i := 251) (by decide +kernel)⟩
theorem lw_p3 : lw_okq (⟨"MovedFolders$Pad", "figures", "()I"⟩, 2) := ⟨⟨by decide +kernel, by decide +kernel⟩, List.mem_of_getElem? (i := 24) (by decide +kernel), List.mem_of_getElem? (i := 254) (by decide +kernel), List.mem_of_getElem? (i := 255) (by decide +kernel)⟩
theorem lw_p4 : lw_okq (⟨"MovedFolders", "treeOf", "(I)LMovedFolders$Tree;"⟩, 10) := ⟨⟨by decide +kernel, by decide +kernel⟩, List.mem_of_getElem? (i := 16) (by decide +kernel), List.mem_of_getElem? (i := 268) (by decide +kernel), List.mem_of_getElem? (i := 269) (by decide +kernel)⟩
theorem lw_p5 : lw_okq (⟨"MovedFolders$Tree", "openFor", "(I)I"⟩, 3) := ⟨⟨by decide +kernel, by decide +kernel⟩, List.mem_of_getElem? (i := 44) (by decide +kernel), List.mem_of_getElem? (i := 291) (by decide +kernel), List.mem_of_getElem? (i := 292) (by decide +kernel)⟩
theorem lw_p6 : lw_okq (⟨"MovedFolders", "isFile", "(II)Z"⟩, 10) := ⟨⟨by decide +kernel, by decide +kernel⟩, List.mem_of_getElem? (i := 16) (by decide +kernel), List.mem_of_getElem? (i := 303) (by decide +kernel), List.mem_of_getElem? (i := 304) (by decide +kernel)⟩
theorem lw_p7 : lw_okq (⟨"MovedFolders", "refresh", "()V"⟩, 10) := ⟨⟨by decide +kernel, by decide +kernel⟩, List.mem_of_getElem? (i := 16) (by decide +kernel), List.mem_of_getElem? (i := 367) (by decide +kernel), List.mem_of_getElem? (i := 368) (by decide +kernel)⟩
theorem lw_p8 : lw_okq (⟨"MovedFolders$Pairs", "joinStayed", "(LMovedFolders$Tree;LMovedFolders$Tree;)V"⟩, 4) := ⟨⟨by decide +kernel, by decide +kernel⟩, List.mem_of_getElem? (i := 86) (by decide +kernel), List.mem_of_getElem? (i := 375) (by decide +kernel), List.mem_of_getElem? (i := 376) (by decide +kernel)⟩
theorem lw_p9 : lw_okq (⟨"MovedFolders$Pairs", "join", "(III)V"⟩, 4) := ⟨⟨by decide +kernel, by decide +kernel⟩, List.mem_of_getElem? (i := 86) (by decide +kernel), List.mem_of_getElem? (i := 382) (by decide +kernel), List.mem_of_getElem? (i := 383) (by decide +kernel)⟩
theorem lw_p10 : lw_okq (⟨"MovedFolders$Pairs", "rankOthers", "(LMovedFolders$Tree;LMovedFolders$Tree;I)V"⟩, 4) := ⟨⟨by decide +kernel, by decide +kernel⟩, List.mem_of_getElem? (i := 86) (by decide +kernel), List.mem_of_getElem? (i := 386) (by decide +kernel), List.mem_of_getElem? (i := 387) (by decide +kernel)⟩
theorem lw_p11 : lw_okq (⟨"MovedFolders$Pairs", "joinBest", "(LMovedFolders$Tree;LMovedFolders$Tree;)Z"⟩, 4) := ⟨⟨by decide +kernel, by decide +kernel⟩, List.mem_of_getElem? (i := 86) (by decide +kernel), List.mem_of_getElem? (i := 402) (by decide +kernel), List.mem_of_getElem? (i := 403) (by decide +kernel)⟩
theorem lw_p12 : lw_okq (⟨"MovedFolders$Moves", "placeOf", "(I)I"⟩, 4) := ⟨⟨by decide +kernel, by decide +kernel⟩, List.mem_of_getElem? (i := 106) (by decide +kernel), List.mem_of_getElem? (i := 418) (by decide +kernel), List.mem_of_getElem? (i := 419) (by decide +kernel)⟩
theorem lw_p13 : lw_okq (⟨"MovedFolders$Moves", "add", "(II)V"⟩, 4) := ⟨⟨by decide +kernel, by decide +kernel⟩, List.mem_of_getElem? (i := 106) (by decide +kernel), List.mem_of_getElem? (i := 440) (by decide +kernel), List.mem_of_getElem? (i := 441) (by decide +kernel)⟩
theorem lw_p14 : lw_okq (⟨"MovedFolders$Loops", "markThose", "(LMovedFolders$Moves;LMovedFolders$Moves;LMovedFolders$Moves;)V"⟩, 2) := ⟨⟨by decide +kernel, by decide +kernel⟩, List.mem_of_getElem? (i := 136) (by decide +kernel), List.mem_of_getElem? (i := 448) (by decide +kernel), List.mem_of_getElem? (i := 449) (by decide +kernel)⟩
theorem lw_p15 : lw_okq (⟨"MovedFolders$Loops", "reachFrom", "(ILMovedFolders$Moves;LMovedFolders$Moves;)V"⟩, 2) := ⟨⟨by decide +kernel, by decide +kernel⟩, List.mem_of_getElem? (i := 136) (by decide +kernel), List.mem_of_getElem? (i := 460) (by decide +kernel), List.mem_of_getElem? (i := 461) (by decide +kernel)⟩
def lw_privs_1 : List (MethodName × Nat) := [(⟨"MovedFolders$Pad", "letters", "()I"⟩, 2), (⟨"MovedFolders$Pad", "runOf", "(IIII)I"⟩, 2), (⟨"MovedFolders$Pad", "signAt", "(I)I"⟩, 2), (⟨"MovedFolders$Pad", "figures", "()I"⟩, 2), (⟨"MovedFolders", "treeOf", "(I)LMovedFolders$Tree;"⟩, 10), (⟨"MovedFolders$Tree", "openFor", "(I)I"⟩, 3), (⟨"MovedFolders", "isFile", "(II)Z"⟩, 10), (⟨"MovedFolders", "refresh", "()V"⟩, 10), (⟨"MovedFolders$Pairs", "joinStayed", "(LMovedFolders$Tree;LMovedFolders$Tree;)V"⟩, 4), (⟨"MovedFolders$Pairs", "join", "(III)V"⟩, 4), (⟨"MovedFolders$Pairs", "rankOthers", "(LMovedFolders$Tree;LMovedFolders$Tree;I)V"⟩, 4), (⟨"MovedFolders$Pairs", "joinBest", "(LMovedFolders$Tree;LMovedFolders$Tree;)Z"⟩, 4), (⟨"MovedFolders$Moves", "placeOf", "(I)I"⟩, 4), (⟨"MovedFolders$Moves", "add", "(II)V"⟩, 4), (⟨"MovedFolders$Loops", "markThose", "(LMovedFolders$Moves;LMovedFolders$Moves;LMovedFolders$Moves;)V"⟩, 2), (⟨"MovedFolders$Loops", "reachFrom", "(ILMovedFolders$Moves;LMovedFolders$Moves;)V"⟩, 2)]
theorem lw_r1 : ∀ q ∈ lw_privs_1, lw_okq q := List.forall_mem_cons.mpr ⟨lw_p0, List.forall_mem_cons.mpr ⟨lw_p1, List.forall_mem_cons.mpr ⟨lw_p2, List.forall_mem_cons.mpr ⟨lw_p3, List.forall_mem_cons.mpr ⟨lw_p4, List.forall_mem_cons.mpr ⟨lw_p5, List.forall_mem_cons.mpr ⟨lw_p6, List.forall_mem_cons.mpr ⟨lw_p7, List.forall_mem_cons.mpr ⟨lw_p8, List.forall_mem_cons.mpr ⟨lw_p9, List.forall_mem_cons.mpr ⟨lw_p10, List.forall_mem_cons.mpr ⟨lw_p11, List.forall_mem_cons.mpr ⟨lw_p12, List.forall_mem_cons.mpr ⟨lw_p13, List.forall_mem_cons.mpr ⟨lw_p14, List.forall_mem_cons.mpr ⟨lw_p15, fun _ h => absurd h List.not_mem_nil⟩⟩⟩⟩⟩⟩⟩⟩⟩⟩⟩⟩⟩⟩⟩⟩
theorem lw_p16 : lw_okq (⟨"MovedFolders$Loops", "add", "(I)V"⟩, 2) := ⟨⟨by decide +kernel, by decide +kernel⟩, List.mem_of_getElem? (i := 136) (by decide +kernel), List.mem_of_getElem? (i := 464) (by decide +kernel), List.mem_of_getElem? (i := 465) (by decide +kernel)⟩
theorem lw_p17 : lw_okq (⟨"MovedFolders$Loops", "isReached", "(I)Z"⟩, 2) := ⟨⟨by decide +kernel, by decide +kernel⟩, List.mem_of_getElem? (i := 136) (by decide +kernel), List.mem_of_getElem? (i := 468) (by decide +kernel), List.mem_of_getElem? (i := 469) (by decide +kernel)⟩
theorem lw_p18 : lw_okq (⟨"MovedFolders$Merge", "addOld", "(LMovedFolders$Held;LMovedFolders$Side;LMovedFolders$Side;I)V"⟩, 9) := ⟨⟨by decide +kernel, by decide +kernel⟩, List.mem_of_getElem? (i := 149) (by decide +kernel), List.mem_of_getElem? (i := 490) (by decide +kernel), List.mem_of_getElem? (i := 491) (by decide +kernel)⟩
theorem lw_p19 : lw_okq (⟨"MovedFolders$Merge", "add", "(IIII)V"⟩, 9) := ⟨⟨by decide +kernel, by decide +kernel⟩, List.mem_of_getElem? (i := 149) (by decide +kernel), List.mem_of_getElem? (i := 537) (by decide +kernel), List.mem_of_getElem? (i := 538) (by decide +kernel)⟩
theorem lw_p20 : lw_okq (⟨"MovedFolders$Merge", "isBehind", "(IIIII)Z"⟩, 9) := ⟨⟨by decide +kernel, by decide +kernel⟩, List.mem_of_getElem? (i := 149) (by decide +kernel), List.mem_of_getElem? (i := 541) (by decide +kernel), List.mem_of_getElem? (i := 542) (by decide +kernel)⟩
theorem lw_p21 : lw_okq (⟨"MovedFolders$Merge", "findGoals", "(LMovedFolders$Held;LMovedFolders$Side;LMovedFolders$Side;)V"⟩, 9) := ⟨⟨by decide +kernel, by decide +kernel⟩, List.mem_of_getElem? (i := 149) (by decide +kernel), List.mem_of_getElem? (i := 545) (by decide +kernel), List.mem_of_getElem? (i := 546) (by decide +kernel)⟩
theorem lw_p22 : lw_okq (⟨"MovedFolders$Merge", "addNewOfOne", "(LMovedFolders$Held;LMovedFolders$Side;LMovedFolders$Side;)V"⟩, 9) := ⟨⟨by decide +kernel, by decide +kernel⟩, List.mem_of_getElem? (i := 149) (by decide +kernel), List.mem_of_getElem? (i := 556) (by decide +kernel), List.mem_of_getElem? (i := 557) (by decide +kernel)⟩
theorem lw_p23 : lw_okq (⟨"MovedFolders$Merge", "takeSame", "(LMovedFolders$Tree;II)V"⟩, 9) := ⟨⟨by decide +kernel, by decide +kernel⟩, List.mem_of_getElem? (i := 149) (by decide +kernel), List.mem_of_getElem? (i := 560) (by decide +kernel), List.mem_of_getElem? (i := 561) (by decide +kernel)⟩
theorem lw_p24 : lw_okq (⟨"MovedFolders$Merge", "addNewOfTwo", "(LMovedFolders$Tree;)V"⟩, 9) := ⟨⟨by decide +kernel, by decide +kernel⟩, List.mem_of_getElem? (i := 149) (by decide +kernel), List.mem_of_getElem? (i := 564) (by decide +kernel), List.mem_of_getElem? (i := 565) (by decide +kernel)⟩
theorem lw_p25 : lw_okq (⟨"MovedFolders$Merge", "markMeetings", "()V"⟩, 9) := ⟨⟨by decide +kernel, by decide +kernel⟩, List.mem_of_getElem? (i := 149) (by decide +kernel), List.mem_of_getElem? (i := 568) (by decide +kernel), List.mem_of_getElem? (i := 569) (by decide +kernel)⟩
theorem lw_p26 : lw_okq (⟨"MovedFolders$Merge", "gatherClashes", "()V"⟩, 9) := ⟨⟨by decide +kernel, by decide +kernel⟩, List.mem_of_getElem? (i := 149) (by decide +kernel), List.mem_of_getElem? (i := 572) (by decide +kernel), List.mem_of_getElem? (i := 573) (by decide +kernel)⟩
theorem lw_p27 : lw_okq (⟨"MovedFolders", "sideOf", "(I)LMovedFolders$Side;"⟩, 10) := ⟨⟨by decide +kernel, by decide +kernel⟩, List.mem_of_getElem? (i := 16) (by decide +kernel), List.mem_of_getElem? (i := 576) (by decide +kernel), List.mem_of_getElem? (i := 577) (by decide +kernel)⟩
theorem lw_p28 : lw_okq (⟨"MovedFolders", "imageOf", "(I)LMovedFolders$Held;"⟩, 10) := ⟨⟨by decide +kernel, by decide +kernel⟩, List.mem_of_getElem? (i := 16) (by decide +kernel), List.mem_of_getElem? (i := 657) (by decide +kernel), List.mem_of_getElem? (i := 658) (by decide +kernel)⟩
theorem lw_p29 : lw_okq (⟨"MovedFoldersModel", "goOn", "(II)I"⟩, 27) := ⟨⟨by decide +kernel, by decide +kernel⟩, List.mem_of_getElem? (i := 684) (by decide +kernel), List.mem_of_getElem? (i := 789) (by decide +kernel), List.mem_of_getElem? (i := 790) (by decide +kernel)⟩
theorem lw_p30 : lw_okq (⟨"MovedFoldersModel", "placeOf", "(II)I"⟩, 27) := ⟨⟨by decide +kernel, by decide +kernel⟩, List.mem_of_getElem? (i := 684) (by decide +kernel), List.mem_of_getElem? (i := 811) (by decide +kernel), List.mem_of_getElem? (i := 812) (by decide +kernel)⟩
theorem lw_p31 : lw_okq (⟨"MovedFoldersModel", "layAt", "(IIII)V"⟩, 27) := ⟨⟨by decide +kernel, by decide +kernel⟩, List.mem_of_getElem? (i := 684) (by decide +kernel), List.mem_of_getElem? (i := 815) (by decide +kernel), List.mem_of_getElem? (i := 816) (by decide +kernel)⟩
def lw_privs_2 : List (MethodName × Nat) := [(⟨"MovedFolders$Loops", "add", "(I)V"⟩, 2), (⟨"MovedFolders$Loops", "isReached", "(I)Z"⟩, 2), (⟨"MovedFolders$Merge", "addOld", "(LMovedFolders$Held;LMovedFolders$Side;LMovedFolders$Side;I)V"⟩, 9), (⟨"MovedFolders$Merge", "add", "(IIII)V"⟩, 9), (⟨"MovedFolders$Merge", "isBehind", "(IIIII)Z"⟩, 9), (⟨"MovedFolders$Merge", "findGoals", "(LMovedFolders$Held;LMovedFolders$Side;LMovedFolders$Side;)V"⟩, 9), (⟨"MovedFolders$Merge", "addNewOfOne", "(LMovedFolders$Held;LMovedFolders$Side;LMovedFolders$Side;)V"⟩, 9), (⟨"MovedFolders$Merge", "takeSame", "(LMovedFolders$Tree;II)V"⟩, 9), (⟨"MovedFolders$Merge", "addNewOfTwo", "(LMovedFolders$Tree;)V"⟩, 9), (⟨"MovedFolders$Merge", "markMeetings", "()V"⟩, 9), (⟨"MovedFolders$Merge", "gatherClashes", "()V"⟩, 9), (⟨"MovedFolders", "sideOf", "(I)LMovedFolders$Side;"⟩, 10), (⟨"MovedFolders", "imageOf", "(I)LMovedFolders$Held;"⟩, 10), (⟨"MovedFoldersModel", "goOn", "(II)I"⟩, 27), (⟨"MovedFoldersModel", "placeOf", "(II)I"⟩, 27), (⟨"MovedFoldersModel", "layAt", "(IIII)V"⟩, 27)]
theorem lw_r2 : ∀ q ∈ lw_privs_2, lw_okq q := List.forall_mem_cons.mpr ⟨lw_p16, List.forall_mem_cons.mpr ⟨lw_p17, List.forall_mem_cons.mpr ⟨lw_p18, List.forall_mem_cons.mpr ⟨lw_p19, List.forall_mem_cons.mpr ⟨lw_p20, List.forall_mem_cons.mpr ⟨lw_p21, List.forall_mem_cons.mpr ⟨lw_p22, List.forall_mem_cons.mpr ⟨lw_p23, List.forall_mem_cons.mpr ⟨lw_p24, List.forall_mem_cons.mpr ⟨lw_p25, List.forall_mem_cons.mpr ⟨lw_p26, List.forall_mem_cons.mpr ⟨lw_p27, List.forall_mem_cons.mpr ⟨lw_p28, List.forall_mem_cons.mpr ⟨lw_p29, List.forall_mem_cons.mpr ⟨lw_p30, List.forall_mem_cons.mpr ⟨lw_p31, fun _ h => absurd h List.not_mem_nil⟩⟩⟩⟩⟩⟩⟩⟩⟩⟩⟩⟩⟩⟩⟩⟩
theorem lw_p32 : lw_okq (⟨"MovedFoldersModel", "isFile", "(II)Z"⟩, 27) := ⟨⟨by decide +kernel, by decide +kernel⟩, List.mem_of_getElem? (i := 684) (by decide +kernel), List.mem_of_getElem? (i := 823) (by decide +kernel), List.mem_of_getElem? (i := 824) (by decide +kernel)⟩
theorem lw_p33 : lw_okq (⟨"MovedFoldersModel", "contentAt", "(II)I"⟩, 27) := ⟨⟨by decide +kernel, by decide +kernel⟩, List.mem_of_getElem? (i := 684) (by decide +kernel), List.mem_of_getElem? (i := 831) (by decide +kernel), List.mem_of_getElem? (i := 832) (by decide +kernel)⟩
theorem lw_p34 : lw_okq (⟨"MovedFoldersModel", "findPairs", "(I)V"⟩, 27) := ⟨⟨by decide +kernel, by decide +kernel⟩, List.mem_of_getElem? (i := 684) (by decide +kernel), List.mem_of_getElem? (i := 870) (by decide +kernel), List.mem_of_getElem? (i := 871) (by decide +kernel)⟩
theorem lw_p35 : lw_okq (⟨"MovedFoldersModel", "join", "(IIII)V"⟩, 27) := ⟨⟨by decide +kernel, by decide +kernel⟩, List.mem_of_getElem? (i := 684) (by decide +kernel), List.mem_of_getElem? (i := 874) (by decide +kernel), List.mem_of_getElem? (i := 875) (by decide +kernel)⟩
theorem lw_p36 : lw_okq (⟨"MovedFoldersModel", "isJoined", "(II)Z"⟩, 27) := ⟨⟨by decide +kernel, by decide +kernel⟩, List.mem_of_getElem? (i := 684) (by decide +kernel), List.mem_of_getElem? (i := 878) (by decide +kernel), List.mem_of_getElem? (i := 879) (by decide +kernel)⟩
theorem lw_p37 : lw_okq (⟨"MovedFoldersModel", "closeness", "(IIII)I"⟩, 27) := ⟨⟨by decide +kernel, by decide +kernel⟩, List.mem_of_getElem? (i := 684) (by decide +kernel), List.mem_of_getElem? (i := 882) (by decide +kernel), List.mem_of_getElem? (i := 883) (by decide +kernel)⟩
theorem lw_p38 : lw_okq (⟨"MovedFoldersModel", "isLeft", "(III)Z"⟩, 27) := ⟨⟨by decide +kernel, by decide +kernel⟩, List.mem_of_getElem? (i := 684) (by decide +kernel), List.mem_of_getElem? (i := 886) (by decide +kernel), List.mem_of_getElem? (i := 887) (by decide +kernel)⟩
theorem lw_p39 : lw_okq (⟨"MovedFoldersModel", "nameAt", "(II)I"⟩, 27) := ⟨⟨by decide +kernel, by decide +kernel⟩, List.mem_of_getElem? (i := 684) (by decide +kernel), List.mem_of_getElem? (i := 890) (by decide +kernel), List.mem_of_getElem? (i := 891) (by decide +kernel)⟩
theorem lw_p40 : lw_okq (⟨"MovedFoldersModel", "votesOf", "(III)I"⟩, 27) := ⟨⟨by decide +kernel, by decide +kernel⟩, List.mem_of_getElem? (i := 684) (by decide +kernel), List.mem_of_getElem? (i := 906) (by decide +kernel), List.mem_of_getElem? (i := 907) (by decide +kernel)⟩
theorem lw_p41 : lw_okq (⟨"MovedFoldersModel", "folderAt", "(II)I"⟩, 27) := ⟨⟨by decide +kernel, by decide +kernel⟩, List.mem_of_getElem? (i := 684) (by decide +kernel), List.mem_of_getElem? (i := 910) (by decide +kernel), List.mem_of_getElem? (i := 911) (by decide +kernel)⟩
theorem lw_p42 : lw_okq (⟨"MovedFoldersModel", "findBoth", "()V"⟩, 27) := ⟨⟨by decide +kernel, by decide +kernel⟩, List.mem_of_getElem? (i := 684) (by decide +kernel), List.mem_of_getElem? (i := 918) (by decide +kernel), List.mem_of_getElem? (i := 919) (by decide +kernel)⟩
theorem lw_p43 : lw_okq (⟨"MovedFoldersModel", "findMoves", "(I)V"⟩, 27) := ⟨⟨by decide +kernel, by decide +kernel⟩, List.mem_of_getElem? (i := 684) (by decide +kernel), List.mem_of_getElem? (i := 922) (by decide +kernel), List.mem_of_getElem? (i := 923) (by decide +kernel)⟩
theorem lw_p44 : lw_okq (⟨"MovedFoldersModel", "liesIn", "(II)Z"⟩, 27) := ⟨⟨by decide +kernel, by decide +kernel⟩, List.mem_of_getElem? (i := 684) (by decide +kernel), List.mem_of_getElem? (i := 926) (by decide +kernel), List.mem_of_getElem? (i := 927) (by decide +kernel)⟩
theorem lw_p45 : lw_okq (⟨"MovedFoldersModel", "movedOf", "(II)I"⟩, 27) := ⟨⟨by decide +kernel, by decide +kernel⟩, List.mem_of_getElem? (i := 684) (by decide +kernel), List.mem_of_getElem? (i := 930) (by decide +kernel), List.mem_of_getElem? (i := 931) (by decide +kernel)⟩
theorem lw_p46 : lw_okq (⟨"MovedFoldersModel", "isLoop", "(II)Z"⟩, 27) := ⟨⟨by decide +kernel, by decide +kernel⟩, List.mem_of_getElem? (i := 684) (by decide +kernel), List.mem_of_getElem? (i := 934) (by decide +kernel), List.mem_of_getElem? (i := 935) (by decide +kernel)⟩
theorem lw_p47 : lw_okq (⟨"MovedFoldersModel", "isStep", "(II)Z"⟩, 27) := ⟨⟨by decide +kernel, by decide +kernel⟩, List.mem_of_getElem? (i := 684) (by decide +kernel), List.mem_of_getElem? (i := 938) (by decide +kernel), List.mem_of_getElem? (i := 939) (by decide +kernel)⟩
def lw_privs_3 : List (MethodName × Nat) := [(⟨"MovedFoldersModel", "isFile", "(II)Z"⟩, 27), (⟨"MovedFoldersModel", "contentAt", "(II)I"⟩, 27), (⟨"MovedFoldersModel", "findPairs", "(I)V"⟩, 27), (⟨"MovedFoldersModel", "join", "(IIII)V"⟩, 27), (⟨"MovedFoldersModel", "isJoined", "(II)Z"⟩, 27), (⟨"MovedFoldersModel", "closeness", "(IIII)I"⟩, 27), (⟨"MovedFoldersModel", "isLeft", "(III)Z"⟩, 27), (⟨"MovedFoldersModel", "nameAt", "(II)I"⟩, 27), (⟨"MovedFoldersModel", "votesOf", "(III)I"⟩, 27), (⟨"MovedFoldersModel", "folderAt", "(II)I"⟩, 27), (⟨"MovedFoldersModel", "findBoth", "()V"⟩, 27), (⟨"MovedFoldersModel", "findMoves", "(I)V"⟩, 27), (⟨"MovedFoldersModel", "liesIn", "(II)Z"⟩, 27), (⟨"MovedFoldersModel", "movedOf", "(II)I"⟩, 27), (⟨"MovedFoldersModel", "isLoop", "(II)Z"⟩, 27), (⟨"MovedFoldersModel", "isStep", "(II)Z"⟩, 27)]
theorem lw_r3 : ∀ q ∈ lw_privs_3, lw_okq q := List.forall_mem_cons.mpr ⟨lw_p32, List.forall_mem_cons.mpr ⟨lw_p33, List.forall_mem_cons.mpr ⟨lw_p34, List.forall_mem_cons.mpr ⟨lw_p35, List.forall_mem_cons.mpr ⟨lw_p36, List.forall_mem_cons.mpr ⟨lw_p37, List.forall_mem_cons.mpr ⟨lw_p38, List.forall_mem_cons.mpr ⟨lw_p39, List.forall_mem_cons.mpr ⟨lw_p40, List.forall_mem_cons.mpr ⟨lw_p41, List.forall_mem_cons.mpr ⟨lw_p42, List.forall_mem_cons.mpr ⟨lw_p43, List.forall_mem_cons.mpr ⟨lw_p44, List.forall_mem_cons.mpr ⟨lw_p45, List.forall_mem_cons.mpr ⟨lw_p46, List.forall_mem_cons.mpr ⟨lw_p47, fun _ h => absurd h List.not_mem_nil⟩⟩⟩⟩⟩⟩⟩⟩⟩⟩⟩⟩⟩⟩⟩⟩
theorem lw_p48 : lw_okq (⟨"MovedFoldersModel", "destOf", "(II)I"⟩, 27) := ⟨⟨by decide +kernel, by decide +kernel⟩, List.mem_of_getElem? (i := 684) (by decide +kernel), List.mem_of_getElem? (i := 946) (by decide +kernel), List.mem_of_getElem? (i := 947) (by decide +kernel)⟩
theorem lw_p49 : lw_okq (⟨"MovedFoldersModel", "merge", "()V"⟩, 27) := ⟨⟨by decide +kernel, by decide +kernel⟩, List.mem_of_getElem? (i := 684) (by decide +kernel), List.mem_of_getElem? (i := 967) (by decide +kernel), List.mem_of_getElem? (i := 968) (by decide +kernel)⟩
theorem lw_p50 : lw_okq (⟨"MovedFoldersModel", "mergeOld", "(I)V"⟩, 27) := ⟨⟨by decide +kernel, by decide +kernel⟩, List.mem_of_getElem? (i := 684) (by decide +kernel), List.mem_of_getElem? (i := 971) (by decide +kernel), List.mem_of_getElem? (i := 972) (by decide +kernel)⟩
theorem lw_p51 : lw_okq (⟨"MovedFoldersModel", "isAsBase", "(II)Z"⟩, 27) := ⟨⟨by decide +kernel, by decide +kernel⟩, List.mem_of_getElem? (i := 684) (by decide +kernel), List.mem_of_getElem? (i := 975) (by decide +kernel), List.mem_of_getElem? (i := 976) (by decide +kernel)⟩
theorem lw_p52 : lw_okq (⟨"MovedFoldersModel", "pathOn", "(II)I"⟩, 27) := ⟨⟨by decide +kernel, by decide +kernel⟩, List.mem_of_getElem? (i := 684) (by decide +kernel), List.mem_of_getElem? (i := 979) (by decide +kernel), List.mem_of_getElem? (i := 980) (by decide +kernel)⟩
theorem lw_p53 : lw_okq (⟨"MovedFoldersModel", "folderOf", "(III)I"⟩, 27) := ⟨⟨by decide +kernel, by decide +kernel⟩, List.mem_of_getElem? (i := 684) (by decide +kernel), List.mem_of_getElem? (i := 983) (by decide +kernel), List.mem_of_getElem? (i := 984) (by decide +kernel)⟩
theorem lw_p54 : lw_okq (⟨"MovedFoldersModel", "oneOf", "(IIII)I"⟩, 27) := ⟨⟨by decide +kernel, by decide +kernel⟩, List.mem_of_getElem? (i := 684) (by decide +kernel), List.mem_of_getElem? (i := 987) (by decide +kernel), List.mem_of_getElem? (i := 988) (by decide +kernel)⟩
theorem lw_p55 : lw_okq (⟨"MovedFoldersModel", "contentOn", "(II)I"⟩, 27) := ⟨⟨by decide +kernel, by decide +kernel⟩, List.mem_of_getElem? (i := 684) (by decide +kernel), List.mem_of_getElem? (i := 991) (by decide +kernel), List.mem_of_getElem? (i := 992) (by decide +kernel)⟩
theorem lw_p56 : lw_okq (⟨"MovedFoldersModel", "contentOf", "(III)I"⟩, 27) := ⟨⟨by decide +kernel, by decide +kernel⟩, List.mem_of_getElem? (i := 684) (by decide +kernel), List.mem_of_getElem? (i := 995) (by decide +kernel), List.mem_of_getElem? (i := 996) (by decide +kernel)⟩
theorem lw_p57 : lw_okq (⟨"MovedFoldersModel", "addEntry", "(IIII)V"⟩, 27) := ⟨⟨by decide +kernel, by decide +kernel⟩, List.mem_of_getElem? (i := 684) (by decide +kernel), List.mem_of_getElem? (i := 999) (by decide +kernel), List.mem_of_getElem? (i := 1000) (by decide +kernel)⟩
theorem lw_p58 : lw_okq (⟨"MovedFoldersModel", "mergeNew", "()V"⟩, 27) := ⟨⟨by decide +kernel, by decide +kernel⟩, List.mem_of_getElem? (i := 684) (by decide +kernel), List.mem_of_getElem? (i := 1003) (by decide +kernel), List.mem_of_getElem? (i := 1004) (by decide +kernel)⟩
theorem lw_p59 : lw_okq (⟨"MovedFoldersModel", "newPath", "(II)I"⟩, 27) := ⟨⟨by decide +kernel, by decide +kernel⟩, List.mem_of_getElem? (i := 684) (by decide +kernel), List.mem_of_getElem? (i := 1007) (by decide +kernel), List.mem_of_getElem? (i := 1008) (by decide +kernel)⟩
theorem lw_p60 : lw_okq (⟨"MovedFoldersModel", "twinOf", "(II)I"⟩, 27) := ⟨⟨by decide +kernel, by decide +kernel⟩, List.mem_of_getElem? (i := 684) (by decide +kernel), List.mem_of_getElem? (i := 1011) (by decide +kernel), List.mem_of_getElem? (i := 1012) (by decide +kernel)⟩
theorem lw_p61 : lw_okq (⟨"MovedFoldersModel", "meetAll", "()V"⟩, 27) := ⟨⟨by decide +kernel, by decide +kernel⟩, List.mem_of_getElem? (i := 684) (by decide +kernel), List.mem_of_getElem? (i := 1015) (by decide +kernel), List.mem_of_getElem? (i := 1016) (by decide +kernel)⟩
theorem lw_p62 : lw_okq (⟨"MovedFoldersModel", "sortAll", "()V"⟩, 27) := ⟨⟨by decide +kernel, by decide +kernel⟩, List.mem_of_getElem? (i := 684) (by decide +kernel), List.mem_of_getElem? (i := 1019) (by decide +kernel), List.mem_of_getElem? (i := 1020) (by decide +kernel)⟩
theorem lw_p63 : lw_okq (⟨"MovedFoldersModel", "isBefore", "(II)Z"⟩, 27) := ⟨⟨by decide +kernel, by decide +kernel⟩, List.mem_of_getElem? (i := 684) (by decide +kernel), List.mem_of_getElem? (i := 1023) (by decide +kernel), List.mem_of_getElem? (i := 1024) (by decide +kernel)⟩
def lw_privs_4 : List (MethodName × Nat) := [(⟨"MovedFoldersModel", "destOf", "(II)I"⟩, 27), (⟨"MovedFoldersModel", "merge", "()V"⟩, 27), (⟨"MovedFoldersModel", "mergeOld", "(I)V"⟩, 27), (⟨"MovedFoldersModel", "isAsBase", "(II)Z"⟩, 27), (⟨"MovedFoldersModel", "pathOn", "(II)I"⟩, 27), (⟨"MovedFoldersModel", "folderOf", "(III)I"⟩, 27), (⟨"MovedFoldersModel", "oneOf", "(IIII)I"⟩, 27), (⟨"MovedFoldersModel", "contentOn", "(II)I"⟩, 27), (⟨"MovedFoldersModel", "contentOf", "(III)I"⟩, 27), (⟨"MovedFoldersModel", "addEntry", "(IIII)V"⟩, 27), (⟨"MovedFoldersModel", "mergeNew", "()V"⟩, 27), (⟨"MovedFoldersModel", "newPath", "(II)I"⟩, 27), (⟨"MovedFoldersModel", "twinOf", "(II)I"⟩, 27), (⟨"MovedFoldersModel", "meetAll", "()V"⟩, 27), (⟨"MovedFoldersModel", "sortAll", "()V"⟩, 27), (⟨"MovedFoldersModel", "isBefore", "(II)Z"⟩, 27)]
theorem lw_r4 : ∀ q ∈ lw_privs_4, lw_okq q := List.forall_mem_cons.mpr ⟨lw_p48, List.forall_mem_cons.mpr ⟨lw_p49, List.forall_mem_cons.mpr ⟨lw_p50, List.forall_mem_cons.mpr ⟨lw_p51, List.forall_mem_cons.mpr ⟨lw_p52, List.forall_mem_cons.mpr ⟨lw_p53, List.forall_mem_cons.mpr ⟨lw_p54, List.forall_mem_cons.mpr ⟨lw_p55, List.forall_mem_cons.mpr ⟨lw_p56, List.forall_mem_cons.mpr ⟨lw_p57, List.forall_mem_cons.mpr ⟨lw_p58, List.forall_mem_cons.mpr ⟨lw_p59, List.forall_mem_cons.mpr ⟨lw_p60, List.forall_mem_cons.mpr ⟨lw_p61, List.forall_mem_cons.mpr ⟨lw_p62, List.forall_mem_cons.mpr ⟨lw_p63, fun _ h => absurd h List.not_mem_nil⟩⟩⟩⟩⟩⟩⟩⟩⟩⟩⟩⟩⟩⟩⟩⟩
theorem lw_p64 : lw_okq (⟨"MovedFoldersModel", "causesAt", "(I)I"⟩, 27) := ⟨⟨by decide +kernel, by decide +kernel⟩, List.mem_of_getElem? (i := 684) (by decide +kernel), List.mem_of_getElem? (i := 1034) (by decide +kernel), List.mem_of_getElem? (i := 1035) (by decide +kernel)⟩
theorem lw_p65 : lw_okq (⟨"MovedFoldersModel", "passAll", "()V"⟩, 27) := ⟨⟨by decide +kernel, by decide +kernel⟩, List.mem_of_getElem? (i := 684) (by decide +kernel), List.mem_of_getElem? (i := 1051) (by decide +kernel), List.mem_of_getElem? (i := 1052) (by decide +kernel)⟩
theorem lw_p66 : lw_okq (⟨"MovedFoldersModel", "passRow", "([II)V"⟩, 27) := ⟨⟨by decide +kernel, by decide +kernel⟩, List.mem_of_getElem? (i := 684) (by decide +kernel), List.mem_of_getElem? (i := 1055) (by decide +kernel), List.mem_of_getElem? (i := 1056) (by decide +kernel)⟩
theorem lw_p67 : lw_okq (⟨"MovedFoldersModel", "toldOfSide", "(II)I"⟩, 27) := ⟨⟨by decide +kernel, by decide +kernel⟩, List.mem_of_getElem? (i := 684) (by decide +kernel), List.mem_of_getElem? (i := 1071) (by decide +kernel), List.mem_of_getElem? (i := 1072) (by decide +kernel)⟩
theorem lw_p68 : lw_okq (⟨"MovedFoldersModel", "lackingOf", "([III)I"⟩, 27) := ⟨⟨by decide +kernel, by decide +kernel⟩, List.mem_of_getElem? (i := 684) (by decide +kernel), List.mem_of_getElem? (i := 1075) (by decide +kernel), List.mem_of_getElem? (i := 1076) (by decide +kernel)⟩
theorem lw_p69 : lw_okq (⟨"MovedFoldersModel", "movedMany", "(I)I"⟩, 27) := ⟨⟨by decide +kernel, by decide +kernel⟩, List.mem_of_getElem? (i := 684) (by decide +kernel), List.mem_of_getElem? (i := 1079) (by decide +kernel), List.mem_of_getElem? (i := 1080) (by decide +kernel)⟩
def lw_privs_5 : List (MethodName × Nat) := [(⟨"MovedFoldersModel", "causesAt", "(I)I"⟩, 27), (⟨"MovedFoldersModel", "passAll", "()V"⟩, 27), (⟨"MovedFoldersModel", "passRow", "([II)V"⟩, 27), (⟨"MovedFoldersModel", "toldOfSide", "(II)I"⟩, 27), (⟨"MovedFoldersModel", "lackingOf", "([III)I"⟩, 27), (⟨"MovedFoldersModel", "movedMany", "(I)I"⟩, 27)]
theorem lw_r5 : ∀ q ∈ lw_privs_5, lw_okq q := List.forall_mem_cons.mpr ⟨lw_p64, List.forall_mem_cons.mpr ⟨lw_p65, List.forall_mem_cons.mpr ⟨lw_p66, List.forall_mem_cons.mpr ⟨lw_p67, List.forall_mem_cons.mpr ⟨lw_p68, List.forall_mem_cons.mpr ⟨lw_p69, fun _ h => absurd h List.not_mem_nil⟩⟩⟩⟩⟩⟩
def lw_privs : List (MethodName × Nat) := lw_privs_1 ++ (lw_privs_2 ++ (lw_privs_3 ++ (lw_privs_4 ++ (lw_privs_5))))
def lw_tbl : List Cond := k2_sels lw_privs ++ tables_1
theorem lw_privs_ok : ∀ q ∈ lw_privs, lw_okq q := by
  show ∀ q ∈ lw_privs_1 ++ (lw_privs_2 ++ (lw_privs_3 ++ (lw_privs_4 ++ (lw_privs_5)))), lw_okq q
  exact List.forall_mem_append.mpr ⟨lw_r1, List.forall_mem_append.mpr ⟨lw_r2, List.forall_mem_append.mpr ⟨lw_r3, List.forall_mem_append.mpr ⟨lw_r4, lw_r5⟩⟩⟩⟩
-- classes: names, fields in the order of the slots, types
def R_Held : String := "MovedFolders$Held"
def T_Held : u_T := fun k => match k with
  | 0 => ("MovedFolders$Held", "base", "LMovedFolders$Tree;", true)
  | 1 => ("MovedFolders$Held", "one", "LMovedFolders$Tree;", false)
  | 2 => ("MovedFolders$Held", "two", "LMovedFolders$Tree;", false)
  | _ => ("MovedFolders$Held", "least", "I", false)
def ty_Held : Nat → FieldType := fun k => match k with
  | 0 => (.object "MovedFolders$Tree")
  | 1 => (.object "MovedFolders$Tree")
  | 2 => (.object "MovedFolders$Tree")
  | _ => .int
theorem nm_Held : ∀ a, a < 4 → ∀ b, b < 4 → a ≠ b → (T_Held a).2.1 ≠ (T_Held b).2.1 := by decide +kernel
theorem ty_Held_ok : ∀ k, k < 4 → parseFieldDescriptor (T_Held k).2.2.1 = some (ty_Held k) := by decide +kernel
theorem wi_Held : ∀ w ∈ u_ws R_Held T_Held 4, w ∈ lw_tbl := by
  have h : u_ws R_Held T_Held 4 = [140, 142, 144, 146].filterMap (fun i => lw_tbl[i]?) := by decide +kernel
  intro w hw
  rw [h] at hw
  obtain ⟨i, -, hi⟩ := List.mem_filterMap.mp hw
  exact List.mem_of_getElem? hi
def R_Loops : String := "MovedFolders$Loops"
def T_Loops : u_T := fun k => match k with
  | 0 => ("MovedFolders$Loops", "reached", "[I", true)
  | _ => ("MovedFolders$Loops", "count", "I", false)
def ty_Loops : Nat → FieldType := fun k => match k with
  | 0 => (.array .int)
  | _ => .int
theorem nm_Loops : ∀ a, a < 2 → ∀ b, b < 2 → a ≠ b → (T_Loops a).2.1 ≠ (T_Loops b).2.1 := by decide +kernel
theorem ty_Loops_ok : ∀ k, k < 2 → parseFieldDescriptor (T_Loops k).2.2.1 = some (ty_Loops k) := by decide +kernel
theorem wi_Loops : ∀ w ∈ u_ws R_Loops T_Loops 2, w ∈ lw_tbl := by
  have h : u_ws R_Loops T_Loops 2 = [213, 215].filterMap (fun i => lw_tbl[i]?) := by decide +kernel
  intro w hw
  rw [h] at hw
  obtain ⟨i, -, hi⟩ := List.mem_filterMap.mp hw
  exact List.mem_of_getElem? hi
def R_Merge : String := "MovedFolders$Merge"
def T_Merge : u_T := fun k => match k with
  | 0 => ("MovedFolders$Merge", "paths", "[I", true)
  | 1 => ("MovedFolders$Merge", "contents", "[I", true)
  | 2 => ("MovedFolders$Merge", "causes", "[I", true)
  | 3 => ("MovedFolders$Merge", "sources", "[I", true)
  | 4 => ("MovedFolders$Merge", "count", "I", false)
  | 5 => ("MovedFolders$Merge", "clashPaths", "[I", true)
  | 6 => ("MovedFolders$Merge", "clashCauses", "[I", true)
  | 7 => ("MovedFolders$Merge", "clashCount", "I", false)
  | _ => ("MovedFolders$Merge", "goals", "[I", true)
def ty_Merge : Nat → FieldType := fun k => match k with
  | 0 => (.array .int)
  | 1 => (.array .int)
  | 2 => (.array .int)
  | 3 => (.array .int)
  | 4 => .int
  | 5 => (.array .int)
  | 6 => (.array .int)
  | 7 => .int
  | _ => (.array .int)
theorem nm_Merge : ∀ a, a < 9 → ∀ b, b < 9 → a ≠ b → (T_Merge a).2.1 ≠ (T_Merge b).2.1 := by decide +kernel
theorem ty_Merge_ok : ∀ k, k < 9 → parseFieldDescriptor (T_Merge k).2.2.1 = some (ty_Merge k) := by decide +kernel
theorem wi_Merge : ∀ w ∈ u_ws R_Merge T_Merge 9, w ∈ lw_tbl := by
  have h : u_ws R_Merge T_Merge 9 = [233, 235, 237, 239, 241, 243, 245, 247, 249].filterMap (fun i => lw_tbl[i]?) := by decide +kernel
  intro w hw
  rw [h] at hw
  obtain ⟨i, -, hi⟩ := List.mem_filterMap.mp hw
  exact List.mem_of_getElem? hi
def R_Moves : String := "MovedFolders$Moves"
def T_Moves : u_T := fun k => match k with
  | 0 => ("MovedFolders$Moves", "starts", "[I", true)
  | 1 => ("MovedFolders$Moves", "targets", "[I", true)
  | 2 => ("MovedFolders$Moves", "round", "[Z", true)
  | _ => ("MovedFolders$Moves", "count", "I", false)
def ty_Moves : Nat → FieldType := fun k => match k with
  | 0 => (.array .int)
  | 1 => (.array .int)
  | 2 => (.array .boolean)
  | _ => .int
theorem nm_Moves : ∀ a, a < 4 → ∀ b, b < 4 → a ≠ b → (T_Moves a).2.1 ≠ (T_Moves b).2.1 := by decide +kernel
theorem ty_Moves_ok : ∀ k, k < 4 → parseFieldDescriptor (T_Moves k).2.2.1 = some (ty_Moves k) := by decide +kernel
theorem wi_Moves : ∀ w ∈ u_ws R_Moves T_Moves 4, w ∈ lw_tbl := by
  have h : u_ws R_Moves T_Moves 4 = [185, 187, 189, 191].filterMap (fun i => lw_tbl[i]?) := by decide +kernel
  intro w hw
  rw [h] at hw
  obtain ⟨i, -, hi⟩ := List.mem_filterMap.mp hw
  exact List.mem_of_getElem? hi
def R_Pad : String := "MovedFolders$Pad"
def T_Pad : u_T := fun k => match k with
  | 0 => ("MovedFolders$Pad", "signs", "[I", true)
  | _ => ("MovedFolders$Pad", "count", "I", false)
def ty_Pad : Nat → FieldType := fun k => match k with
  | 0 => (.array .int)
  | _ => .int
theorem nm_Pad : ∀ a, a < 2 → ∀ b, b < 2 → a ≠ b → (T_Pad a).2.1 ≠ (T_Pad b).2.1 := by decide +kernel
theorem ty_Pad_ok : ∀ k, k < 2 → parseFieldDescriptor (T_Pad k).2.2.1 = some (ty_Pad k) := by decide +kernel
theorem wi_Pad : ∀ w ∈ u_ws R_Pad T_Pad 2, w ∈ lw_tbl := by
  have h : u_ws R_Pad T_Pad 2 = [101, 103].filterMap (fun i => lw_tbl[i]?) := by decide +kernel
  intro w hw
  rw [h] at hw
  obtain ⟨i, -, hi⟩ := List.mem_filterMap.mp hw
  exact List.mem_of_getElem? hi
def R_Pairs : String := "MovedFolders$Pairs"
def T_Pairs : u_T := fun k => match k with
  | 0 => ("MovedFolders$Pairs", "mates", "[I", true)
  | 1 => ("MovedFolders$Pairs", "ways", "[I", true)
  | 2 => ("MovedFolders$Pairs", "sources", "[I", true)
  | _ => ("MovedFolders$Pairs", "ranks", "[I", true)
def ty_Pairs : Nat → FieldType := fun k => match k with
  | 0 => (.array .int)
  | 1 => (.array .int)
  | 2 => (.array .int)
  | _ => (.array .int)
theorem nm_Pairs : ∀ a, a < 4 → ∀ b, b < 4 → a ≠ b → (T_Pairs a).2.1 ≠ (T_Pairs b).2.1 := by decide +kernel
theorem ty_Pairs_ok : ∀ k, k < 4 → parseFieldDescriptor (T_Pairs k).2.2.1 = some (ty_Pairs k) := by decide +kernel
theorem wi_Pairs : ∀ w ∈ u_ws R_Pairs T_Pairs 4, w ∈ lw_tbl := by
  have h : u_ws R_Pairs T_Pairs 4 = [165, 167, 169, 171].filterMap (fun i => lw_tbl[i]?) := by decide +kernel
  intro w hw
  rw [h] at hw
  obtain ⟨i, -, hi⟩ := List.mem_filterMap.mp hw
  exact List.mem_of_getElem? hi
def R_Side : String := "MovedFolders$Side"
def T_Side : u_T := fun k => match k with
  | 0 => ("MovedFolders$Side", "pairs", "LMovedFolders$Pairs;", true)
  | _ => ("MovedFolders$Side", "moves", "LMovedFolders$Moves;", true)
def ty_Side : Nat → FieldType := fun k => match k with
  | 0 => (.object "MovedFolders$Pairs")
  | _ => (.object "MovedFolders$Moves")
theorem nm_Side : ∀ a, a < 2 → ∀ b, b < 2 → a ≠ b → (T_Side a).2.1 ≠ (T_Side b).2.1 := by decide +kernel
theorem ty_Side_ok : ∀ k, k < 2 → parseFieldDescriptor (T_Side k).2.2.1 = some (ty_Side k) := by decide +kernel
theorem wi_Side : ∀ w ∈ u_ws R_Side T_Side 2, w ∈ lw_tbl := by
  have h : u_ws R_Side T_Side 2 = [200, 202].filterMap (fun i => lw_tbl[i]?) := by decide +kernel
  intro w hw
  rw [h] at hw
  obtain ⟨i, -, hi⟩ := List.mem_filterMap.mp hw
  exact List.mem_of_getElem? hi
def R_Tree : String := "MovedFolders$Tree"
def T_Tree : u_T := fun k => match k with
  | 0 => ("MovedFolders$Tree", "paths", "[I", true)
  | 1 => ("MovedFolders$Tree", "contents", "[I", true)
  | _ => ("MovedFolders$Tree", "count", "I", false)
def ty_Tree : Nat → FieldType := fun k => match k with
  | 0 => (.array .int)
  | 1 => (.array .int)
  | _ => .int
theorem nm_Tree : ∀ a, a < 3 → ∀ b, b < 3 → a ≠ b → (T_Tree a).2.1 ≠ (T_Tree b).2.1 := by decide +kernel
theorem ty_Tree_ok : ∀ k, k < 3 → parseFieldDescriptor (T_Tree k).2.2.1 = some (ty_Tree k) := by decide +kernel
theorem wi_Tree : ∀ w ∈ u_ws R_Tree T_Tree 3, w ∈ lw_tbl := by
  have h : u_ws R_Tree T_Tree 3 = [122, 124, 126].filterMap (fun i => lw_tbl[i]?) := by decide +kernel
  intro w hw
  rw [h] at hw
  obtain ⟨i, -, hi⟩ := List.mem_filterMap.mp hw
  exact List.mem_of_getElem? hi
def R_MF : String := "MovedFolders"
def T_MF : u_T := fun k => match k with
  | 0 => ("MovedFolders", "pad", "LMovedFolders$Pad;", true)
  | 1 => ("MovedFolders", "held", "LMovedFolders$Held;", true)
  | 2 => ("MovedFolders", "imageZero", "LMovedFolders$Held;", true)
  | 3 => ("MovedFolders", "imageOne", "LMovedFolders$Held;", true)
  | 4 => ("MovedFolders", "kept", "[Z", true)
  | 5 => ("MovedFolders", "sideOne", "LMovedFolders$Side;", true)
  | 6 => ("MovedFolders", "sideTwo", "LMovedFolders$Side;", true)
  | 7 => ("MovedFolders", "loops", "LMovedFolders$Loops;", true)
  | 8 => ("MovedFolders", "merge", "LMovedFolders$Merge;", true)
  | _ => ("MovedFolders", "fresh", "Z", false)
def ty_MF : Nat → FieldType := fun k => match k with
  | 0 => (.object "MovedFolders$Pad")
  | 1 => (.object "MovedFolders$Held")
  | 2 => (.object "MovedFolders$Held")
  | 3 => (.object "MovedFolders$Held")
  | 4 => (.array .boolean)
  | 5 => (.object "MovedFolders$Side")
  | 6 => (.object "MovedFolders$Side")
  | 7 => (.object "MovedFolders$Loops")
  | 8 => (.object "MovedFolders$Merge")
  | _ => .boolean
theorem nm_MF : ∀ a, a < 10 → ∀ b, b < 10 → a ≠ b → (T_MF a).2.1 ≠ (T_MF b).2.1 := by decide +kernel
theorem ty_MF_ok : ∀ k, k < 10 → parseFieldDescriptor (T_MF k).2.2.1 = some (ty_MF k) := by decide +kernel
theorem wi_MF : ∀ w ∈ u_ws R_MF T_MF 10, w ∈ lw_tbl := by
  have h : u_ws R_MF T_MF 10 = [262, 264, 266, 268, 270, 272, 274, 276, 278, 280].filterMap (fun i => lw_tbl[i]?) := by decide +kernel
  intro w hw
  rw [h] at hw
  obtain ⟨i, -, hi⟩ := List.mem_filterMap.mp hw
  exact List.mem_of_getElem? hi
def R_Mo : String := "MovedFoldersModel"
def T_Mo : u_T := fun k => match k with
  | 0 => ("MovedFoldersModel", "paths", "[I", true)
  | 1 => ("MovedFoldersModel", "contents", "[I", true)
  | 2 => ("MovedFoldersModel", "many", "[I", true)
  | 3 => ("MovedFoldersModel", "limitNow", "I", false)
  | 4 => ("MovedFoldersModel", "pad", "[I", true)
  | 5 => ("MovedFoldersModel", "padMany", "I", false)
  | 6 => ("MovedFoldersModel", "readFolder", "I", false)
  | 7 => ("MovedFoldersModel", "readLetters", "I", false)
  | 8 => ("MovedFoldersModel", "readName", "I", false)
  | 9 => ("MovedFoldersModel", "readContent", "I", false)
  | 10 => ("MovedFoldersModel", "readPieces", "I", false)
  | 11 => ("MovedFoldersModel", "mate", "[I", true)
  | 12 => ("MovedFoldersModel", "how", "[I", true)
  | 13 => ("MovedFoldersModel", "origin", "[I", true)
  | 14 => ("MovedFoldersModel", "movedTo", "[I", true)
  | 15 => ("MovedFoldersModel", "met", "[Z", true)
  | 16 => ("MovedFoldersModel", "entryPath", "[I", true)
  | 17 => ("MovedFoldersModel", "entryContent", "[I", true)
  | 18 => ("MovedFoldersModel", "entryCauses", "[I", true)
  | 19 => ("MovedFoldersModel", "entryFrom", "[I", true)
  | 20 => ("MovedFoldersModel", "entries", "I", false)
  | 21 => ("MovedFoldersModel", "causes", "I", false)
  | 22 => ("MovedFoldersModel", "isUsed", "[Z", true)
  | 23 => ("MovedFoldersModel", "kept", "[I", true)
  | 24 => ("MovedFoldersModel", "isKept", "[Z", true)
  | 25 => ("MovedFoldersModel", "keptAt", "I", false)
  | _ => ("MovedFoldersModel", "isWriting", "Z", false)
def ty_Mo : Nat → FieldType := fun k => match k with
  | 0 => (.array .int)
  | 1 => (.array .int)
  | 2 => (.array .int)
  | 3 => .int
  | 4 => (.array .int)
  | 5 => .int
  | 6 => .int
  | 7 => .int
  | 8 => .int
  | 9 => .int
  | 10 => .int
  | 11 => (.array .int)
  | 12 => (.array .int)
  | 13 => (.array .int)
  | 14 => (.array .int)
  | 15 => (.array .boolean)
  | 16 => (.array .int)
  | 17 => (.array .int)
  | 18 => (.array .int)
  | 19 => (.array .int)
  | 20 => .int
  | 21 => .int
  | 22 => (.array .boolean)
  | 23 => (.array .int)
  | 24 => (.array .boolean)
  | 25 => .int
  | _ => .boolean
theorem nm_Mo : ∀ a, a < 27 → ∀ b, b < 27 → a ≠ b → (T_Mo a).2.1 ≠ (T_Mo b).2.1 := by decide +kernel
theorem ty_Mo_ok : ∀ k, k < 27 → parseFieldDescriptor (T_Mo k).2.2.1 = some (ty_Mo k) := by decide +kernel
theorem wi_Mo : ∀ w ∈ u_ws R_Mo T_Mo 27, w ∈ lw_tbl := by
  have h : u_ws R_Mo T_Mo 27 = [786, 788, 790, 792, 794, 796, 798, 800, 802, 804, 806, 808, 810, 812, 814, 816, 818, 820, 822, 824, 826, 828, 830, 832, 834, 836, 838].filterMap (fun i => lw_tbl[i]?) := by decide +kernel
  intro w hw
  rw [h] at hw
  obtain ⟨i, -, hi⟩ := List.mem_filterMap.mp hw
  exact List.mem_of_getElem? hi
abbrev vwCl : List vw_C := [(R_Held, T_Held, 4), (R_Loops, T_Loops, 2), (R_Merge, T_Merge, 9), (R_Moves, T_Moves, 4), (R_Pad, T_Pad, 2), (R_Pairs, T_Pairs, 4), (R_Side, T_Side, 2), (R_Tree, T_Tree, 3), (R_MF, T_MF, 10), (R_Mo, T_Mo, 27)]
-- methods
abbrev b_Held_init : ByteArray := prog_2_method_1_code
abbrev y_Held_init : MethodName := ⟨"MovedFolders$Held", "<init>", "()V"⟩
abbrev b_Held_take : ByteArray := prog_2_method_2_code
abbrev y_Held_take : MethodName := ⟨"MovedFolders$Held", "take", "(LMovedFolders$Held;)V"⟩
abbrev b_Letters_isFolder : ByteArray := prog_3_method_2_code
abbrev y_Letters_isFolder : MethodName := ⟨"MovedFolders$Letters", "isFolder", "(I)Z"⟩
abbrev b_Letters_folderOf : ByteArray := prog_3_method_3_code
abbrev y_Letters_folderOf : MethodName := ⟨"MovedFolders$Letters", "folderOf", "(I)I"⟩
abbrev b_Letters_nameOf : ByteArray := prog_3_method_4_code
abbrev y_Letters_nameOf : MethodName := ⟨"MovedFolders$Letters", "nameOf", "(I)I"⟩
abbrev b_Letters_lengthOf : ByteArray := prog_3_method_5_code
abbrev y_Letters_lengthOf : MethodName := ⟨"MovedFolders$Letters", "lengthOf", "(I)I"⟩
abbrev b_Letters_firstOf : ByteArray := prog_3_method_6_code
abbrev y_Letters_firstOf : MethodName := ⟨"MovedFolders$Letters", "firstOf", "(II)I"⟩
abbrev b_Letters_shift : ByteArray := prog_3_method_7_code
abbrev y_Letters_shift : MethodName := ⟨"MovedFolders$Letters", "shift", "(III)I"⟩
abbrev b_Loops_init : ByteArray := prog_4_method_1_code
abbrev y_Loops_init : MethodName := ⟨"MovedFolders$Loops", "<init>", "()V"⟩
abbrev b_Loops_mark : ByteArray := prog_4_method_2_code
abbrev y_Loops_mark : MethodName := ⟨"MovedFolders$Loops", "mark", "(LMovedFolders$Moves;LMovedFolders$Moves;)V"⟩
abbrev b_Loops_markThose : ByteArray := prog_4_method_3_code
abbrev y_Loops_markThose : MethodName := ⟨"MovedFolders$Loops", "markThose", "(LMovedFolders$Moves;LMovedFolders$Moves;LMovedFolders$Moves;)V"⟩
abbrev b_Loops_reachFrom : ByteArray := prog_4_method_4_code
abbrev y_Loops_reachFrom : MethodName := ⟨"MovedFolders$Loops", "reachFrom", "(ILMovedFolders$Moves;LMovedFolders$Moves;)V"⟩
abbrev b_Loops_add : ByteArray := prog_4_method_5_code
abbrev y_Loops_add : MethodName := ⟨"MovedFolders$Loops", "add", "(I)V"⟩
abbrev b_Loops_isReached : ByteArray := prog_4_method_6_code
abbrev y_Loops_isReached : MethodName := ⟨"MovedFolders$Loops", "isReached", "(I)Z"⟩
abbrev b_Merge_init : ByteArray := prog_5_method_1_code
abbrev y_Merge_init : MethodName := ⟨"MovedFolders$Merge", "<init>", "()V"⟩
abbrev b_Merge_size : ByteArray := prog_5_method_2_code
abbrev y_Merge_size : MethodName := ⟨"MovedFolders$Merge", "size", "()I"⟩
abbrev b_Merge_clashSize : ByteArray := prog_5_method_3_code
abbrev y_Merge_clashSize : MethodName := ⟨"MovedFolders$Merge", "clashSize", "()I"⟩
abbrev b_Merge_tell : ByteArray := prog_5_method_4_code
abbrev y_Merge_tell : MethodName := ⟨"MovedFolders$Merge", "tell", "(II)I"⟩
abbrev b_Merge_tellClash : ByteArray := prog_5_method_5_code
abbrev y_Merge_tellClash : MethodName := ⟨"MovedFolders$Merge", "tellClash", "(II)I"⟩
abbrev b_Merge_writeTo : ByteArray := prog_5_method_6_code
abbrev y_Merge_writeTo : MethodName := ⟨"MovedFolders$Merge", "writeTo", "(LMovedFolders$Tree;)V"⟩
abbrev b_Merge_make : ByteArray := prog_5_method_7_code
abbrev y_Merge_make : MethodName := ⟨"MovedFolders$Merge", "make", "(LMovedFolders$Held;LMovedFolders$Side;LMovedFolders$Side;)V"⟩
abbrev b_Merge_addOld : ByteArray := prog_5_method_8_code
abbrev y_Merge_addOld : MethodName := ⟨"MovedFolders$Merge", "addOld", "(LMovedFolders$Held;LMovedFolders$Side;LMovedFolders$Side;I)V"⟩
abbrev b_Merge_pathsClash : ByteArray := prog_5_method_9_code
abbrev y_Merge_pathsClash : MethodName := ⟨"MovedFolders$Merge", "pathsClash", "(III)Z"⟩
abbrev b_Merge_joinFolders : ByteArray := prog_5_method_10_code
abbrev y_Merge_joinFolders : MethodName := ⟨"MovedFolders$Merge", "joinFolders", "(IIILMovedFolders$Moves;LMovedFolders$Moves;)I"⟩
abbrev b_Merge_newPath : ByteArray := prog_5_method_11_code
abbrev y_Merge_newPath : MethodName := ⟨"MovedFolders$Merge", "newPath", "(ILMovedFolders$Moves;)I"⟩
abbrev b_Merge_findGoals : ByteArray := prog_5_method_12_code
abbrev y_Merge_findGoals : MethodName := ⟨"MovedFolders$Merge", "findGoals", "(LMovedFolders$Held;LMovedFolders$Side;LMovedFolders$Side;)V"⟩
abbrev b_Merge_addNewOfOne : ByteArray := prog_5_method_13_code
abbrev y_Merge_addNewOfOne : MethodName := ⟨"MovedFolders$Merge", "addNewOfOne", "(LMovedFolders$Held;LMovedFolders$Side;LMovedFolders$Side;)V"⟩
abbrev b_Merge_takeSame : ByteArray := prog_5_method_14_code
abbrev y_Merge_takeSame : MethodName := ⟨"MovedFolders$Merge", "takeSame", "(LMovedFolders$Tree;II)V"⟩
abbrev b_Merge_addNewOfTwo : ByteArray := prog_5_method_15_code
abbrev y_Merge_addNewOfTwo : MethodName := ⟨"MovedFolders$Merge", "addNewOfTwo", "(LMovedFolders$Tree;)V"⟩
abbrev b_Merge_add : ByteArray := prog_5_method_16_code
abbrev y_Merge_add : MethodName := ⟨"MovedFolders$Merge", "add", "(IIII)V"⟩
abbrev b_Merge_isBehind : ByteArray := prog_5_method_17_code
abbrev y_Merge_isBehind : MethodName := ⟨"MovedFolders$Merge", "isBehind", "(IIIII)Z"⟩
abbrev b_Merge_markMeetings : ByteArray := prog_5_method_18_code
abbrev y_Merge_markMeetings : MethodName := ⟨"MovedFolders$Merge", "markMeetings", "()V"⟩
abbrev b_Merge_gatherClashes : ByteArray := prog_5_method_19_code
abbrev y_Merge_gatherClashes : MethodName := ⟨"MovedFolders$Merge", "gatherClashes", "()V"⟩
abbrev b_Moves_init : ByteArray := prog_6_method_1_code
abbrev y_Moves_init : MethodName := ⟨"MovedFolders$Moves", "<init>", "()V"⟩
abbrev b_Moves_size : ByteArray := prog_6_method_2_code
abbrev y_Moves_size : MethodName := ⟨"MovedFolders$Moves", "size", "()I"⟩
abbrev b_Moves_startAt : ByteArray := prog_6_method_3_code
abbrev y_Moves_startAt : MethodName := ⟨"MovedFolders$Moves", "startAt", "(I)I"⟩
abbrev b_Moves_targetAt : ByteArray := prog_6_method_4_code
abbrev y_Moves_targetAt : MethodName := ⟨"MovedFolders$Moves", "targetAt", "(I)I"⟩
abbrev b_Moves_markRound : ByteArray := prog_6_method_5_code
abbrev y_Moves_markRound : MethodName := ⟨"MovedFolders$Moves", "markRound", "(IZ)V"⟩
abbrev b_Moves_placeOf : ByteArray := prog_6_method_6_code
abbrev y_Moves_placeOf : MethodName := ⟨"MovedFolders$Moves", "placeOf", "(I)I"⟩
abbrev b_Moves_targetOf : ByteArray := prog_6_method_7_code
abbrev y_Moves_targetOf : MethodName := ⟨"MovedFolders$Moves", "targetOf", "(I)I"⟩
abbrev b_Moves_goesRound : ByteArray := prog_6_method_8_code
abbrev y_Moves_goesRound : MethodName := ⟨"MovedFolders$Moves", "goesRound", "(I)Z"⟩
abbrev b_Moves_follow : ByteArray := prog_6_method_9_code
abbrev y_Moves_follow : MethodName := ⟨"MovedFolders$Moves", "follow", "(I)I"⟩
abbrev b_Moves_find : ByteArray := prog_6_method_10_code
abbrev y_Moves_find : MethodName := ⟨"MovedFolders$Moves", "find", "(LMovedFolders$Tree;LMovedFolders$Tree;LMovedFolders$Pairs;)V"⟩
abbrev b_Moves_add : ByteArray := prog_6_method_11_code
abbrev y_Moves_add : MethodName := ⟨"MovedFolders$Moves", "add", "(II)V"⟩
abbrev b_Moves_mostVoted : ByteArray := prog_6_method_12_code
abbrev y_Moves_mostVoted : MethodName := ⟨"MovedFolders$Moves", "mostVoted", "(LMovedFolders$Tree;LMovedFolders$Tree;LMovedFolders$Pairs;I)I"⟩
abbrev b_Pad_init : ByteArray := prog_7_method_1_code
abbrev y_Pad_init : MethodName := ⟨"MovedFolders$Pad", "<init>", "()V"⟩
abbrev b_Pad_size : ByteArray := prog_7_method_2_code
abbrev y_Pad_size : MethodName := ⟨"MovedFolders$Pad", "size", "()I"⟩
abbrev b_Pad_add : ByteArray := prog_7_method_3_code
abbrev y_Pad_add : MethodName := ⟨"MovedFolders$Pad", "add", "(I)Z"⟩
abbrev b_Pad_clear : ByteArray := prog_7_method_4_code
abbrev y_Pad_clear : MethodName := ⟨"MovedFolders$Pad", "clear", "()V"⟩
abbrev b_Pad_signAt : ByteArray := prog_7_method_5_code
abbrev y_Pad_signAt : MethodName := ⟨"MovedFolders$Pad", "signAt", "(I)I"⟩
abbrev b_Pad_runOf : ByteArray := prog_7_method_6_code
abbrev y_Pad_runOf : MethodName := ⟨"MovedFolders$Pad", "runOf", "(IIII)I"⟩
abbrev b_Pad_letters : ByteArray := prog_7_method_7_code
abbrev y_Pad_letters : MethodName := ⟨"MovedFolders$Pad", "letters", "()I"⟩
abbrev b_Pad_figures : ByteArray := prog_7_method_8_code
abbrev y_Pad_figures : MethodName := ⟨"MovedFolders$Pad", "figures", "()I"⟩
abbrev b_Pad_firstWrong : ByteArray := prog_7_method_9_code
abbrev y_Pad_firstWrong : MethodName := ⟨"MovedFolders$Pad", "firstWrong", "()I"⟩
abbrev b_Pad_readPath : ByteArray := prog_7_method_10_code
abbrev y_Pad_readPath : MethodName := ⟨"MovedFolders$Pad", "readPath", "()I"⟩
abbrev b_Pad_readContent : ByteArray := prog_7_method_11_code
abbrev y_Pad_readContent : MethodName := ⟨"MovedFolders$Pad", "readContent", "()I"⟩
abbrev b_Pairs_init : ByteArray := prog_8_method_1_code
abbrev y_Pairs_init : MethodName := ⟨"MovedFolders$Pairs", "<init>", "()V"⟩
abbrev b_Pairs_mateOf : ByteArray := prog_8_method_2_code
abbrev y_Pairs_mateOf : MethodName := ⟨"MovedFolders$Pairs", "mateOf", "(I)I"⟩
abbrev b_Pairs_wayOf : ByteArray := prog_8_method_3_code
abbrev y_Pairs_wayOf : MethodName := ⟨"MovedFolders$Pairs", "wayOf", "(I)I"⟩
abbrev b_Pairs_sourceOf : ByteArray := prog_8_method_4_code
abbrev y_Pairs_sourceOf : MethodName := ⟨"MovedFolders$Pairs", "sourceOf", "(I)I"⟩
abbrev b_Pairs_countGone : ByteArray := prog_8_method_5_code
abbrev y_Pairs_countGone : MethodName := ⟨"MovedFolders$Pairs", "countGone", "(LMovedFolders$Tree;)I"⟩
abbrev b_Pairs_countNew : ByteArray := prog_8_method_6_code
abbrev y_Pairs_countNew : MethodName := ⟨"MovedFolders$Pairs", "countNew", "(LMovedFolders$Tree;)I"⟩
abbrev b_Pairs_countWent : ByteArray := prog_8_method_7_code
abbrev y_Pairs_countWent : MethodName := ⟨"MovedFolders$Pairs", "countWent", "(LMovedFolders$Tree;LMovedFolders$Tree;II)I"⟩
abbrev b_Pairs_find : ByteArray := prog_8_method_8_code
abbrev y_Pairs_find : MethodName := ⟨"MovedFolders$Pairs", "find", "(LMovedFolders$Tree;LMovedFolders$Tree;I)V"⟩
abbrev b_Pairs_join : ByteArray := prog_8_method_9_code
abbrev y_Pairs_join : MethodName := ⟨"MovedFolders$Pairs", "join", "(III)V"⟩
abbrev b_Pairs_joinStayed : ByteArray := prog_8_method_10_code
abbrev y_Pairs_joinStayed : MethodName := ⟨"MovedFolders$Pairs", "joinStayed", "(LMovedFolders$Tree;LMovedFolders$Tree;)V"⟩
abbrev b_Pairs_rankOthers : ByteArray := prog_8_method_11_code
abbrev y_Pairs_rankOthers : MethodName := ⟨"MovedFolders$Pairs", "rankOthers", "(LMovedFolders$Tree;LMovedFolders$Tree;I)V"⟩
abbrev b_Pairs_rankOf : ByteArray := prog_8_method_12_code
abbrev y_Pairs_rankOf : MethodName := ⟨"MovedFolders$Pairs", "rankOf", "(III)I"⟩
abbrev b_Pairs_joinBest : ByteArray := prog_8_method_13_code
abbrev y_Pairs_joinBest : MethodName := ⟨"MovedFolders$Pairs", "joinBest", "(LMovedFolders$Tree;LMovedFolders$Tree;)Z"⟩
abbrev b_Pieces_countOf : ByteArray := prog_9_method_2_code
abbrev y_Pieces_countOf : MethodName := ⟨"MovedFolders$Pieces", "countOf", "(I)I"⟩
abbrev b_Pieces_likeness : ByteArray := prog_9_method_3_code
abbrev y_Pieces_likeness : MethodName := ⟨"MovedFolders$Pieces", "likeness", "(II)I"⟩
abbrev b_Pieces_tally : ByteArray := prog_9_method_4_code
abbrev y_Pieces_tally : MethodName := ⟨"MovedFolders$Pieces", "tally", "(I)J"⟩
abbrev b_Pieces_shared : ByteArray := prog_9_method_5_code
abbrev y_Pieces_shared : MethodName := ⟨"MovedFolders$Pieces", "shared", "(JJ)I"⟩
abbrev b_Side_init : ByteArray := prog_10_method_1_code
abbrev y_Side_init : MethodName := ⟨"MovedFolders$Side", "<init>", "()V"⟩
abbrev b_Three_differ : ByteArray := prog_11_method_2_code
abbrev y_Three_differ : MethodName := ⟨"MovedFolders$Three", "differ", "(III)Z"⟩
abbrev b_Three_join : ByteArray := prog_11_method_3_code
abbrev y_Three_join : MethodName := ⟨"MovedFolders$Three", "join", "(III)I"⟩
abbrev b_Three_sameCount : ByteArray := prog_11_method_4_code
abbrev y_Three_sameCount : MethodName := ⟨"MovedFolders$Three", "sameCount", "(III)Z"⟩
abbrev b_Three_joinContents : ByteArray := prog_11_method_5_code
abbrev y_Three_joinContents : MethodName := ⟨"MovedFolders$Three", "joinContents", "(III)I"⟩
abbrev b_Three_contentsClash : ByteArray := prog_11_method_6_code
abbrev y_Three_contentsClash : MethodName := ⟨"MovedFolders$Three", "contentsClash", "(III)Z"⟩
abbrev b_Tree_init : ByteArray := prog_12_method_1_code
abbrev y_Tree_init : MethodName := ⟨"MovedFolders$Tree", "<init>", "()V"⟩
abbrev b_Tree_size : ByteArray := prog_12_method_2_code
abbrev y_Tree_size : MethodName := ⟨"MovedFolders$Tree", "size", "()I"⟩
abbrev b_Tree_has : ByteArray := prog_12_method_3_code
abbrev y_Tree_has : MethodName := ⟨"MovedFolders$Tree", "has", "(I)Z"⟩
abbrev b_Tree_pathAt : ByteArray := prog_12_method_4_code
abbrev y_Tree_pathAt : MethodName := ⟨"MovedFolders$Tree", "pathAt", "(I)I"⟩
abbrev b_Tree_contentAt : ByteArray := prog_12_method_5_code
abbrev y_Tree_contentAt : MethodName := ⟨"MovedFolders$Tree", "contentAt", "(I)I"⟩
abbrev b_Tree_folderAt : ByteArray := prog_12_method_6_code
abbrev y_Tree_folderAt : MethodName := ⟨"MovedFolders$Tree", "folderAt", "(I)I"⟩
abbrev b_Tree_nameAt : ByteArray := prog_12_method_7_code
abbrev y_Tree_nameAt : MethodName := ⟨"MovedFolders$Tree", "nameAt", "(I)I"⟩
abbrev b_Tree_liesIn : ByteArray := prog_12_method_8_code
abbrev y_Tree_liesIn : MethodName := ⟨"MovedFolders$Tree", "liesIn", "(I)Z"⟩
abbrev b_Tree_find : ByteArray := prog_12_method_9_code
abbrev y_Tree_find : MethodName := ⟨"MovedFolders$Tree", "find", "(I)I"⟩
abbrev b_Tree_lay : ByteArray := prog_12_method_10_code
abbrev y_Tree_lay : MethodName := ⟨"MovedFolders$Tree", "lay", "(II)Z"⟩
abbrev b_Tree_openFor : ByteArray := prog_12_method_11_code
abbrev y_Tree_openFor : MethodName := ⟨"MovedFolders$Tree", "openFor", "(I)I"⟩
abbrev b_Tree_remove : ByteArray := prog_12_method_12_code
abbrev y_Tree_remove : MethodName := ⟨"MovedFolders$Tree", "remove", "(I)V"⟩
abbrev b_Tree_clear : ByteArray := prog_12_method_13_code
abbrev y_Tree_clear : MethodName := ⟨"MovedFolders$Tree", "clear", "()V"⟩
abbrev b_Tree_take : ByteArray := prog_12_method_14_code
abbrev y_Tree_take : MethodName := ⟨"MovedFolders$Tree", "take", "(LMovedFolders$Tree;)V"⟩
abbrev b_MF_init : ByteArray := prog_1_method_1_code
abbrev y_MF_init : MethodName := ⟨"MovedFolders", "<init>", "()V"⟩
abbrev b_MF_say : ByteArray := prog_1_method_2_code
abbrev y_MF_say : MethodName := ⟨"MovedFolders", "say", "(I)I"⟩
abbrev b_MF_wipe : ByteArray := prog_1_method_3_code
abbrev y_MF_wipe : MethodName := ⟨"MovedFolders", "wipe", "()I"⟩
abbrev b_MF_fault : ByteArray := prog_1_method_4_code
abbrev y_MF_fault : MethodName := ⟨"MovedFolders", "fault", "()I"⟩
abbrev b_MF_put : ByteArray := prog_1_method_5_code
abbrev y_MF_put : MethodName := ⟨"MovedFolders", "put", "(I)I"⟩
abbrev b_MF_drop : ByteArray := prog_1_method_6_code
abbrev y_MF_drop : MethodName := ⟨"MovedFolders", "drop", "(II)I"⟩
abbrev b_MF_file : ByteArray := prog_1_method_7_code
abbrev y_MF_file : MethodName := ⟨"MovedFolders", "file", "(III)I"⟩
abbrev b_MF_copy : ByteArray := prog_1_method_8_code
abbrev y_MF_copy : MethodName := ⟨"MovedFolders", "copy", "(I)I"⟩
abbrev b_MF_limit : ByteArray := prog_1_method_9_code
abbrev y_MF_limit : MethodName := ⟨"MovedFolders", "limit", "(I)I"⟩
abbrev b_MF_alike : ByteArray := prog_1_method_10_code
abbrev y_MF_alike : MethodName := ⟨"MovedFolders", "alike", "(IIII)I"⟩
abbrev b_MF_pair : ByteArray := prog_1_method_11_code
abbrev y_MF_pair : MethodName := ⟨"MovedFolders", "pair", "(III)I"⟩
abbrev b_MF_origin : ByteArray := prog_1_method_12_code
abbrev y_MF_origin : MethodName := ⟨"MovedFolders", "origin", "(II)I"⟩
abbrev b_MF_votes : ByteArray := prog_1_method_13_code
abbrev y_MF_votes : MethodName := ⟨"MovedFolders", "votes", "(III)I"⟩
abbrev b_MF_moved : ByteArray := prog_1_method_14_code
abbrev y_MF_moved : MethodName := ⟨"MovedFolders", "moved", "(III)I"⟩
abbrev b_MF_dest : ByteArray := prog_1_method_15_code
abbrev y_MF_dest : MethodName := ⟨"MovedFolders", "dest", "(II)I"⟩
abbrev b_MF_entry : ByteArray := prog_1_method_16_code
abbrev y_MF_entry : MethodName := ⟨"MovedFolders", "entry", "(II)I"⟩
abbrev b_MF_clash : ByteArray := prog_1_method_17_code
abbrev y_MF_clash : MethodName := ⟨"MovedFolders", "clash", "(II)I"⟩
abbrev b_MF_settle : ByteArray := prog_1_method_18_code
abbrev y_MF_settle : MethodName := ⟨"MovedFolders", "settle", "()I"⟩
abbrev b_MF_exchange : ByteArray := prog_1_method_19_code
abbrev y_MF_exchange : MethodName := ⟨"MovedFolders", "exchange", "()I"⟩
abbrev b_MF_image : ByteArray := prog_1_method_20_code
abbrev y_MF_image : MethodName := ⟨"MovedFolders", "image", "(I)I"⟩
abbrev b_MF_restore : ByteArray := prog_1_method_21_code
abbrev y_MF_restore : MethodName := ⟨"MovedFolders", "restore", "(I)I"⟩
abbrev b_MF_told : ByteArray := prog_1_method_22_code
abbrev y_MF_told : MethodName := ⟨"MovedFolders", "told", "(I)I"⟩
abbrev b_MF_isSide : ByteArray := prog_1_method_23_code
abbrev y_MF_isSide : MethodName := ⟨"MovedFolders", "isSide", "(I)Z"⟩
abbrev b_MF_isTree : ByteArray := prog_1_method_24_code
abbrev y_MF_isTree : MethodName := ⟨"MovedFolders", "isTree", "(I)Z"⟩
abbrev b_MF_isFile : ByteArray := prog_1_method_25_code
abbrev y_MF_isFile : MethodName := ⟨"MovedFolders", "isFile", "(II)Z"⟩
abbrev b_MF_treeOf : ByteArray := prog_1_method_26_code
abbrev y_MF_treeOf : MethodName := ⟨"MovedFolders", "treeOf", "(I)LMovedFolders$Tree;"⟩
abbrev b_MF_sideOf : ByteArray := prog_1_method_27_code
abbrev y_MF_sideOf : MethodName := ⟨"MovedFolders", "sideOf", "(I)LMovedFolders$Side;"⟩
abbrev b_MF_imageOf : ByteArray := prog_1_method_28_code
abbrev y_MF_imageOf : MethodName := ⟨"MovedFolders", "imageOf", "(I)LMovedFolders$Held;"⟩
abbrev b_MF_refresh : ByteArray := prog_1_method_29_code
abbrev y_MF_refresh : MethodName := ⟨"MovedFolders", "refresh", "()V"⟩
abbrev b_Mo_init : ByteArray := prog_14_method_1_code
abbrev y_Mo_init : MethodName := ⟨"MovedFoldersModel", "<init>", "()V"⟩
abbrev b_Mo_in : ByteArray := prog_14_method_3_code
abbrev y_Mo_in : MethodName := ⟨"MovedFoldersModel", "in", "(JJJ)Z"⟩
abbrev b_Mo_isTree : ByteArray := prog_14_method_4_code
abbrev y_Mo_isTree : MethodName := ⟨"MovedFoldersModel", "isTree", "(I)Z"⟩
abbrev b_Mo_isSide : ByteArray := prog_14_method_5_code
abbrev y_Mo_isSide : MethodName := ⟨"MovedFoldersModel", "isSide", "(I)Z"⟩
abbrev b_Mo_less : ByteArray := prog_14_method_6_code
abbrev y_Mo_less : MethodName := ⟨"MovedFoldersModel", "less", "(II)I"⟩
abbrev b_Mo_greater : ByteArray := prog_14_method_7_code
abbrev y_Mo_greater : MethodName := ⟨"MovedFoldersModel", "greater", "(II)I"⟩
abbrev b_Mo_isFile : ByteArray := prog_14_method_8_code
abbrev y_Mo_isFile : MethodName := ⟨"MovedFoldersModel", "isFile", "(II)Z"⟩
abbrev b_Mo_folderAt : ByteArray := prog_14_method_9_code
abbrev y_Mo_folderAt : MethodName := ⟨"MovedFoldersModel", "folderAt", "(II)I"⟩
abbrev b_Mo_nameAt : ByteArray := prog_14_method_10_code
abbrev y_Mo_nameAt : MethodName := ⟨"MovedFoldersModel", "nameAt", "(II)I"⟩
abbrev b_Mo_contentAt : ByteArray := prog_14_method_11_code
abbrev y_Mo_contentAt : MethodName := ⟨"MovedFoldersModel", "contentAt", "(II)I"⟩
abbrev b_Mo_isFolder : ByteArray := prog_14_method_12_code
abbrev y_Mo_isFolder : MethodName := ⟨"MovedFoldersModel", "isFolder", "(I)Z"⟩
abbrev b_Mo_say : ByteArray := prog_14_method_13_code
abbrev y_Mo_say : MethodName := ⟨"MovedFoldersModel", "say", "(I)I"⟩
abbrev b_Mo_wipe : ByteArray := prog_14_method_14_code
abbrev y_Mo_wipe : MethodName := ⟨"MovedFoldersModel", "wipe", "()I"⟩
abbrev b_Mo_worth : ByteArray := prog_14_method_15_code
abbrev y_Mo_worth : MethodName := ⟨"MovedFoldersModel", "worth", "(I)I"⟩
abbrev b_Mo_goOn : ByteArray := prog_14_method_16_code
abbrev y_Mo_goOn : MethodName := ⟨"MovedFoldersModel", "goOn", "(II)I"⟩
abbrev b_Mo_fault : ByteArray := prog_14_method_17_code
abbrev y_Mo_fault : MethodName := ⟨"MovedFoldersModel", "fault", "()I"⟩
abbrev b_Mo_placeOf : ByteArray := prog_14_method_18_code
abbrev y_Mo_placeOf : MethodName := ⟨"MovedFoldersModel", "placeOf", "(II)I"⟩
abbrev b_Mo_layAt : ByteArray := prog_14_method_19_code
abbrev y_Mo_layAt : MethodName := ⟨"MovedFoldersModel", "layAt", "(IIII)V"⟩
abbrev b_Mo_put : ByteArray := prog_14_method_20_code
abbrev y_Mo_put : MethodName := ⟨"MovedFoldersModel", "put", "(I)I"⟩
abbrev b_Mo_drop : ByteArray := prog_14_method_21_code
abbrev y_Mo_drop : MethodName := ⟨"MovedFoldersModel", "drop", "(II)I"⟩
abbrev b_Mo_file : ByteArray := prog_14_method_22_code
abbrev y_Mo_file : MethodName := ⟨"MovedFoldersModel", "file", "(III)I"⟩
abbrev b_Mo_copy : ByteArray := prog_14_method_23_code
abbrev y_Mo_copy : MethodName := ⟨"MovedFoldersModel", "copy", "(I)I"⟩
abbrev b_Mo_piecesIn : ByteArray := prog_14_method_24_code
abbrev y_Mo_piecesIn : MethodName := ⟨"MovedFoldersModel", "piecesIn", "(I)I"⟩
abbrev b_Mo_timesIn : ByteArray := prog_14_method_25_code
abbrev y_Mo_timesIn : MethodName := ⟨"MovedFoldersModel", "timesIn", "(II)I"⟩
abbrev b_Mo_alikeOf : ByteArray := prog_14_method_26_code
abbrev y_Mo_alikeOf : MethodName := ⟨"MovedFoldersModel", "alikeOf", "(II)I"⟩
abbrev b_Mo_limit : ByteArray := prog_14_method_27_code
abbrev y_Mo_limit : MethodName := ⟨"MovedFoldersModel", "limit", "(I)I"⟩
abbrev b_Mo_alike : ByteArray := prog_14_method_28_code
abbrev y_Mo_alike : MethodName := ⟨"MovedFoldersModel", "alike", "(IIII)I"⟩
abbrev b_Mo_join : ByteArray := prog_14_method_29_code
abbrev y_Mo_join : MethodName := ⟨"MovedFoldersModel", "join", "(IIII)V"⟩
abbrev b_Mo_isLeft : ByteArray := prog_14_method_30_code
abbrev y_Mo_isLeft : MethodName := ⟨"MovedFoldersModel", "isLeft", "(III)Z"⟩
abbrev b_Mo_closeness : ByteArray := prog_14_method_31_code
abbrev y_Mo_closeness : MethodName := ⟨"MovedFoldersModel", "closeness", "(IIII)I"⟩
abbrev b_Mo_isJoined : ByteArray := prog_14_method_32_code
abbrev y_Mo_isJoined : MethodName := ⟨"MovedFoldersModel", "isJoined", "(II)Z"⟩
abbrev b_Mo_findPairs : ByteArray := prog_14_method_33_code
abbrev y_Mo_findPairs : MethodName := ⟨"MovedFoldersModel", "findPairs", "(I)V"⟩
abbrev b_Mo_pair : ByteArray := prog_14_method_34_code
abbrev y_Mo_pair : MethodName := ⟨"MovedFoldersModel", "pair", "(III)I"⟩
abbrev b_Mo_origin : ByteArray := prog_14_method_35_code
abbrev y_Mo_origin : MethodName := ⟨"MovedFoldersModel", "origin", "(II)I"⟩
abbrev b_Mo_votesOf : ByteArray := prog_14_method_36_code
abbrev y_Mo_votesOf : MethodName := ⟨"MovedFoldersModel", "votesOf", "(III)I"⟩
abbrev b_Mo_liesIn : ByteArray := prog_14_method_37_code
abbrev y_Mo_liesIn : MethodName := ⟨"MovedFoldersModel", "liesIn", "(II)Z"⟩
abbrev b_Mo_movedOf : ByteArray := prog_14_method_38_code
abbrev y_Mo_movedOf : MethodName := ⟨"MovedFoldersModel", "movedOf", "(II)I"⟩
abbrev b_Mo_findMoves : ByteArray := prog_14_method_39_code
abbrev y_Mo_findMoves : MethodName := ⟨"MovedFoldersModel", "findMoves", "(I)V"⟩
abbrev b_Mo_findBoth : ByteArray := prog_14_method_40_code
abbrev y_Mo_findBoth : MethodName := ⟨"MovedFoldersModel", "findBoth", "()V"⟩
abbrev b_Mo_isStep : ByteArray := prog_14_method_41_code
abbrev y_Mo_isStep : MethodName := ⟨"MovedFoldersModel", "isStep", "(II)Z"⟩
abbrev b_Mo_isLoop : ByteArray := prog_14_method_42_code
abbrev y_Mo_isLoop : MethodName := ⟨"MovedFoldersModel", "isLoop", "(II)Z"⟩
abbrev b_Mo_votes : ByteArray := prog_14_method_43_code
abbrev y_Mo_votes : MethodName := ⟨"MovedFoldersModel", "votes", "(III)I"⟩
abbrev b_Mo_moved : ByteArray := prog_14_method_44_code
abbrev y_Mo_moved : MethodName := ⟨"MovedFoldersModel", "moved", "(III)I"⟩
abbrev b_Mo_lettersIn : ByteArray := prog_14_method_45_code
abbrev y_Mo_lettersIn : MethodName := ⟨"MovedFoldersModel", "lettersIn", "(I)I"⟩
abbrev b_Mo_letterOf : ByteArray := prog_14_method_46_code
abbrev y_Mo_letterOf : MethodName := ⟨"MovedFoldersModel", "letterOf", "(II)I"⟩
abbrev b_Mo_headOf : ByteArray := prog_14_method_47_code
abbrev y_Mo_headOf : MethodName := ⟨"MovedFoldersModel", "headOf", "(II)I"⟩
abbrev b_Mo_joined : ByteArray := prog_14_method_48_code
abbrev y_Mo_joined : MethodName := ⟨"MovedFoldersModel", "joined", "(III)I"⟩
abbrev b_Mo_destOf : ByteArray := prog_14_method_49_code
abbrev y_Mo_destOf : MethodName := ⟨"MovedFoldersModel", "destOf", "(II)I"⟩
abbrev b_Mo_dest : ByteArray := prog_14_method_50_code
abbrev y_Mo_dest : MethodName := ⟨"MovedFoldersModel", "dest", "(II)I"⟩
abbrev b_Mo_addEntry : ByteArray := prog_14_method_51_code
abbrev y_Mo_addEntry : MethodName := ⟨"MovedFoldersModel", "addEntry", "(IIII)V"⟩
abbrev b_Mo_oneOf : ByteArray := prog_14_method_52_code
abbrev y_Mo_oneOf : MethodName := ⟨"MovedFoldersModel", "oneOf", "(IIII)I"⟩
abbrev b_Mo_folderOf : ByteArray := prog_14_method_53_code
abbrev y_Mo_folderOf : MethodName := ⟨"MovedFoldersModel", "folderOf", "(III)I"⟩
abbrev b_Mo_contentOf : ByteArray := prog_14_method_54_code
abbrev y_Mo_contentOf : MethodName := ⟨"MovedFoldersModel", "contentOf", "(III)I"⟩
abbrev b_Mo_isAsBase : ByteArray := prog_14_method_55_code
abbrev y_Mo_isAsBase : MethodName := ⟨"MovedFoldersModel", "isAsBase", "(II)Z"⟩
abbrev b_Mo_pathOn : ByteArray := prog_14_method_56_code
abbrev y_Mo_pathOn : MethodName := ⟨"MovedFoldersModel", "pathOn", "(II)I"⟩
abbrev b_Mo_contentOn : ByteArray := prog_14_method_57_code
abbrev y_Mo_contentOn : MethodName := ⟨"MovedFoldersModel", "contentOn", "(II)I"⟩
abbrev b_Mo_mergeOld : ByteArray := prog_14_method_58_code
abbrev y_Mo_mergeOld : MethodName := ⟨"MovedFoldersModel", "mergeOld", "(I)V"⟩
abbrev b_Mo_newPath : ByteArray := prog_14_method_59_code
abbrev y_Mo_newPath : MethodName := ⟨"MovedFoldersModel", "newPath", "(II)I"⟩
abbrev b_Mo_twinOf : ByteArray := prog_14_method_60_code
abbrev y_Mo_twinOf : MethodName := ⟨"MovedFoldersModel", "twinOf", "(II)I"⟩
abbrev b_Mo_mergeNew : ByteArray := prog_14_method_61_code
abbrev y_Mo_mergeNew : MethodName := ⟨"MovedFoldersModel", "mergeNew", "()V"⟩
abbrev b_Mo_meetAll : ByteArray := prog_14_method_62_code
abbrev y_Mo_meetAll : MethodName := ⟨"MovedFoldersModel", "meetAll", "()V"⟩
abbrev b_Mo_isBefore : ByteArray := prog_14_method_63_code
abbrev y_Mo_isBefore : MethodName := ⟨"MovedFoldersModel", "isBefore", "(II)Z"⟩
abbrev b_Mo_change : ByteArray := prog_14_method_64_code
abbrev y_Mo_change : MethodName := ⟨"MovedFoldersModel", "change", "([III)V"⟩
abbrev b_Mo_sortAll : ByteArray := prog_14_method_65_code
abbrev y_Mo_sortAll : MethodName := ⟨"MovedFoldersModel", "sortAll", "()V"⟩
abbrev b_Mo_merge : ByteArray := prog_14_method_66_code
abbrev y_Mo_merge : MethodName := ⟨"MovedFoldersModel", "merge", "()V"⟩
abbrev b_Mo_entry : ByteArray := prog_14_method_67_code
abbrev y_Mo_entry : MethodName := ⟨"MovedFoldersModel", "entry", "(II)I"⟩
abbrev b_Mo_causesAt : ByteArray := prog_14_method_68_code
abbrev y_Mo_causesAt : MethodName := ⟨"MovedFoldersModel", "causesAt", "(I)I"⟩
abbrev b_Mo_clash : ByteArray := prog_14_method_69_code
abbrev y_Mo_clash : MethodName := ⟨"MovedFoldersModel", "clash", "(II)I"⟩
abbrev b_Mo_settle : ByteArray := prog_14_method_70_code
abbrev y_Mo_settle : MethodName := ⟨"MovedFoldersModel", "settle", "()I"⟩
abbrev b_Mo_exchange : ByteArray := prog_14_method_71_code
abbrev y_Mo_exchange : MethodName := ⟨"MovedFoldersModel", "exchange", "()I"⟩
abbrev b_Mo_passRow : ByteArray := prog_14_method_72_code
abbrev y_Mo_passRow : MethodName := ⟨"MovedFoldersModel", "passRow", "([II)V"⟩
abbrev b_Mo_passAll : ByteArray := prog_14_method_73_code
abbrev y_Mo_passAll : MethodName := ⟨"MovedFoldersModel", "passAll", "()V"⟩
abbrev b_Mo_image : ByteArray := prog_14_method_74_code
abbrev y_Mo_image : MethodName := ⟨"MovedFoldersModel", "image", "(I)I"⟩
abbrev b_Mo_restore : ByteArray := prog_14_method_75_code
abbrev y_Mo_restore : MethodName := ⟨"MovedFoldersModel", "restore", "(I)I"⟩
abbrev b_Mo_lackingOf : ByteArray := prog_14_method_76_code
abbrev y_Mo_lackingOf : MethodName := ⟨"MovedFoldersModel", "lackingOf", "([III)I"⟩
abbrev b_Mo_movedMany : ByteArray := prog_14_method_77_code
abbrev y_Mo_movedMany : MethodName := ⟨"MovedFoldersModel", "movedMany", "(I)I"⟩
abbrev b_Mo_toldOfSide : ByteArray := prog_14_method_78_code
abbrev y_Mo_toldOfSide : MethodName := ⟨"MovedFoldersModel", "toldOfSide", "(II)I"⟩
abbrev b_Mo_told : ByteArray := prog_14_method_79_code
abbrev y_Mo_told : MethodName := ⟨"MovedFoldersModel", "told", "(I)I"⟩
abbrev b_Ma_max : ByteArray := prog_15_method_65_code
abbrev y_Ma_max : MethodName := ⟨"java/lang/Math", "max", "(II)I"⟩
abbrev b_Ma_min : ByteArray := prog_15_method_69_code
abbrev y_Ma_min : MethodName := ⟨"java/lang/Math", "min", "(II)I"⟩
abbrev b_Ma_minL : ByteArray := prog_15_method_70_code
abbrev y_Ma_minL : MethodName := ⟨"java/lang/Math", "min", "(JJ)J"⟩
