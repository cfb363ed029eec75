section
-- ===== PART A: goes FIRST, ahead of the names: the tables' words, and 'selects' of the private methods out of them =====
/-- a private method of a class that the tables say can be made, by its rows of tables_1 -/
def lw_okq (q : MethodName × Nat) : Prop := (q.1.cls ≠ "java/lang/invoke/MethodHandle" ∧ q.1.cls ≠ "java/lang/invoke/VarHandle") ∧ Cond.instantiable q.1.cls q.2 ∈ tables_1 ∧ Cond.privateMethod q.1 ∈ tables_1 ∧ Cond.instanceMethod q.1 ∈ tables_1
theorem lw_p0 : lw_okq (⟨"StrataRepo$Merging", "wayOf", "(I)I"⟩, 14) := ⟨⟨by decide +kernel, by decide +kernel⟩, List.mem_of_getElem? (i := 132) (by decide +kernel), List.mem_of_getElem? (i := 248) (by decide +kernel), List.mem_of_getElem? (i := 249) (by decide +kernel)⟩
theorem lw_p1 : lw_okq (⟨"StrataRepo", "headCommit", "()I"⟩, 12) := ⟨⟨by decide +kernel, by decide +kernel⟩, List.mem_of_getElem? (i := 30) (by decide +kernel), List.mem_of_getElem? (i := 269) (by decide +kernel), List.mem_of_getElem? (i := 270) (by decide +kernel)⟩
theorem lw_p2 : lw_okq (⟨"StrataRepo", "treeOf", "(I)LStrataRepo$Tree;"⟩, 12) := ⟨⟨by decide +kernel, by decide +kernel⟩, List.mem_of_getElem? (i := 30) (by decide +kernel), List.mem_of_getElem? (i := 277) (by decide +kernel), List.mem_of_getElem? (i := 278) (by decide +kernel)⟩
theorem lw_p3 : lw_okq (⟨"StrataRepo$Tree", "hasSame", "(ILStrataRepo$Tree;)Z"⟩, 2) := ⟨⟨by decide +kernel, by decide +kernel⟩, List.mem_of_getElem? (i := 38) (by decide +kernel), List.mem_of_getElem? (i := 289) (by decide +kernel), List.mem_of_getElem? (i := 290) (by decide +kernel)⟩
theorem lw_p4 : lw_okq (⟨"StrataRepo", "withCommit", "(JI)J"⟩, 12) := ⟨⟨by decide +kernel, by decide +kernel⟩, List.mem_of_getElem? (i := 30) (by decide +kernel), List.mem_of_getElem? (i := 359) (by decide +kernel), List.mem_of_getElem? (i := 360) (by decide +kernel)⟩
theorem lw_p5 : lw_okq (⟨"StrataRepo", "needThere", "(I)V"⟩, 12) := ⟨⟨by decide +kernel, by decide +kernel⟩, List.mem_of_getElem? (i := 30) (by decide +kernel), List.mem_of_getElem? (i := 367) (by decide +kernel), List.mem_of_getElem? (i := 368) (by decide +kernel)⟩
theorem lw_p6 : lw_okq (⟨"java/lang/Throwable", "fillInStackTrace", "(I)Ljava/lang/Throwable;"⟩, 6) := ⟨⟨by decide +kernel, by decide +kernel⟩, List.mem_of_getElem? (i := 409) (by decide +kernel), List.mem_of_getElem? (i := 407) (by decide +kernel), List.mem_of_getElem? (i := 408) (by decide +kernel)⟩
theorem lw_p7 : lw_okq (⟨"StrataRepo", "reached", "()J"⟩, 12) := ⟨⟨by decide +kernel, by decide +kernel⟩, List.mem_of_getElem? (i := 30) (by decide +kernel), List.mem_of_getElem? (i := 439) (by decide +kernel), List.mem_of_getElem? (i := 440) (by decide +kernel)⟩
theorem lw_p8 : lw_okq (⟨"StrataRepo", "withConflicts", "(J)J"⟩, 12) := ⟨⟨by decide +kernel, by decide +kernel⟩, List.mem_of_getElem? (i := 30) (by decide +kernel), List.mem_of_getElem? (i := 460) (by decide +kernel), List.mem_of_getElem? (i := 461) (by decide +kernel)⟩
theorem lw_p9 : lw_okq (⟨"StrataRepo", "needConflict", "(I)V"⟩, 12) := ⟨⟨by decide +kernel, by decide +kernel⟩, List.mem_of_getElem? (i := 30) (by decide +kernel), List.mem_of_getElem? (i := 468) (by decide +kernel), List.mem_of_getElem? (i := 469) (by decide +kernel)⟩
theorem lw_p10 : lw_okq (⟨"StrataRepo", "needNoWork", "()V"⟩, 12) := ⟨⟨by decide +kernel, by decide +kernel⟩, List.mem_of_getElem? (i := 30) (by decide +kernel), List.mem_of_getElem? (i := 503) (by decide +kernel), List.mem_of_getElem? (i := 504) (by decide +kernel)⟩
theorem lw_p11 : lw_okq (⟨"StrataRepo", "needDeskPlace", "(II)V"⟩, 12) := ⟨⟨by decide +kernel, by decide +kernel⟩, List.mem_of_getElem? (i := 30) (by decide +kernel), List.mem_of_getElem? (i := 587) (by decide +kernel), List.mem_of_getElem? (i := 588) (by decide +kernel)⟩
theorem lw_p12 : lw_okq (⟨"StrataRepo", "needRoom", "(I)V"⟩, 12) := ⟨⟨by decide +kernel, by decide +kernel⟩, List.mem_of_getElem? (i := 30) (by decide +kernel), List.mem_of_getElem? (i := 628) (by decide +kernel), List.mem_of_getElem? (i := 629) (by decide +kernel)⟩
theorem lw_p13 : lw_okq (⟨"StrataRepo", "setTip", "(II)V"⟩, 12) := ⟨⟨by decide +kernel, by decide +kernel⟩, List.mem_of_getElem? (i := 30) (by decide +kernel), List.mem_of_getElem? (i := 641) (by decide +kernel), List.mem_of_getElem? (i := 642) (by decide +kernel)⟩
theorem lw_p14 : lw_okq (⟨"StrataRepo", "branchCount", "()I"⟩, 12) := ⟨⟨by decide +kernel, by decide +kernel⟩, List.mem_of_getElem? (i := 30) (by decide +kernel), List.mem_of_getElem? (i := 654) (by decide +kernel), List.mem_of_getElem? (i := 655) (by decide +kernel)⟩
theorem lw_p15 : lw_okq (⟨"StrataRepo", "needBranch", "(I)V"⟩, 12) := ⟨⟨by decide +kernel, by decide +kernel⟩, List.mem_of_getElem? (i := 30) (by decide +kernel), List.mem_of_getElem? (i := 665) (by decide +kernel), List.mem_of_getElem? (i := 666) (by decide +kernel)⟩
def lw_privs_1 : List (MethodName × Nat) := [(⟨"StrataRepo$Merging", "wayOf", "(I)I"⟩, 14), (⟨"StrataRepo", "headCommit", "()I"⟩, 12), (⟨"StrataRepo", "treeOf", "(I)LStrataRepo$Tree;"⟩, 12), (⟨"StrataRepo$Tree", "hasSame", "(ILStrataRepo$Tree;)Z"⟩, 2), (⟨"StrataRepo", "withCommit", "(JI)J"⟩, 12), (⟨"StrataRepo", "needThere", "(I)V"⟩, 12), (⟨"java/lang/Throwable", "fillInStackTrace", "(I)Ljava/lang/Throwable;"⟩, 6), (⟨"StrataRepo", "reached", "()J"⟩, 12), (⟨"StrataRepo", "withConflicts", "(J)J"⟩, 12), (⟨"StrataRepo", "needConflict", "(I)V"⟩, 12), (⟨"StrataRepo", "needNoWork", "()V"⟩, 12), (⟨"StrataRepo", "needDeskPlace", "(II)V"⟩, 12), (⟨"StrataRepo", "needRoom", "(I)V"⟩, 12), (⟨"StrataRepo", "setTip", "(II)V"⟩, 12), (⟨"StrataRepo", "branchCount", "()I"⟩, 12), (⟨"StrataRepo", "needBranch", "(I)V"⟩, 12)]
theorem lw_r1 : ∀ q ∈ lw_privs_1, lw_okq q := List.forall_mem_cons.mpr ⟨lw_p0, List.forall_mem_cons.mpr ⟨lw_p1, List.forall_mem_cons.mpr ⟨lw_p2, List.forall_mem_cons.mpr ⟨lw_p3, List.forall_mem_cons.mpr ⟨lw_p4, List.forall_mem_cons.mpr ⟨lw_p5, List.forall_mem_cons.mpr ⟨lw_p6, List.forall_mem_cons.mpr ⟨lw_p7, List.forall_mem_cons.mpr ⟨lw_p8, List.forall_mem_cons.mpr ⟨lw_p9, List.forall_mem_cons.mpr ⟨lw_p10, List.forall_mem_cons.mpr ⟨lw_p11, List.forall_mem_cons.mpr ⟨lw_p12, List.forall_mem_cons.mpr ⟨lw_p13, List.forall_mem_cons.mpr ⟨lw_p14, List.forall_mem_cons.mpr ⟨lw_p15, fun _ h => absurd h List.not_mem_nil⟩⟩⟩⟩⟩⟩⟩⟩⟩⟩⟩⟩⟩⟩⟩⟩
theorem lw_p16 : lw_okq (⟨"StrataRepo", "moveHead", "(I)V"⟩, 12) := ⟨⟨by decide +kernel, by decide +kernel⟩, List.mem_of_getElem? (i := 30) (by decide +kernel), List.mem_of_getElem? (i := 687) (by decide +kernel), List.mem_of_getElem? (i := 688) (by decide +kernel)⟩
theorem lw_p17 : lw_okq (⟨"StrataRepo", "needReadyFor", "(I)V"⟩, 12) := ⟨⟨by decide +kernel, by decide +kernel⟩, List.mem_of_getElem? (i := 30) (by decide +kernel), List.mem_of_getElem? (i := 711) (by decide +kernel), List.mem_of_getElem? (i := 712) (by decide +kernel)⟩
theorem lw_p18 : lw_okq (⟨"StrataRepo", "needReady", "()V"⟩, 12) := ⟨⟨by decide +kernel, by decide +kernel⟩, List.mem_of_getElem? (i := 30) (by decide +kernel), List.mem_of_getElem? (i := 715) (by decide +kernel), List.mem_of_getElem? (i := 716) (by decide +kernel)⟩
theorem lw_p19 : lw_okq (⟨"StrataRepo", "tryMerge", "(I)I"⟩, 12) := ⟨⟨by decide +kernel, by decide +kernel⟩, List.mem_of_getElem? (i := 30) (by decide +kernel), List.mem_of_getElem? (i := 721) (by decide +kernel), List.mem_of_getElem? (i := 722) (by decide +kernel)⟩
theorem lw_p20 : lw_okq (⟨"StrataRepo$Merging", "cutFile", "(I)V"⟩, 14) := ⟨⟨by decide +kernel, by decide +kernel⟩, List.mem_of_getElem? (i := 132) (by decide +kernel), List.mem_of_getElem? (i := 738) (by decide +kernel), List.mem_of_getElem? (i := 739) (by decide +kernel)⟩
theorem lw_p21 : lw_okq (⟨"StrataRepo$Merging", "addPiece", "(IIII)V"⟩, 14) := ⟨⟨by decide +kernel, by decide +kernel⟩, List.mem_of_getElem? (i := 132) (by decide +kernel), List.mem_of_getElem? (i := 745) (by decide +kernel), List.mem_of_getElem? (i := 746) (by decide +kernel)⟩
theorem lw_p22 : lw_okq (⟨"StrataRepo$Merging", "addSpan", "(II)V"⟩, 14) := ⟨⟨by decide +kernel, by decide +kernel⟩, List.mem_of_getElem? (i := 132) (by decide +kernel), List.mem_of_getElem? (i := 749) (by decide +kernel), List.mem_of_getElem? (i := 750) (by decide +kernel)⟩
theorem lw_p23 : lw_okq (⟨"StrataRepo$Match", "pair", "(II)V"⟩, 4) := ⟨⟨by decide +kernel, by decide +kernel⟩, List.mem_of_getElem? (i := 112) (by decide +kernel), List.mem_of_getElem? (i := 763) (by decide +kernel), List.mem_of_getElem? (i := 764) (by decide +kernel)⟩
theorem lw_p24 : lw_okq (⟨"StrataRepo$Match", "measure", "(LStrataRepo$Tree;LStrataRepo$Tree;II)V"⟩, 4) := ⟨⟨by decide +kernel, by decide +kernel⟩, List.mem_of_getElem? (i := 112) (by decide +kernel), List.mem_of_getElem? (i := 767) (by decide +kernel), List.mem_of_getElem? (i := 768) (by decide +kernel)⟩
theorem lw_p25 : lw_okq (⟨"StrataRepo$Match", "setLongest", "(III)V"⟩, 4) := ⟨⟨by decide +kernel, by decide +kernel⟩, List.mem_of_getElem? (i := 112) (by decide +kernel), List.mem_of_getElem? (i := 771) (by decide +kernel), List.mem_of_getElem? (i := 772) (by decide +kernel)⟩
theorem lw_p26 : lw_okq (⟨"StrataRepo$Match", "longestFrom", "(II)I"⟩, 4) := ⟨⟨by decide +kernel, by decide +kernel⟩, List.mem_of_getElem? (i := 112) (by decide +kernel), List.mem_of_getElem? (i := 775) (by decide +kernel), List.mem_of_getElem? (i := 776) (by decide +kernel)⟩
theorem lw_p27 : lw_okq (⟨"StrataRepo$Merging", "choose", "(I)V"⟩, 14) := ⟨⟨by decide +kernel, by decide +kernel⟩, List.mem_of_getElem? (i := 132) (by decide +kernel), List.mem_of_getElem? (i := 785) (by decide +kernel), List.mem_of_getElem? (i := 786) (by decide +kernel)⟩
theorem lw_p28 : lw_okq (⟨"StrataRepo$Merging", "isSame", "(III)Z"⟩, 14) := ⟨⟨by decide +kernel, by decide +kernel⟩, List.mem_of_getElem? (i := 132) (by decide +kernel), List.mem_of_getElem? (i := 789) (by decide +kernel), List.mem_of_getElem? (i := 790) (by decide +kernel)⟩
theorem lw_p29 : lw_okq (⟨"StrataRepo$Merging", "treeOfSide", "(I)LStrataRepo$Tree;"⟩, 14) := ⟨⟨by decide +kernel, by decide +kernel⟩, List.mem_of_getElem? (i := 132) (by decide +kernel), List.mem_of_getElem? (i := 798) (by decide +kernel), List.mem_of_getElem? (i := 799) (by decide +kernel)⟩
theorem lw_p30 : lw_okq (⟨"StrataRepo$Merging", "topOf", "(II)I"⟩, 14) := ⟨⟨by decide +kernel, by decide +kernel⟩, List.mem_of_getElem? (i := 132) (by decide +kernel), List.mem_of_getElem? (i := 803) (by decide +kernel), List.mem_of_getElem? (i := 804) (by decide +kernel)⟩
theorem lw_p31 : lw_okq (⟨"StrataRepo$Merging", "append", "(II)V"⟩, 14) := ⟨⟨by decide +kernel, by decide +kernel⟩, List.mem_of_getElem? (i := 132) (by decide +kernel), List.mem_of_getElem? (i := 816) (by decide +kernel), List.mem_of_getElem? (i := 817) (by decide +kernel)⟩
def lw_privs_2 : List (MethodName × Nat) := [(⟨"StrataRepo", "moveHead", "(I)V"⟩, 12), (⟨"StrataRepo", "needReadyFor", "(I)V"⟩, 12), (⟨"StrataRepo", "needReady", "()V"⟩, 12), (⟨"StrataRepo", "tryMerge", "(I)I"⟩, 12), (⟨"StrataRepo$Merging", "cutFile", "(I)V"⟩, 14), (⟨"StrataRepo$Merging", "addPiece", "(IIII)V"⟩, 14), (⟨"StrataRepo$Merging", "addSpan", "(II)V"⟩, 14), (⟨"StrataRepo$Match", "pair", "(II)V"⟩, 4), (⟨"StrataRepo$Match", "measure", "(LStrataRepo$Tree;LStrataRepo$Tree;II)V"⟩, 4), (⟨"StrataRepo$Match", "setLongest", "(III)V"⟩, 4), (⟨"StrataRepo$Match", "longestFrom", "(II)I"⟩, 4), (⟨"StrataRepo$Merging", "choose", "(I)V"⟩, 14), (⟨"StrataRepo$Merging", "isSame", "(III)Z"⟩, 14), (⟨"StrataRepo$Merging", "treeOfSide", "(I)LStrataRepo$Tree;"⟩, 14), (⟨"StrataRepo$Merging", "topOf", "(II)I"⟩, 14), (⟨"StrataRepo$Merging", "append", "(II)V"⟩, 14)]
theorem lw_r2 : ∀ q ∈ lw_privs_2, lw_okq q := List.forall_mem_cons.mpr ⟨lw_p16, List.forall_mem_cons.mpr ⟨lw_p17, List.forall_mem_cons.mpr ⟨lw_p18, List.forall_mem_cons.mpr ⟨lw_p19, List.forall_mem_cons.mpr ⟨lw_p20, List.forall_mem_cons.mpr ⟨lw_p21, List.forall_mem_cons.mpr ⟨lw_p22, List.forall_mem_cons.mpr ⟨lw_p23, List.forall_mem_cons.mpr ⟨lw_p24, List.forall_mem_cons.mpr ⟨lw_p25, List.forall_mem_cons.mpr ⟨lw_p26, List.forall_mem_cons.mpr ⟨lw_p27, List.forall_mem_cons.mpr ⟨lw_p28, List.forall_mem_cons.mpr ⟨lw_p29, List.forall_mem_cons.mpr ⟨lw_p30, List.forall_mem_cons.mpr ⟨lw_p31, fun _ h => absurd h List.not_mem_nil⟩⟩⟩⟩⟩⟩⟩⟩⟩⟩⟩⟩⟩⟩⟩⟩
theorem lw_p32 : lw_okq (⟨"StrataRepo$Merging", "appendHeldLine", "(I)V"⟩, 14) := ⟨⟨by decide +kernel, by decide +kernel⟩, List.mem_of_getElem? (i := 132) (by decide +kernel), List.mem_of_getElem? (i := 825) (by decide +kernel), List.mem_of_getElem? (i := 826) (by decide +kernel)⟩
theorem lw_p33 : lw_okq (⟨"StrataRepo", "keepMerge", "(I)V"⟩, 12) := ⟨⟨by decide +kernel, by decide +kernel⟩, List.mem_of_getElem? (i := 30) (by decide +kernel), List.mem_of_getElem? (i := 830) (by decide +kernel), List.mem_of_getElem? (i := 831) (by decide +kernel)⟩
theorem lw_p34 : lw_okq (⟨"StrataRepo", "waitWith", "(II)V"⟩, 12) := ⟨⟨by decide +kernel, by decide +kernel⟩, List.mem_of_getElem? (i := 30) (by decide +kernel), List.mem_of_getElem? (i := 834) (by decide +kernel), List.mem_of_getElem? (i := 835) (by decide +kernel)⟩
theorem lw_p35 : lw_okq (⟨"StrataRepo", "parentTreeOf", "(I)LStrataRepo$Tree;"⟩, 12) := ⟨⟨by decide +kernel, by decide +kernel⟩, List.mem_of_getElem? (i := 30) (by decide +kernel), List.mem_of_getElem? (i := 845) (by decide +kernel), List.mem_of_getElem? (i := 846) (by decide +kernel)⟩
theorem lw_p36 : lw_okq (⟨"StrataRepo", "keepOrWait", "(II)I"⟩, 12) := ⟨⟨by decide +kernel, by decide +kernel⟩, List.mem_of_getElem? (i := 30) (by decide +kernel), List.mem_of_getElem? (i := 849) (by decide +kernel), List.mem_of_getElem? (i := 850) (by decide +kernel)⟩
theorem lw_p37 : lw_okq (⟨"StrataRepo", "keepIfOther", "(I)Z"⟩, 12) := ⟨⟨by decide +kernel, by decide +kernel⟩, List.mem_of_getElem? (i := 30) (by decide +kernel), List.mem_of_getElem? (i := 853) (by decide +kernel), List.mem_of_getElem? (i := 854) (by decide +kernel)⟩
theorem lw_p38 : lw_okq (⟨"StrataRepo", "carryQueue", "()I"⟩, 12) := ⟨⟨by decide +kernel, by decide +kernel⟩, List.mem_of_getElem? (i := 30) (by decide +kernel), List.mem_of_getElem? (i := 875) (by decide +kernel), List.mem_of_getElem? (i := 876) (by decide +kernel)⟩
theorem lw_p39 : lw_okq (⟨"StrataRepo", "needWork", "()V"⟩, 12) := ⟨⟨by decide +kernel, by decide +kernel⟩, List.mem_of_getElem? (i := 30) (by decide +kernel), List.mem_of_getElem? (i := 886) (by decide +kernel), List.mem_of_getElem? (i := 887) (by decide +kernel)⟩
theorem lw_p40 : lw_okq (⟨"StrataRepo", "needLine", "(III)V"⟩, 12) := ⟨⟨by decide +kernel, by decide +kernel⟩, List.mem_of_getElem? (i := 30) (by decide +kernel), List.mem_of_getElem? (i := 972) (by decide +kernel), List.mem_of_getElem? (i := 973) (by decide +kernel)⟩
theorem lw_p41 : lw_okq (⟨"StrataRepo", "needBoth", "(II)V"⟩, 12) := ⟨⟨by decide +kernel, by decide +kernel⟩, List.mem_of_getElem? (i := 30) (by decide +kernel), List.mem_of_getElem? (i := 983) (by decide +kernel), List.mem_of_getElem? (i := 984) (by decide +kernel)⟩
theorem lw_p42 : lw_okq (⟨"StrataRepo", "placeBefore", "(ILStrataRepo$Commit;II)I"⟩, 12) := ⟨⟨by decide +kernel, by decide +kernel⟩, List.mem_of_getElem? (i := 30) (by decide +kernel), List.mem_of_getElem? (i := 1032) (by decide +kernel), List.mem_of_getElem? (i := 1033) (by decide +kernel)⟩
theorem lw_p43 : lw_okq (⟨"StrataRepoModel", "refuse", "(I)I"⟩, 30) := ⟨⟨by decide +kernel, by decide +kernel⟩, List.mem_of_getElem? (i := 1074) (by decide +kernel), List.mem_of_getElem? (i := 1192) (by decide +kernel), List.mem_of_getElem? (i := 1193) (by decide +kernel)⟩
theorem lw_p44 : lw_okq (⟨"StrataRepoModel", "hasPlace", "(II)Z"⟩, 30) := ⟨⟨by decide +kernel, by decide +kernel⟩, List.mem_of_getElem? (i := 1074) (by decide +kernel), List.mem_of_getElem? (i := 1223) (by decide +kernel), List.mem_of_getElem? (i := 1224) (by decide +kernel)⟩
theorem lw_p45 : lw_okq (⟨"StrataRepoModel", "headTree", "()[[I"⟩, 30) := ⟨⟨by decide +kernel, by decide +kernel⟩, List.mem_of_getElem? (i := 1074) (by decide +kernel), List.mem_of_getElem? (i := 1236) (by decide +kernel), List.mem_of_getElem? (i := 1237) (by decide +kernel)⟩
theorem lw_p46 : lw_okq (⟨"StrataRepoModel", "treeOf", "(I)[[I"⟩, 30) := ⟨⟨by decide +kernel, by decide +kernel⟩, List.mem_of_getElem? (i := 1074) (by decide +kernel), List.mem_of_getElem? (i := 1240) (by decide +kernel), List.mem_of_getElem? (i := 1241) (by decide +kernel)⟩
theorem lw_p47 : lw_okq (⟨"StrataRepoModel", "takeDesk", "()V"⟩, 30) := ⟨⟨by decide +kernel, by decide +kernel⟩, List.mem_of_getElem? (i := 1074) (by decide +kernel), List.mem_of_getElem? (i := 1355) (by decide +kernel), List.mem_of_getElem? (i := 1356) (by decide +kernel)⟩
def lw_privs_3 : List (MethodName × Nat) := [(⟨"StrataRepo$Merging", "appendHeldLine", "(I)V"⟩, 14), (⟨"StrataRepo", "keepMerge", "(I)V"⟩, 12), (⟨"StrataRepo", "waitWith", "(II)V"⟩, 12), (⟨"StrataRepo", "parentTreeOf", "(I)LStrataRepo$Tree;"⟩, 12), (⟨"StrataRepo", "keepOrWait", "(II)I"⟩, 12), (⟨"StrataRepo", "keepIfOther", "(I)Z"⟩, 12), (⟨"StrataRepo", "carryQueue", "()I"⟩, 12), (⟨"StrataRepo", "needWork", "()V"⟩, 12), (⟨"StrataRepo", "needLine", "(III)V"⟩, 12), (⟨"StrataRepo", "needBoth", "(II)V"⟩, 12), (⟨"StrataRepo", "placeBefore", "(ILStrataRepo$Commit;II)I"⟩, 12), (⟨"StrataRepoModel", "refuse", "(I)I"⟩, 30), (⟨"StrataRepoModel", "hasPlace", "(II)Z"⟩, 30), (⟨"StrataRepoModel", "headTree", "()[[I"⟩, 30), (⟨"StrataRepoModel", "treeOf", "(I)[[I"⟩, 30), (⟨"StrataRepoModel", "takeDesk", "()V"⟩, 30)]
theorem lw_r3 : ∀ q ∈ lw_privs_3, lw_okq q := List.forall_mem_cons.mpr ⟨lw_p32, List.forall_mem_cons.mpr ⟨lw_p33, List.forall_mem_cons.mpr ⟨lw_p34, List.forall_mem_cons.mpr ⟨lw_p35, List.forall_mem_cons.mpr ⟨lw_p36, List.forall_mem_cons.mpr ⟨lw_p37, List.forall_mem_cons.mpr ⟨lw_p38, List.forall_mem_cons.mpr ⟨lw_p39, List.forall_mem_cons.mpr ⟨lw_p40, List.forall_mem_cons.mpr ⟨lw_p41, List.forall_mem_cons.mpr ⟨lw_p42, List.forall_mem_cons.mpr ⟨lw_p43, List.forall_mem_cons.mpr ⟨lw_p44, List.forall_mem_cons.mpr ⟨lw_p45, List.forall_mem_cons.mpr ⟨lw_p46, List.forall_mem_cons.mpr ⟨lw_p47, fun _ h => absurd h List.not_mem_nil⟩⟩⟩⟩⟩⟩⟩⟩⟩⟩⟩⟩⟩⟩⟩⟩
theorem lw_p48 : lw_okq (⟨"StrataRepoModel", "clean", "()Z"⟩, 30) := ⟨⟨by decide +kernel, by decide +kernel⟩, List.mem_of_getElem? (i := 1074) (by decide +kernel), List.mem_of_getElem? (i := 1367) (by decide +kernel), List.mem_of_getElem? (i := 1368) (by decide +kernel)⟩
theorem lw_p49 : lw_okq (⟨"StrataRepoModel", "make", "([[IIII)I"⟩, 30) := ⟨⟨by decide +kernel, by decide +kernel⟩, List.mem_of_getElem? (i := 1074) (by decide +kernel), List.mem_of_getElem? (i := 1371) (by decide +kernel), List.mem_of_getElem? (i := 1372) (by decide +kernel)⟩
theorem lw_p50 : lw_okq (⟨"StrataRepoModel", "isThereBranch", "(I)Z"⟩, 30) := ⟨⟨by decide +kernel, by decide +kernel⟩, List.mem_of_getElem? (i := 1074) (by decide +kernel), List.mem_of_getElem? (i := 1383) (by decide +kernel), List.mem_of_getElem? (i := 1384) (by decide +kernel)⟩
theorem lw_p51 : lw_okq (⟨"StrataRepoModel", "reached", "()J"⟩, 30) := ⟨⟨by decide +kernel, by decide +kernel⟩, List.mem_of_getElem? (i := 1074) (by decide +kernel), List.mem_of_getElem? (i := 1391) (by decide +kernel), List.mem_of_getElem? (i := 1392) (by decide +kernel)⟩
theorem lw_p52 : lw_okq (⟨"StrataRepoModel", "isCommit", "(I)Z"⟩, 30) := ⟨⟨by decide +kernel, by decide +kernel⟩, List.mem_of_getElem? (i := 1074) (by decide +kernel), List.mem_of_getElem? (i := 1401) (by decide +kernel), List.mem_of_getElem? (i := 1402) (by decide +kernel)⟩
theorem lw_p53 : lw_okq (⟨"StrataRepoModel", "moveTo", "(I)I"⟩, 30) := ⟨⟨by decide +kernel, by decide +kernel⟩, List.mem_of_getElem? (i := 1074) (by decide +kernel), List.mem_of_getElem? (i := 1408) (by decide +kernel), List.mem_of_getElem? (i := 1409) (by decide +kernel)⟩
theorem lw_p54 : lw_okq (⟨"StrataRepoModel", "made", "()J"⟩, 30) := ⟨⟨by decide +kernel, by decide +kernel⟩, List.mem_of_getElem? (i := 1074) (by decide +kernel), List.mem_of_getElem? (i := 1416) (by decide +kernel), List.mem_of_getElem? (i := 1417) (by decide +kernel)⟩
theorem lw_p55 : lw_okq (⟨"StrataRepoModel", "canMix", "(IZ)Z"⟩, 30) := ⟨⟨by decide +kernel, by decide +kernel⟩, List.mem_of_getElem? (i := 1074) (by decide +kernel), List.mem_of_getElem? (i := 1424) (by decide +kernel), List.mem_of_getElem? (i := 1425) (by decide +kernel)⟩
theorem lw_p56 : lw_okq (⟨"StrataRepoModel", "isAnc", "(II)Z"⟩, 30) := ⟨⟨by decide +kernel, by decide +kernel⟩, List.mem_of_getElem? (i := 1074) (by decide +kernel), List.mem_of_getElem? (i := 1428) (by decide +kernel), List.mem_of_getElem? (i := 1429) (by decide +kernel)⟩
theorem lw_p57 : lw_okq (⟨"StrataRepoModel", "baseOf", "(II)I"⟩, 30) := ⟨⟨by decide +kernel, by decide +kernel⟩, List.mem_of_getElem? (i := 1074) (by decide +kernel), List.mem_of_getElem? (i := 1432) (by decide +kernel), List.mem_of_getElem? (i := 1433) (by decide +kernel)⟩
theorem lw_p58 : lw_okq (⟨"StrataRepoModel", "setUp", "(II[[I[[I)I"⟩, 30) := ⟨⟨by decide +kernel, by decide +kernel⟩, List.mem_of_getElem? (i := 1074) (by decide +kernel), List.mem_of_getElem? (i := 1437) (by decide +kernel), List.mem_of_getElem? (i := 1438) (by decide +kernel)⟩
theorem lw_p59 : lw_okq (⟨"StrataRepoModel", "merged", "([[I[[I[[I[II)[[I"⟩, 30) := ⟨⟨by decide +kernel, by decide +kernel⟩, List.mem_of_getElem? (i := 1074) (by decide +kernel), List.mem_of_getElem? (i := 1441) (by decide +kernel), List.mem_of_getElem? (i := 1442) (by decide +kernel)⟩
theorem lw_p60 : lw_okq (⟨"StrataRepoModel", "mergeFile", "(I[I[I[I[I)[I"⟩, 30) := ⟨⟨by decide +kernel, by decide +kernel⟩, List.mem_of_getElem? (i := 1074) (by decide +kernel), List.mem_of_getElem? (i := 1445) (by decide +kernel), List.mem_of_getElem? (i := 1446) (by decide +kernel)⟩
theorem lw_p61 : lw_okq (⟨"StrataRepoModel", "mergeLines", "(I[I[I[I[I)[I"⟩, 30) := ⟨⟨by decide +kernel, by decide +kernel⟩, List.mem_of_getElem? (i := 1074) (by decide +kernel), List.mem_of_getElem? (i := 1449) (by decide +kernel), List.mem_of_getElem? (i := 1450) (by decide +kernel)⟩
theorem lw_p62 : lw_okq (⟨"StrataRepoModel", "match", "([I[I)[I"⟩, 30) := ⟨⟨by decide +kernel, by decide +kernel⟩, List.mem_of_getElem? (i := 1074) (by decide +kernel), List.mem_of_getElem? (i := 1453) (by decide +kernel), List.mem_of_getElem? (i := 1454) (by decide +kernel)⟩
theorem lw_p63 : lw_okq (⟨"StrataRepoModel", "mergePiece", "(I[I[I[I[I)V"⟩, 30) := ⟨⟨by decide +kernel, by decide +kernel⟩, List.mem_of_getElem? (i := 1074) (by decide +kernel), List.mem_of_getElem? (i := 1693) (by decide +kernel), List.mem_of_getElem? (i := 1694) (by decide +kernel)⟩
def lw_privs_4 : List (MethodName × Nat) := [(⟨"StrataRepoModel", "clean", "()Z"⟩, 30), (⟨"StrataRepoModel", "make", "([[IIII)I"⟩, 30), (⟨"StrataRepoModel", "isThereBranch", "(I)Z"⟩, 30), (⟨"StrataRepoModel", "reached", "()J"⟩, 30), (⟨"StrataRepoModel", "isCommit", "(I)Z"⟩, 30), (⟨"StrataRepoModel", "moveTo", "(I)I"⟩, 30), (⟨"StrataRepoModel", "made", "()J"⟩, 30), (⟨"StrataRepoModel", "canMix", "(IZ)Z"⟩, 30), (⟨"StrataRepoModel", "isAnc", "(II)Z"⟩, 30), (⟨"StrataRepoModel", "baseOf", "(II)I"⟩, 30), (⟨"StrataRepoModel", "setUp", "(II[[I[[I)I"⟩, 30), (⟨"StrataRepoModel", "merged", "([[I[[I[[I[II)[[I"⟩, 30), (⟨"StrataRepoModel", "mergeFile", "(I[I[I[I[I)[I"⟩, 30), (⟨"StrataRepoModel", "mergeLines", "(I[I[I[I[I)[I"⟩, 30), (⟨"StrataRepoModel", "match", "([I[I)[I"⟩, 30), (⟨"StrataRepoModel", "mergePiece", "(I[I[I[I[I)V"⟩, 30)]
theorem lw_r4 : ∀ q ∈ lw_privs_4, lw_okq q := List.forall_mem_cons.mpr ⟨lw_p48, List.forall_mem_cons.mpr ⟨lw_p49, List.forall_mem_cons.mpr ⟨lw_p50, List.forall_mem_cons.mpr ⟨lw_p51, List.forall_mem_cons.mpr ⟨lw_p52, List.forall_mem_cons.mpr ⟨lw_p53, List.forall_mem_cons.mpr ⟨lw_p54, List.forall_mem_cons.mpr ⟨lw_p55, List.forall_mem_cons.mpr ⟨lw_p56, List.forall_mem_cons.mpr ⟨lw_p57, List.forall_mem_cons.mpr ⟨lw_p58, List.forall_mem_cons.mpr ⟨lw_p59, List.forall_mem_cons.mpr ⟨lw_p60, List.forall_mem_cons.mpr ⟨lw_p61, List.forall_mem_cons.mpr ⟨lw_p62, List.forall_mem_cons.mpr ⟨lw_p63, fun _ h => absurd h List.not_mem_nil⟩⟩⟩⟩⟩⟩⟩⟩⟩⟩⟩⟩⟩⟩⟩⟩
theorem lw_p64 : lw_okq (⟨"StrataRepoModel", "lay", "([I)V"⟩, 30) := ⟨⟨by decide +kernel, by decide +kernel⟩, List.mem_of_getElem? (i := 1074) (by decide +kernel), List.mem_of_getElem? (i := 1697) (by decide +kernel), List.mem_of_getElem? (i := 1698) (by decide +kernel)⟩
theorem lw_p65 : lw_okq (⟨"StrataRepoModel", "meet", "(I[I[I[I)V"⟩, 30) := ⟨⟨by decide +kernel, by decide +kernel⟩, List.mem_of_getElem? (i := 1074) (by decide +kernel), List.mem_of_getElem? (i := 1704) (by decide +kernel), List.mem_of_getElem? (i := 1705) (by decide +kernel)⟩
theorem lw_p66 : lw_okq (⟨"StrataRepoModel", "finish", "(Z)Z"⟩, 30) := ⟨⟨by decide +kernel, by decide +kernel⟩, List.mem_of_getElem? (i := 1074) (by decide +kernel), List.mem_of_getElem? (i := 1708) (by decide +kernel), List.mem_of_getElem? (i := 1709) (by decide +kernel)⟩
theorem lw_p67 : lw_okq (⟨"StrataRepoModel", "canCarry", "(IZ)Z"⟩, 30) := ⟨⟨by decide +kernel, by decide +kernel⟩, List.mem_of_getElem? (i := 1074) (by decide +kernel), List.mem_of_getElem? (i := 1716) (by decide +kernel), List.mem_of_getElem? (i := 1717) (by decide +kernel)⟩
theorem lw_p68 : lw_okq (⟨"StrataRepoModel", "setUpCarry", "(II)I"⟩, 30) := ⟨⟨by decide +kernel, by decide +kernel⟩, List.mem_of_getElem? (i := 1074) (by decide +kernel), List.mem_of_getElem? (i := 1720) (by decide +kernel), List.mem_of_getElem? (i := 1721) (by decide +kernel)⟩
theorem lw_p69 : lw_okq (⟨"StrataRepoModel", "replayOn", "()I"⟩, 30) := ⟨⟨by decide +kernel, by decide +kernel⟩, List.mem_of_getElem? (i := 1074) (by decide +kernel), List.mem_of_getElem? (i := 1732) (by decide +kernel), List.mem_of_getElem? (i := 1733) (by decide +kernel)⟩
theorem lw_p70 : lw_okq (⟨"StrataRepoModel", "open", "()I"⟩, 30) := ⟨⟨by decide +kernel, by decide +kernel⟩, List.mem_of_getElem? (i := 1074) (by decide +kernel), List.mem_of_getElem? (i := 1741) (by decide +kernel), List.mem_of_getElem? (i := 1742) (by decide +kernel)⟩
theorem lw_p71 : lw_okq (⟨"StrataRepoModel", "leftNow", "()I"⟩, 30) := ⟨⟨by decide +kernel, by decide +kernel⟩, List.mem_of_getElem? (i := 1074) (by decide +kernel), List.mem_of_getElem? (i := 1769) (by decide +kernel), List.mem_of_getElem? (i := 1770) (by decide +kernel)⟩
theorem lw_p72 : lw_okq (⟨"StrataRepoModel", "finds", "(I)Z"⟩, 30) := ⟨⟨by decide +kernel, by decide +kernel⟩, List.mem_of_getElem? (i := 1074) (by decide +kernel), List.mem_of_getElem? (i := 1777) (by decide +kernel), List.mem_of_getElem? (i := 1778) (by decide +kernel)⟩
theorem lw_p73 : lw_okq (⟨"StrataRepoModel", "sizeOf", "(I)I"⟩, 30) := ⟨⟨by decide +kernel, by decide +kernel⟩, List.mem_of_getElem? (i := 1074) (by decide +kernel), List.mem_of_getElem? (i := 1785) (by decide +kernel), List.mem_of_getElem? (i := 1786) (by decide +kernel)⟩
theorem lw_p74 : lw_okq (⟨"StrataRepoModel", "asks", "(I)Z"⟩, 30) := ⟨⟨by decide +kernel, by decide +kernel⟩, List.mem_of_getElem? (i := 1074) (by decide +kernel), List.mem_of_getElem? (i := 1820) (by decide +kernel), List.mem_of_getElem? (i := 1821) (by decide +kernel)⟩
theorem lw_p75 : lw_okq (⟨"StrataRepoModel", "asksLine", "(III)Z"⟩, 30) := ⟨⟨by decide +kernel, by decide +kernel⟩, List.mem_of_getElem? (i := 1074) (by decide +kernel), List.mem_of_getElem? (i := 1840) (by decide +kernel), List.mem_of_getElem? (i := 1841) (by decide +kernel)⟩
theorem lw_p76 : lw_okq (⟨"StrataRepoModel", "asks", "(II)Z"⟩, 30) := ⟨⟨by decide +kernel, by decide +kernel⟩, List.mem_of_getElem? (i := 1074) (by decide +kernel), List.mem_of_getElem? (i := 1856) (by decide +kernel), List.mem_of_getElem? (i := 1857) (by decide +kernel)⟩
theorem lw_p77 : lw_okq (⟨"StrataRepoModel", "linesOf", "(II)[I"⟩, 30) := ⟨⟨by decide +kernel, by decide +kernel⟩, List.mem_of_getElem? (i := 1074) (by decide +kernel), List.mem_of_getElem? (i := 1876) (by decide +kernel), List.mem_of_getElem? (i := 1877) (by decide +kernel)⟩
theorem lw_p78 : lw_okq (⟨"StrataRepoModel", "from", "(III)I"⟩, 30) := ⟨⟨by decide +kernel, by decide +kernel⟩, List.mem_of_getElem? (i := 1074) (by decide +kernel), List.mem_of_getElem? (i := 1888) (by decide +kernel), List.mem_of_getElem? (i := 1889) (by decide +kernel)⟩
theorem lw_p79 : lw_okq (⟨"StrataRepoModel", "depth", "(I)I"⟩, 30) := ⟨⟨by decide +kernel, by decide +kernel⟩, List.mem_of_getElem? (i := 1074) (by decide +kernel), List.mem_of_getElem? (i := 1896) (by decide +kernel), List.mem_of_getElem? (i := 1897) (by decide +kernel)⟩
def lw_privs_5 : List (MethodName × Nat) := [(⟨"StrataRepoModel", "lay", "([I)V"⟩, 30), (⟨"StrataRepoModel", "meet", "(I[I[I[I)V"⟩, 30), (⟨"StrataRepoModel", "finish", "(Z)Z"⟩, 30), (⟨"StrataRepoModel", "canCarry", "(IZ)Z"⟩, 30), (⟨"StrataRepoModel", "setUpCarry", "(II)I"⟩, 30), (⟨"StrataRepoModel", "replayOn", "()I"⟩, 30), (⟨"StrataRepoModel", "open", "()I"⟩, 30), (⟨"StrataRepoModel", "leftNow", "()I"⟩, 30), (⟨"StrataRepoModel", "finds", "(I)Z"⟩, 30), (⟨"StrataRepoModel", "sizeOf", "(I)I"⟩, 30), (⟨"StrataRepoModel", "asks", "(I)Z"⟩, 30), (⟨"StrataRepoModel", "asksLine", "(III)Z"⟩, 30), (⟨"StrataRepoModel", "asks", "(II)Z"⟩, 30), (⟨"StrataRepoModel", "linesOf", "(II)[I"⟩, 30), (⟨"StrataRepoModel", "from", "(III)I"⟩, 30), (⟨"StrataRepoModel", "depth", "(I)I"⟩, 30)]
theorem lw_r5 : ∀ q ∈ lw_privs_5, lw_okq q := List.forall_mem_cons.mpr ⟨lw_p64, List.forall_mem_cons.mpr ⟨lw_p65, List.forall_mem_cons.mpr ⟨lw_p66, List.forall_mem_cons.mpr ⟨lw_p67, List.forall_mem_cons.mpr ⟨lw_p68, List.forall_mem_cons.mpr ⟨lw_p69, List.forall_mem_cons.mpr ⟨lw_p70, List.forall_mem_cons.mpr ⟨lw_p71, List.forall_mem_cons.mpr ⟨lw_p72, List.forall_mem_cons.mpr ⟨lw_p73, List.forall_mem_cons.mpr ⟨lw_p74, List.forall_mem_cons.mpr ⟨lw_p75, List.forall_mem_cons.mpr ⟨lw_p76, List.forall_mem_cons.mpr ⟨lw_p77, List.forall_mem_cons.mpr ⟨lw_p78, List.forall_mem_cons.mpr ⟨lw_p79, fun _ h => absurd h List.not_mem_nil⟩⟩⟩⟩⟩⟩⟩⟩⟩⟩⟩⟩⟩⟩⟩⟩
theorem lw_p80 : lw_okq (⟨"StrataRepoModel", "probeNow", "()I"⟩, 30) := ⟨⟨by decide +kernel, by decide +kernel⟩, List.mem_of_getElem? (i := 1074) (by decide +kernel), List.mem_of_getElem? (i := 1908) (by decide +kernel), List.mem_of_getElem? (i := 1909) (by decide +kernel)⟩
theorem lw_p81 : lw_okq (⟨"StrataRepoModel", "culpritNow", "()I"⟩, 30) := ⟨⟨by decide +kernel, by decide +kernel⟩, List.mem_of_getElem? (i := 1074) (by decide +kernel), List.mem_of_getElem? (i := 1921) (by decide +kernel), List.mem_of_getElem? (i := 1922) (by decide +kernel)⟩
theorem lw_p82 : lw_okq (⟨"StrataRepoModel", "add", "(I)V"⟩, 30) := ⟨⟨by decide +kernel, by decide +kernel⟩, List.mem_of_getElem? (i := 1074) (by decide +kernel), List.mem_of_getElem? (i := 1942) (by decide +kernel), List.mem_of_getElem? (i := 1943) (by decide +kernel)⟩
theorem lw_p83 : lw_okq (⟨"StrataRepoModel", "addTree", "([[I)V"⟩, 30) := ⟨⟨by decide +kernel, by decide +kernel⟩, List.mem_of_getElem? (i := 1074) (by decide +kernel), List.mem_of_getElem? (i := 1947) (by decide +kernel), List.mem_of_getElem? (i := 1948) (by decide +kernel)⟩
def lw_privs_6 : List (MethodName × Nat) := [(⟨"StrataRepoModel", "probeNow", "()I"⟩, 30), (⟨"StrataRepoModel", "culpritNow", "()I"⟩, 30), (⟨"StrataRepoModel", "add", "(I)V"⟩, 30), (⟨"StrataRepoModel", "addTree", "([[I)V"⟩, 30)]
theorem lw_r6 : ∀ q ∈ lw_privs_6, lw_okq q := List.forall_mem_cons.mpr ⟨lw_p80, List.forall_mem_cons.mpr ⟨lw_p81, List.forall_mem_cons.mpr ⟨lw_p82, List.forall_mem_cons.mpr ⟨lw_p83, fun _ h => absurd h List.not_mem_nil⟩⟩⟩⟩
def lw_privs : List (MethodName × Nat) := lw_privs_1 ++ (lw_privs_2 ++ (lw_privs_3 ++ (lw_privs_4 ++ (lw_privs_5 ++ (lw_privs_6)))))
def lw_tbl : List Cond := k2_sels lw_privs ++ tables_1
theorem lw_privs_ok : ∀ q ∈ lw_privs, lw_okq q := by
  show ∀ q ∈ lw_privs_1 ++ (lw_privs_2 ++ (lw_privs_3 ++ (lw_privs_4 ++ (lw_privs_5 ++ (lw_privs_6))))), lw_okq q
  exact List.forall_mem_append.mpr ⟨lw_r1, List.forall_mem_append.mpr ⟨lw_r2, List.forall_mem_append.mpr ⟨lw_r3, List.forall_mem_append.mpr ⟨lw_r4, List.forall_mem_append.mpr ⟨lw_r5, lw_r6⟩⟩⟩⟩⟩
/-- the streams that the claim lets the run draw from -/
abbrev lw_cs : List Choice := [Jvm.Choice.named "NaN.bits"]
theorem lw_bits : nanBits ∈ lw_cs := by first | decide | exact List.mem_cons_self | simp [lw_cs, nanBits]
end
section
/-! ===== BEGIN words of one list among another's, by their places ===== -/
theorem goodIn_r {big : List Cond} (ws : List Cond) (ps : List Nat) (hp : ws = ps.filterMap (fun i => big[i]?)) (h : ws.all goodWord = true) : GoodIn big ws := by
  intro w hw
  have h1 := List.all_eq_true.mp h w hw
  rw [hp] at hw
  obtain ⟨i, -, hi⟩ := List.mem_filterMap.mp hw
  have hm : w ∈ big := by first | exact List.mem_of_getElem? hi | exact List.getElem?_mem hi
  exact ⟨hm, good_of_word h1⟩
theorem goodIn_app {big a b : List Cond} (ha : GoodIn big a) (hb : GoodIn big b) : GoodIn big (a ++ b) := fun w h => (List.mem_append.mp h).elim (ha w) (hb w)
theorem goodIn_ca {big a b : List Cond} {c : Cond} (ha : GoodIn big (c :: a)) (hb : GoodIn big b) : GoodIn big (c :: (a ++ b)) := fun w h => (List.mem_cons.mp h).elim (fun e => ha w (List.mem_cons.mpr (Or.inl e))) (fun h => (List.mem_append.mp h).elim (fun h => ha w (List.mem_cons.mpr (Or.inr h))) (hb w))
theorem goodIn_sub {big ws : List Cond} (hm : ∀ w ∈ ws, w ∈ big) (h : ws.all goodWord = true) : GoodIn big ws := fun w hw => ⟨hm w hw, good_of_word (List.all_eq_true.mp h w hw)⟩
/-! ===== END ===== -/
/-! ===== BEGIN exceptions that leave a method, and their catching by the caller (launches without stack traces) ===== -/
section VXA
/-! The laws vx_back, vx_callV, vx_callS, vx_callSW, vx_throw0, vx_throwS follow proofs of the library, with one case more: JvmDerived/Free/Laws.lean (Back.of_free), Shelf42/LK1.lean (callV, callS), Shelf/KitTraced.lean (throwNew0V, throwNewS). -/
/-- where a method has thrown q: the class by its name, the cell, what was written, the world -/
def vx_T (XC : String → State → State → Prop) (st : State) (q : Addr) (t : State) (mc ms : Nat) (free : Addr → Prop) : Prop :=
  ∃ (E : String) (ce : Cell) (L : List Loc), XC E st t ∧ t.heap[q]? = some ce ∧ ce.vm = .none ∧ st.vm.findClass E = some ce.cls ∧ st.WarmedH t.vm ∧ st.sameButNew ({ t with vm := st.vm } : State) L mc ms ∧ ∀ z ∈ L, free z.base
def vx_Q (Qc : Array Value → State → Outcome → State → Prop) (XC : String → State → State → Prop) (mc ms : Nat) (free : Addr → Prop) : Array Value → State → Outcome → State → Prop := fun a st o t =>
  (Qc a st o t ∧ ∃ L, FrameEnd st o t L mc ms ∧ ∀ q ∈ L, free q.base) ∨ ∃ q, o = .threw q ∧ vx_T XC st q t mc ms free
/-- a callee that returns or throws -/
def vx_Met (l : Launch) (y : MethodName) (ws : List Cond) (rm : Room) (Pc : Array Value → State → Prop) (Qc : Array Value → State → Outcome → State → Prop) (XC : String → State → State → Prop) (mc ms : Nat) (free : Addr → Prop) : Prop :=
  MetFree l y (headSpec ws rm) Pc (fun _ _ _ _ _ => True) (vx_Q Qc XC mc ms free)
def vx_Post (XC : String → State → State → Prop) (mc ms : Nat) (free : Addr → Prop) : Pt → Array Value → Addr → Pt → Prop := fun A a q B =>
  ∃ (g : JFrame) (mk : MethodId) (t : State) (L : List Loc) (E : String) (ce : Cell), B.U.heap = t.heap ∧ B.U.vm = t.vm ∧ XC E (A.U.calling g mk a) t ∧ t.heap[q]? = some ce ∧ ce.vm = .none ∧ A.U.vm.findClass E = some ce.cls ∧ B.locs = A.locs ++ L ∧ (∀ z ∈ L, free z.base) ∧ B.cells = A.cells + mc ∧ B.slots = A.slots + ms
def vx_Back (l : Launch) (R : Room) (p : Program) (e : Env) (below : List Frame) (s : State) (sargs : Array Value) (y : MethodName) (len W9 : Nat)
    (Pre : Pt → Array Value → Prop) (Post : Pt → Array Value → Option Value → Pt → Prop) (PostX : Pt → Array Value → Addr → Pt → Prop) : Prop :=
  ∀ (m : MethodId) (meth : Method) (c : Code) (A : Pt) (g : JFrame) (ig : Instr) (mk : MethodId) (a : Array Value),
    Stand p l e R s m sargs below meth c A.U A.locs A.cells A.slots → g.method = m → g.locals.size = c.maxLocals → decode c.code g.pc = .ok (ig, len) →
    2 * g.monitorRoom + (g.stack.map fun v => v.category).sum ≤ W9 → A.U.methodNamed? y = some mk → Pre A a →
    (∃ (v : Option Value) (B : Pt), Stand p l e R s m sargs below meth c B.U B.locs B.cells B.slots ∧ Post A a v B ∧
      Steps p.tables e below (doInvoke e (A.U.setTop g) [] mk a).1 (B.U.setTop { g with pc := g.pc + len, stack := v.toList ++ g.stack })) ∨
    (∃ (q : Addr) (B : Pt), Stand p l e R s m sargs below meth c B.U B.locs B.cells B.slots ∧ PostX A a q B ∧
      Steps p.tables e below (doInvoke e (A.U.setTop g) [] mk a).1 ((B.U.setTop g).pushFrame (.throwing q)))
section Payer
variable {l : Launch} {R : Room} {p : Program} {e : Env} {below : List Frame} {s : State} {sargs : Array Value} {y : MethodName} {len W9 : Nat}
theorem vx_back {ws : List Cond} {rm : Room} {Pc : Array Value → State → Prop} {Qc : Array Value → State → Outcome → State → Prop} {XC : String → State → State → Prop} {mc ms : Nat} {free : Addr → Prop} {bytes : ByteArray} {maxL : Nat} {ret : Option FieldType}
    (hM : vx_Met l y ws rm Pc Qc XC mc ms free) (hblind : FrameBlind Pc) (hrc : rm.cells = mc) (hrs : rm.slots = ms)
    (hframes : rm.frames + 1 ≤ R.frames) (hlocals : W9 + (maxL + 11) + rm.locals ≤ R.locals)
    (hws : ∀ w ∈ ws, ∀ a' U, s.WarmedH U.vm → w.before a' U = true) (hcode : Cond.code y bytes maxL ret ∈ ws) (hinit : ∀ a' U, s.WarmedH U.vm → (Cond.initialized y.cls).before a' U = true) :
    vx_Back l R p e below s sargs y len W9 (PreOf R mc ms Pc) (PostOf Qc mc ms free) (vx_Post XC mc ms free) := by
  intro m meth c A g ig mk a X hg hsize hdg hW hn hp
  have h1 : (headSpec ws rm).pre.before a A.U = true := atoms_intro fun w hw => hws w hw _ _ X.warmed
  have h2 : (Cond.code y bytes maxL ret).before a A.U = true := hws _ hcode _ _ X.warmed
  have h3 : (Cond.initialized y.cls).before a A.U = true := hinit _ _ X.warmed
  have h4 : A.cells + (headSpec ws rm).room.cells ≤ R.cells := by rw [show (headSpec ws rm).room.cells = mc from hrc]; exact hp.1
  have h5 : A.slots + (headSpec ws rm).room.slots ≤ R.slots := by rw [show (headSpec ws rm).room.slots = ms from hrs]; exact hp.2.1
  have hPc : Pc a (A.U.calling g mk a) := hblind _ _ _ _ hp.2.2
  obtain ⟨U, Ls, c0, s0⟩ := A
  dsimp only [Pt.U, Pt.locs, Pt.cells, Pt.slots] at h1 h2 h3 h4 h5 X hn hPc ⊢
  obtain ⟨methY, cY, hmY, hcY, -, hlY, -, -, -, -⟩ := Cond.code_spec hn h2
  obtain ⟨kY, hkY, -⟩ := className_of_methodNamed hn
  have hinitY : kY.init = .initialized := Cond.initialized_spec (findClass_of_methodNamed hn) hkY h3
  have h : At U g.method c below := by rw [hg]; exact X.here
  have hlocals9 : W9 + (maxL + 11) + (headSpec ws rm).room.locals ≤ R.locals := hlocals
  have happ : (headSpec ws rm).appliesLoose y e.platform (U.calling g mk a) = true :=
    Spec.appliesLoose_calling (g := g) h hdg hn hkY hinitY
      (X.room_calling (g := g) (R' := (headSpec ws rm).room) hsize hmY hcY hframes (by rw [hlY]; omega) h4 h5) h1
  obtain ⟨mid, hmid⟩ := h.above
  have hfr : (U.setTop g).frames = (.java g :: mid) ++ below := by rw [State.frames_setTop' g h.top, hmid]; rfl
  obtain ⟨o, s₂, hsteps, -, hend, hq⟩ := Steps.callFree hM p X.admits X.cas X.clock (acts := []) hfr happ hPc trivial
  have hq' : vx_Q Qc XC mc ms free a (U.calling g mk a) o s₂ := hq
  rw [State.frames_setTop' g h.top] at hend
  obtain ⟨g₀, hg0⟩ := Option.isSome_iff_exists.mp h.top
  obtain ⟨r, hr⟩ := State.topJava?_eq_some.mp hg0
  have hr' : (({ U with heap := s₂.heap, slotsUsed := s₂.slotsUsed } : State).setVm s₂.vm).frames = .java g₀ :: r := hr
  rcases hq' with ⟨hqc, L, hfe, hL⟩ | ⟨q, rfl, E, ce, L, hx, hce, hcv, hcl, hW₂, hsm, hL⟩
  · obtain ⟨⟨v, rfl⟩, hW₂, e2, q2, q3, q4, q5, q6⟩ := id hfe
    have e3 : s₂ = ({ (U.calling g mk a).setFrames s₂.frames with heap := s₂.heap, slotsUsed := s₂.slotsUsed } : State).setVm s₂.vm := by
      have : s₂ = ({ s₂ with vm := (U.calling g mk a).vm } : State).setVm s₂.vm := rfl
      rw [e2] at this
      exact this
    obtain ⟨c₂, i₂, len₂, hc₂, hd₂, hf₂⟩ := hend
    have hW' : U.WarmedH s₂.vm := hW₂
    have hcc : c₂ = c := by
      have h1 : s₂.code? g.method = U.code? g.method := by
        rw [State.code?_eq, State.code?_eq, hW'.alike.method?]
      exact Option.some.inj (hc₂.symm.trans (h1.trans h.code))
    subst hcc
    have hlen : len₂ = len := by rw [hdg] at hd₂; cases hd₂; rfl
    subst hlen
    have hs₂ : s₂ = (({ U with heap := s₂.heap, slotsUsed := s₂.slotsUsed } : State).setVm s₂.vm).setTop { g with pc := g.pc + len₂, stack := v.toList ++ g.stack } := by
      refine e3.trans ?_
      rw [hf₂, State.calling_eq h.top, State.setFrames_setFrames, State.setTop_of_frames _ hr', hr]
      rfl
    have hsame : U.sameButNew ({ U with heap := s₂.heap, slotsUsed := s₂.slotsUsed } : State) L mc ms := by
      refine ⟨?_, q2, q3, q4, q5, q6⟩
      obtain ⟨t, ht, -⟩ := State.frames_cons hr
      show ({ U with heap := s₂.heap, slotsUsed := s₂.slotsUsed } : State) = { U.setFrames U.frames with heap := s₂.heap, slotsUsed := s₂.slotsUsed }
      rw [State.setFrames_self ht]
    subst hg
    refine Or.inl ⟨v, ⟨(({ U with heap := s₂.heap, slotsUsed := s₂.slotsUsed } : State).setVm s₂.vm), Ls ++ L, c0 + mc, s0 + ms⟩,
      ⟨X.admits, X.cas, X.clock, X.frames, X.room, X.hears, X.method, X.code, (X.here.setHeapUsed s₂.heap s₂.slotsUsed).setVm hW'.alike, X.tail, State.WarmedH.trans X.warmed hW', X.limits, X.bytes, X.same.trans (hsame.setVm s.vm)⟩,
      ⟨g, mk, s₂, L, rfl, rfl, hqc, rfl, hL, rfl, rfl⟩, ?_⟩
    show Steps p.tables e below _ ((({ U with heap := s₂.heap, slotsUsed := s₂.slotsUsed } : State).setVm s₂.vm).setTop { g with pc := g.pc + len₂, stack := v.toList ++ g.stack })
    rw [← hs₂]
    exact hsteps
  · obtain ⟨e2, q2, q3, q4, q5, q6⟩ := id hsm
    have e3 : s₂ = ({ (U.calling g mk a).setFrames s₂.frames with heap := s₂.heap, slotsUsed := s₂.slotsUsed } : State).setVm s₂.vm := by
      have : s₂ = ({ s₂ with vm := (U.calling g mk a).vm } : State).setVm s₂.vm := rfl
      rw [e2] at this
      exact this
    have hf₂ : s₂.frames = .throwing q :: .java g :: U.frames.tail := hend
    have hW' : U.WarmedH s₂.vm := hW₂
    have hs₂ : s₂ = ((({ U with heap := s₂.heap, slotsUsed := s₂.slotsUsed } : State).setVm s₂.vm).setTop g).pushFrame (.throwing q) := by
      refine e3.trans ?_
      rw [hf₂, State.calling_eq h.top, State.setFrames_setFrames, State.pushFrame, State.frames_setTop _ hr', State.setTop_of_frames _ hr', State.setFrames_setFrames, hr]
      rfl
    have hsame : U.sameButNew ({ U with heap := s₂.heap, slotsUsed := s₂.slotsUsed } : State) L mc ms := by
      refine ⟨?_, q2, q3, q4, q5, q6⟩
      obtain ⟨t, ht, -⟩ := State.frames_cons hr
      show ({ U with heap := s₂.heap, slotsUsed := s₂.slotsUsed } : State) = { U.setFrames U.frames with heap := s₂.heap, slotsUsed := s₂.slotsUsed }
      rw [State.setFrames_self ht]
    subst hg
    refine Or.inr ⟨q, ⟨(({ U with heap := s₂.heap, slotsUsed := s₂.slotsUsed } : State).setVm s₂.vm), Ls ++ L, c0 + mc, s0 + ms⟩,
      ⟨X.admits, X.cas, X.clock, X.frames, X.room, X.hears, X.method, X.code, (X.here.setHeapUsed s₂.heap s₂.slotsUsed).setVm hW'.alike, X.tail, State.WarmedH.trans X.warmed hW', X.limits, X.bytes, X.same.trans (hsame.setVm s.vm)⟩,
      ⟨g, mk, s₂, L, E, ce, rfl, rfl, hx, hce, hcv, hcl, rfl, hL, rfl, rfl⟩, ?_⟩
    show Steps p.tables e below _ (((({ U with heap := s₂.heap, slotsUsed := s₂.slotsUsed } : State).setVm s₂.vm).setTop g).pushFrame (.throwing q))
    rw [← hs₂]
    exact hsteps
end Payer
section Calls
variable {p : Program} {l : Launch} {e : Env} {R : Room} {s : State} {m : MethodId} {args : Array Value} {below : List Frame} {meth : Method} {c : Code} {T : State} {locs : List Loc} {cells slots : Nat}
theorem vx_callV (X : Stand p l e R s m args below meth c T locs cells slots) (hexec : p.tables.exec = Jvm.exec) {own C : String} {index : Nat} {y : MethodName} {bytes : ByteArray} {maxL : Nat} {ret : Option FieldType}
    (hown : s.vm.findClass own = some m.cls) (hlink : (Cond.methodLink own index y).before args s = true) (hinst : (Cond.instanceMethod y).before args s = true) (hsel : (Cond.selects C y y).before args s = true)
    (hcode : (Cond.code y bytes maxL ret).before args s = true) (hy : y.cls ≠ "java/lang/invoke/MethodHandle" ∧ y.cls ≠ "java/lang/invoke/VarHandle")
    {W9 : Nat} {Pre : Pt → Array Value → Prop} {Post : Pt → Array Value → Option Value → Pt → Prop} {PostX : Pt → Array Value → Addr → Pt → Prop} (hK : vx_Back l R p e below s args y 3 W9 Pre Post PostX)
    {b : Addr} {cellB : Cell} (hcell : T.heap[b]? = some cellB) (hobj : cellB.vm.isStatics = false) (hcls : s.vm.findClass C = some cellB.cls)
    {g : JFrame} (hg : g.method = m) (hsize : g.locals.size = c.maxLocals) {argsL rest : List Value} (hlen : ∀ sig, parseMethodDescriptor y.desc = some sig → argsL.length = sig.parameters.length)
    (hstack : g.stack = argsL.reverse ++ .ref b :: rest) (hW : 2 * g.monitorRoom + (rest.map fun v => v.category).sum ≤ W9) (hdg : decode c.code g.pc = .ok (.invokevirtual index, 3))
    (hpre : ∀ vm₁, s.WarmedH vm₁ → Pre ⟨T.setVm vm₁, locs, cells, slots⟩ (Value.ref b :: argsL).toArray) :
    (∃ (v : Option Value) (vm₁ : Vm) (B : Pt), s.WarmedH vm₁ ∧ Stand p l e R s m args below meth c B.U B.locs B.cells B.slots ∧ Post ⟨T.setVm vm₁, locs, cells, slots⟩ (Value.ref b :: argsL).toArray v B ∧
      ∀ target, Steps p.tables e below (B.U.setTop { g with pc := g.pc + 3, stack := v.toList ++ rest }) target → Steps p.tables e below (T.setTop g) target) ∨
    (∃ (q : Addr) (vm₁ : Vm) (B : Pt), s.WarmedH vm₁ ∧ Stand p l e R s m args below meth c B.U B.locs B.cells B.slots ∧ PostX ⟨T.setVm vm₁, locs, cells, slots⟩ (Value.ref b :: argsL).toArray q B ∧
      Steps p.tables e below (T.setTop g) ((B.U.setTop { g with stack := rest }).pushFrame (.throwing q))) := by
  obtain ⟨mk, methM, hnamed, hmethM, hstM, habM⟩ := Cond.instanceMethod_spec hinst
  obtain ⟨methM', cM, hmethM', -, -, -, -, -, -, hsigM⟩ := Cond.code_spec hnamed hcode
  cases hmethM.symm.trans hmethM'
  obtain ⟨c2, r2, m2, q1, q2, q3, q4, kP, hkP, hkPi⟩ := Cond.selects_spec hsel
  cases hcls.symm.trans q1
  cases (State.methodFound?_of_named hnamed hy).symm.trans q2
  cases hnamed.symm.trans q3
  have hselP : selectMethod e.platform s.vm cellB.cls mk = .method mk := by rw [Launch.admits_selectMethod X.admits]; exact q4
  obtain ⟨vm₁, X₁, hstep₁⟩ := X.invokevirtual hexec hown hlink hnamed hmethM hstM hkP hkPi hy (a := b) (cell := cellB) hcell
    (fun z h => by rw [h] at hobj; cases hobj) hselP hmethM habM hkP hkPi (g := g) hg (argsL := argsL) (rest := rest) (hlen _ hsigM) hstack hdg
  rcases hK m meth c ⟨T.setVm vm₁, locs, cells, slots⟩ { g with stack := rest } (.invokevirtual index) mk (Value.ref b :: argsL).toArray X₁ hg hsize hdg hW (X₁.named hnamed) (hpre vm₁ X₁.warmed) with ⟨v, B, X', hpost, hsteps⟩ | ⟨q, B, X', hpost, hsteps⟩
  · exact Or.inl ⟨v, vm₁, B, X₁.warmed, X', hpost, fun target h => hstep₁ _ fun acts => by rw [doInvoke_state]; exact hsteps.trans h⟩
  · exact Or.inr ⟨q, vm₁, B, X₁.warmed, X', hpost, hstep₁ _ fun acts => by rw [doInvoke_state]; exact hsteps⟩
theorem vx_callS (X : Stand p l e R s m args below meth c T locs cells slots) (hexec : p.tables.exec = Jvm.exec) {own : String} {index : Nat} {y : MethodName} {bytes : ByteArray} {maxL : Nat} {ret : Option FieldType}
    (hown : s.vm.findClass own = some m.cls) (hlink : (Cond.methodLink own index y).before args s = true) (hstat : (Cond.static y).before args s = true) (hinit : (Cond.initialized y.cls).before args s = true)
    (hcode : (Cond.code y bytes maxL ret).before args s = true) (hy : y.cls ≠ "java/lang/invoke/MethodHandle" ∧ y.cls ≠ "java/lang/invoke/VarHandle")
    {W9 : Nat} {Pre : Pt → Array Value → Prop} {Post : Pt → Array Value → Option Value → Pt → Prop} {PostX : Pt → Array Value → Addr → Pt → Prop} (hK : vx_Back l R p e below s args y 3 W9 Pre Post PostX)
    {g : JFrame} (hg : g.method = m) (hsize : g.locals.size = c.maxLocals) {argsL rest : List Value} (hlen : ∀ sig, parseMethodDescriptor y.desc = some sig → argsL.length = sig.parameters.length)
    (hstack : g.stack = argsL.reverse ++ rest) (hW : 2 * g.monitorRoom + (rest.map fun v => v.category).sum ≤ W9) (hdg : decode c.code g.pc = .ok (.invokestatic index, 3))
    (hpre : ∀ vm₁, s.WarmedH vm₁ → Pre ⟨T.setVm vm₁, locs, cells, slots⟩ argsL.toArray) :
    (∃ (v : Option Value) (vm₁ : Vm) (B : Pt), s.WarmedH vm₁ ∧ Stand p l e R s m args below meth c B.U B.locs B.cells B.slots ∧ Post ⟨T.setVm vm₁, locs, cells, slots⟩ argsL.toArray v B ∧
      ∀ target, Steps p.tables e below (B.U.setTop { g with pc := g.pc + 3, stack := v.toList ++ rest }) target → Steps p.tables e below (T.setTop g) target) ∨
    (∃ (q : Addr) (vm₁ : Vm) (B : Pt), s.WarmedH vm₁ ∧ Stand p l e R s m args below meth c B.U B.locs B.cells B.slots ∧ PostX ⟨T.setVm vm₁, locs, cells, slots⟩ argsL.toArray q B ∧
      Steps p.tables e below (T.setTop g) ((B.U.setTop { g with stack := rest }).pushFrame (.throwing q))) := by
  obtain ⟨mk, hnamed⟩ := Cond.code_named hcode
  obtain ⟨methM, cM, hmethM, -, -, -, -, -, -, hsigM⟩ := Cond.code_spec hnamed hcode
  have hstatic : methM.isStatic = true := Cond.static_spec hnamed hmethM hstat
  obtain ⟨kP, hkP, -⟩ := className_of_methodNamed hnamed
  have hinitP : kP.init = .initialized := Cond.initialized_spec (findClass_of_methodNamed hnamed) hkP hinit
  obtain ⟨vm₁, X₁, hstep₁⟩ := X.invokestatic hexec hown hlink hnamed hmethM hstatic hkP hinitP hy (g := g) hg (argsL := argsL) (rest := rest) (hlen _ hsigM) hstack hdg
  rcases hK m meth c ⟨T.setVm vm₁, locs, cells, slots⟩ { g with stack := rest } (.invokestatic index) mk argsL.toArray X₁ hg hsize hdg hW (X₁.named hnamed) (hpre vm₁ X₁.warmed) with ⟨v, B, X', hpost, hsteps⟩ | ⟨q, B, X', hpost, hsteps⟩
  · exact Or.inl ⟨v, vm₁, B, X₁.warmed, X', hpost, fun target h => hstep₁ _ fun acts => by rw [doInvoke_state]; exact hsteps.trans h⟩
  · exact Or.inr ⟨q, vm₁, B, X₁.warmed, X', hpost, hstep₁ _ fun acts => by rw [doInvoke_state]; exact hsteps⟩
end Calls
theorem vx_cls {s : State} {T : State} {vm₁ : Vm} {E : String} {k : ClassId} (hW : s.WarmedH vm₁) (h : (T.setVm vm₁).vm.findClass E = some k) : s.vm.findClass E = some k := by
  have h1 : vm₁.findClass E = some k := h
  rw [hW.alike.findClass] at h1
  exact h1
/-- the method's frame g, with q thrown over it -/
def vx_W (p : Program) (l : Launch) (e : Env) (R : Room) (s : State) (m : MethodId) (args : Array Value) (below : List Frame) (meth : Method) (c : Code) (H : Heap) (locs : List Loc) (cells slots : Nat) (Q : State → Prop) (g : JFrame) (q : Addr) : Prop :=
  ∀ T : State, T.heap = H → Stand p l e R s m args below meth c T locs cells slots → ∃ t, Steps p.tables e below ((T.setTop g).pushFrame (.throwing q)) t ∧ Q t
def vx_Run (p : Program) (l : Launch) (e : Env) (R : Room) (s : State) (m : MethodId) (args : Array Value) (below : List Frame) (meth : Method) (c : Code) (H : Heap) (locs : List Loc) (cells slots mc ms : Nat) (g : JFrame) (rest : List Value) (Qa : State → Outcome → State → Prop) (XC : String → State → State → Prop) (free : Addr → Prop) : Prop :=
  ∀ T : State, T.heap = H → Stand p l e R s m args below meth c T locs cells slots →
    (∃ (v : Option Value) (st₀ t T' : State) (L : List Loc), st₀.heap = H ∧ Stand p l e R s m args below meth c T' (locs ++ L) (cells + mc) (slots + ms) ∧ (∀ q ∈ L, free q.base) ∧ T'.heap = t.heap ∧ T'.vm = t.vm ∧ Qa st₀ (.returned v) t ∧
      Goes p e below T g T' { g with pc := g.pc + 3, stack := v.toList ++ rest }) ∨
    (∃ (q : Addr) (st₀ t T' : State) (L : List Loc) (E : String) (ce : Cell), st₀.heap = H ∧ Stand p l e R s m args below meth c T' (locs ++ L) (cells + mc) (slots + ms) ∧ (∀ z ∈ L, free z.base) ∧ T'.heap = t.heap ∧ T'.vm = t.vm ∧ XC E st₀ t ∧ t.heap[q]? = some ce ∧ ce.vm = .none ∧ s.vm.findClass E = some ce.cls ∧
      Steps p.tables e below (T.setTop g) ((T'.setTop { g with stack := rest }).pushFrame (.throwing q)))
def vx_X {S : Type} (px : S → Prop) (B : String → S → State → Prop) (A : Nat → Prop) : String → State → State → Prop := fun E st t => ∃ u : S, px u ∧ B E u t ∧ va_F A st t
section Runs
variable {p : Program} {l : Launch} {e : Env} {R : Room} {s : State} {m : MethodId} {args : Array Value} {below : List Frame} {meth : Method} {c : Code} {H : Heap} {locs : List Loc} {cells slots : Nat}
variable {y : MethodName} {bytes cc : ByteArray} {maxL nL mc ms n index : Nat} {ret : Option FieldType} {ws : List Cond} {rm : Room} {Pc : Array Value → State → Prop} {Qc : Array Value → State → Outcome → State → Prop} {XC : String → State → State → Prop} {free : Addr → Prop} {Ts : List Cond} {own C : String} {b : Addr} {As rest : List Value} {g : JFrame}
theorem vx_callBack (cb : CallB R s args own index y bytes maxL ret ws rm mc ms n) (hM : vx_Met l y ws rm Pc Qc XC mc ms free) (hbl : FrameBlind Pc) : vx_Back l R p e below s args y 3 8 (PreOf R mc ms Pc) (PostOf Qc mc ms free) (vx_Post XC mc ms free) := by
  obtain ⟨hrc, hrs, hfr, hlo, hws, hcw, -, hini, -⟩ := cb
  exact vx_back (bytes := bytes) (maxL := maxL) (ret := ret) hM hbl hrc hrs hfr hlo hws hcw (fun a' U hW => word_at hW (Or.inl (by first | rfl | simp [Cond.onTables, Cond.keeps, Cond.steady])) hini)
theorem vx_runV (S : CallFix p m c cc nL s args Ts own) (hM : vx_Met l y ws rm Pc Qc XC mc ms free) (cw : CallW R s args own C index y bytes maxL ret ws rm mc ms n) (hp : PreV s H C b Pc As)
    (hg : g.method = m) (hn : As.length = n) (hsize : g.locals.size = nL) (hstack : g.stack = As.reverse ++ .ref b :: rest) (hW : 2 * g.monitorRoom + (rest.map fun v => v.category).sum ≤ 8) (hdg : decode cc g.pc = .ok (.invokevirtual index, 3)) (hf : cells + mc ≤ R.cells ∧ slots + ms ≤ R.slots) :
    vx_Run p l e R s m args below meth c H locs cells slots mc ms g rest (Qc (Value.ref b :: As).toArray) XC free := by
  have hK : vx_Back l R p e below s args y 3 8 (PreOf R mc ms Pc) (PostOf Qc mc ms free) (vx_Post XC mc ms free) := vx_callBack cw.1 hM hp.1
  obtain ⟨⟨-, -, -, -, -, -, hcode, -, hy, hlen, hl⟩, hin, hse⟩ := cw
  obtain ⟨hx, hb, hml, ho, -⟩ := S
  obtain ⟨-, ⟨cellB, hcB, hoB, hclB⟩, hPc⟩ := hp
  intro T hT X
  rcases vx_callV X hx (C := C) (bytes := bytes) (maxL := maxL) (ret := ret) ho hl hin hse hcode hy hK (by rw [hT]; exact hcB) hoB hclB hg (hsize.trans hml.symm) (argsL := As) (rest := rest) (fun sig h => hn.trans (hlen sig h)) hstack hW (by rw [hb]; exact hdg)
    (fun vm₁ hW₁ => ⟨hf.1, hf.2, hPc (T.setVm vm₁) hT hW₁⟩) with ⟨v, vm₁, ⟨U', l2, c2, s2⟩, hW₁, X', ⟨g', mk, t, L, e1, e2, hq, h1, hL, h2, h3⟩, st⟩ | ⟨q, vm₁, ⟨U', l2, c2, s2⟩, hW₁, X', ⟨g', mk, t, L, E, ce, e1, e2, hq, hce, hcv, hcl, h1, hL, h2, h3⟩, st⟩
  · dsimp only [Pt.U, Pt.locs, Pt.cells, Pt.slots] at X' e1 e2 h1 h2 h3 st
    subst h1; subst h2; subst h3
    exact Or.inl ⟨v, (T.setVm vm₁).calling g' mk (Value.ref b :: As).toArray, t, U', L, hT, X', hL, e1, e2, hq, st⟩
  · dsimp only [Pt.U, Pt.locs, Pt.cells, Pt.slots] at X' e1 e2 h1 h2 h3 st hcl
    subst h1; subst h2; subst h3
    exact Or.inr ⟨q, (T.setVm vm₁).calling g' mk (Value.ref b :: As).toArray, t, U', L, E, ce, hT, X', hL, e1, e2, hq, hce, hcv, vx_cls hW₁ hcl, st⟩
theorem vx_runS (S : CallFix p m c cc nL s args Ts own) (hM : vx_Met l y ws rm Pc Qc XC mc ms free) (cw : CallB R s args own index y bytes maxL ret ws rm mc ms n ∧ (Cond.static y).before args s = true) (hp : PreS s H Pc As)
    (hg : g.method = m) (hn : As.length = n) (hsize : g.locals.size = nL) (hstack : g.stack = As.reverse ++ rest) (hW : 2 * g.monitorRoom + (rest.map fun v => v.category).sum ≤ 8) (hdg : decode cc g.pc = .ok (.invokestatic index, 3)) (hf : cells + mc ≤ R.cells ∧ slots + ms ≤ R.slots) :
    vx_Run p l e R s m args below meth c H locs cells slots mc ms g rest (Qc As.toArray) XC free := by
  have hK : vx_Back l R p e below s args y 3 8 (PreOf R mc ms Pc) (PostOf Qc mc ms free) (vx_Post XC mc ms free) := vx_callBack cw.1 hM hp.1
  obtain ⟨⟨-, -, -, -, -, -, hcode, hini, hy, hlen, hl⟩, hstt⟩ := cw
  obtain ⟨hx, hb, hml, ho, -⟩ := S
  intro T hT X
  rcases vx_callS X hx (bytes := bytes) (maxL := maxL) (ret := ret) ho hl hstt hini hcode hy hK hg (hsize.trans hml.symm) (argsL := As) (rest := rest) (fun sig h => hn.trans (hlen sig h)) hstack hW (by rw [hb]; exact hdg)
    (fun vm₁ hW₁ => ⟨hf.1, hf.2, hp.2 (T.setVm vm₁) hT hW₁⟩) with ⟨v, vm₁, ⟨U', l2, c2, s2⟩, hW₁, X', ⟨g', mk, t, L, e1, e2, hq, h1, hL, h2, h3⟩, st⟩ | ⟨q, vm₁, ⟨U', l2, c2, s2⟩, hW₁, X', ⟨g', mk, t, L, E, ce, e1, e2, hq, hce, hcv, hcl, h1, hL, h2, h3⟩, st⟩
  · dsimp only [Pt.U, Pt.locs, Pt.cells, Pt.slots] at X' e1 e2 h1 h2 h3 st
    subst h1; subst h2; subst h3
    exact Or.inl ⟨v, (T.setVm vm₁).calling g' mk As.toArray, t, U', L, hT, X', hL, e1, e2, hq, st⟩
  · dsimp only [Pt.U, Pt.locs, Pt.cells, Pt.slots] at X' e1 e2 h1 h2 h3 st hcl
    subst h1; subst h2; subst h3
    exact Or.inr ⟨q, (T.setVm vm₁).calling g' mk As.toArray, t, U', L, E, ce, hT, X', hL, e1, e2, hq, hce, hcv, vx_cls hW₁ hcl, st⟩
end Runs
section Rows
variable {p : Program} {l : Launch} {e : Env} {R : Room} {s : State} {m : MethodId} {args : Array Value} {below : List Frame} {meth : Method} {c : Code} {H : Heap} {locs : List Loc} {cells slots : Nat} {Q : State → Prop}
variable {mc ms : Nat} {free : Addr → Prop} {A0 A1 : Nat → Prop} {H0 : Heap} {a : Array Value} {pc : Nat} {ls : Array Slot} {st0 rest : List Value}
theorem vx_keep {st₀ t T' : State} {L : List Loc} (h0 : st₀.heap = H) (e1 : T'.heap = t.heap) (hS : va_S A0 H0 H locs) (hA : ∀ q, q < H.size → A1 q → A0 q) (hf : ∀ q, free q → A0 q) (hL : ∀ q ∈ L, free q.base) (hF : va_F A1 st₀ t) :
    H.size ≤ T'.heap.size ∧ (∀ q : Nat, q < H.size → ¬ A1 q → T'.heap[q]? = H[q]?) ∧ va_S A0 H0 T'.heap (locs ++ L) := by
  obtain ⟨hz, hk⟩ := hF
  rw [h0] at hz hk
  exact ⟨by rw [e1]; exact hz, fun q h1 h2 => by rw [e1]; exact hk q h1 h2,
    ⟨Nat.le_trans hS.1 (by rw [e1]; exact hz), fun q h1 h2 => by rw [e1, hk q (Nat.lt_of_lt_of_le h1 hS.1) (fun z => h2 (hA q (Nat.lt_of_lt_of_le h1 hS.1) z))]; exact hS.2.1 q h1 h2, fun q hq => by
      rcases List.mem_append.mp hq with h | h
      · exact hS.2.2 q h
      · exact hf _ (hL q h)⟩⟩
theorem vx_calli {S SX : Type} {post : Int32 → S → Prop} {px : SX → Prop} {B : S → State → Prop} {BX : String → SX → State → Prop} {AX : Nat → Prop} (hr : vx_Run p l e R s m args below meth c H locs cells slots mc ms (F0 m pc ls st0) rest (va_Qi post B A1 a) (vx_X px BX AX) free) (hS : va_S A0 H0 H locs) (hA : ∀ q, q < H.size → A1 q → A0 q) (hf : ∀ q, free q → A0 q) (hAX : ∀ q, q < H.size → AX q → A0 q)
    (kx : ∀ (E : String) (ce : Cell) (q9 : Addr) (u : SX) (t : State) (H1 : Heap) (locs1 : List Loc), t.heap = H1 → s.vm.Alike t.vm → px u → BX E u t → H.size ≤ H1.size → (∀ q : Nat, q < H.size → ¬ AX q → H1[q]? = H[q]?) → va_S A0 H0 H1 locs1 → H1[q9]? = some ce → ce.vm = .none → s.vm.findClass E = some ce.cls → vx_W p l e R s m args below meth c H1 locs1 (cells + mc) (slots + ms) Q (F0 m pc ls rest) q9)
    (kk : ∀ (r : Int32) (u : S) (t : State) (H1 : Heap) (locs1 : List Loc), t.heap = H1 → s.vm.Alike t.vm → post r u → B u t → H.size ≤ H1.size → (∀ q : Nat, q < H.size → ¬ A1 q → H1[q]? = H[q]?) → va_S A0 H0 H1 locs1 → W p l e R s m args below meth c H1 locs1 (cells + mc) (slots + ms) Q (F0 m (pc + 3) ls (.int r :: rest))) : W p l e R s m args below meth c H locs cells slots Q (F0 m pc ls st0) := by
  intro T hT X
  rcases hr T hT X with ⟨v, st₀, t, T', L, h0, X', hL, e1, e2, ⟨⟨r, u, hv, hp, hb⟩, hF⟩, st⟩ | ⟨q, st₀, t, T', L, E, ce, h0, X', hL, e1, e2, ⟨u, hp, hb, hF⟩, hce, hcv, hcl, st⟩
  · cases hv
    obtain ⟨k1, k2, k3⟩ := vx_keep h0 e1 hS hA hf hL hF
    obtain ⟨t2, a1, b1⟩ := kk r u t T'.heap (locs ++ L) e1.symm (by rw [← e2]; exact X'.warmed.alike) hp hb k1 k2 k3 T' rfl X'
    exact ⟨t2, st t2 a1, b1⟩
  · obtain ⟨k1, k2, k3⟩ := vx_keep h0 e1 hS hAX hf hL hF
    obtain ⟨t2, a1, b1⟩ := kx E ce q u t T'.heap (locs ++ L) e1.symm (by rw [← e2]; exact X'.warmed.alike) hp hb k1 k2 k3 (by rw [e1]; exact hce) hcv hcl T' rfl X'
    exact ⟨t2, st.trans a1, b1⟩
theorem vx_calll {S SX : Type} {post : Int64 → S → Prop} {px : SX → Prop} {B : S → State → Prop} {BX : String → SX → State → Prop} {AX : Nat → Prop} (hr : vx_Run p l e R s m args below meth c H locs cells slots mc ms (F0 m pc ls st0) rest (va_Ql post B A1 a) (vx_X px BX AX) free) (hS : va_S A0 H0 H locs) (hA : ∀ q, q < H.size → A1 q → A0 q) (hf : ∀ q, free q → A0 q) (hAX : ∀ q, q < H.size → AX q → A0 q)
    (kx : ∀ (E : String) (ce : Cell) (q9 : Addr) (u : SX) (t : State) (H1 : Heap) (locs1 : List Loc), t.heap = H1 → s.vm.Alike t.vm → px u → BX E u t → H.size ≤ H1.size → (∀ q : Nat, q < H.size → ¬ AX q → H1[q]? = H[q]?) → va_S A0 H0 H1 locs1 → H1[q9]? = some ce → ce.vm = .none → s.vm.findClass E = some ce.cls → vx_W p l e R s m args below meth c H1 locs1 (cells + mc) (slots + ms) Q (F0 m pc ls rest) q9)
    (kk : ∀ (r : Int64) (u : S) (t : State) (H1 : Heap) (locs1 : List Loc), t.heap = H1 → s.vm.Alike t.vm → post r u → B u t → H.size ≤ H1.size → (∀ q : Nat, q < H.size → ¬ A1 q → H1[q]? = H[q]?) → va_S A0 H0 H1 locs1 → W p l e R s m args below meth c H1 locs1 (cells + mc) (slots + ms) Q (F0 m (pc + 3) ls (.long r :: rest))) : W p l e R s m args below meth c H locs cells slots Q (F0 m pc ls st0) := by
  intro T hT X
  rcases hr T hT X with ⟨v, st₀, t, T', L, h0, X', hL, e1, e2, ⟨⟨r, u, hv, hp, hb⟩, hF⟩, st⟩ | ⟨q, st₀, t, T', L, E, ce, h0, X', hL, e1, e2, ⟨u, hp, hb, hF⟩, hce, hcv, hcl, st⟩
  · cases hv
    obtain ⟨k1, k2, k3⟩ := vx_keep h0 e1 hS hA hf hL hF
    obtain ⟨t2, a1, b1⟩ := kk r u t T'.heap (locs ++ L) e1.symm (by rw [← e2]; exact X'.warmed.alike) hp hb k1 k2 k3 T' rfl X'
    exact ⟨t2, st t2 a1, b1⟩
  · obtain ⟨k1, k2, k3⟩ := vx_keep h0 e1 hS hAX hf hL hF
    obtain ⟨t2, a1, b1⟩ := kx E ce q u t T'.heap (locs ++ L) e1.symm (by rw [← e2]; exact X'.warmed.alike) hp hb k1 k2 k3 (by rw [e1]; exact hce) hcv hcl T' rfl X'
    exact ⟨t2, st.trans a1, b1⟩
theorem vx_callf {S SX : Type} {post : UInt32 → S → Prop} {px : SX → Prop} {B : S → State → Prop} {BX : String → SX → State → Prop} {AX : Nat → Prop} (hr : vx_Run p l e R s m args below meth c H locs cells slots mc ms (F0 m pc ls st0) rest (va_Qf post B A1 a) (vx_X px BX AX) free) (hS : va_S A0 H0 H locs) (hA : ∀ q, q < H.size → A1 q → A0 q) (hf : ∀ q, free q → A0 q) (hAX : ∀ q, q < H.size → AX q → A0 q)
    (kx : ∀ (E : String) (ce : Cell) (q9 : Addr) (u : SX) (t : State) (H1 : Heap) (locs1 : List Loc), t.heap = H1 → s.vm.Alike t.vm → px u → BX E u t → H.size ≤ H1.size → (∀ q : Nat, q < H.size → ¬ AX q → H1[q]? = H[q]?) → va_S A0 H0 H1 locs1 → H1[q9]? = some ce → ce.vm = .none → s.vm.findClass E = some ce.cls → vx_W p l e R s m args below meth c H1 locs1 (cells + mc) (slots + ms) Q (F0 m pc ls rest) q9)
    (kk : ∀ (r : UInt32) (u : S) (t : State) (H1 : Heap) (locs1 : List Loc), t.heap = H1 → s.vm.Alike t.vm → post r u → B u t → H.size ≤ H1.size → (∀ q : Nat, q < H.size → ¬ A1 q → H1[q]? = H[q]?) → va_S A0 H0 H1 locs1 → W p l e R s m args below meth c H1 locs1 (cells + mc) (slots + ms) Q (F0 m (pc + 3) ls (.float r :: rest))) : W p l e R s m args below meth c H locs cells slots Q (F0 m pc ls st0) := by
  intro T hT X
  rcases hr T hT X with ⟨v, st₀, t, T', L, h0, X', hL, e1, e2, ⟨⟨r, u, hv, hp, hb⟩, hF⟩, st⟩ | ⟨q, st₀, t, T', L, E, ce, h0, X', hL, e1, e2, ⟨u, hp, hb, hF⟩, hce, hcv, hcl, st⟩
  · cases hv
    obtain ⟨k1, k2, k3⟩ := vx_keep h0 e1 hS hA hf hL hF
    obtain ⟨t2, a1, b1⟩ := kk r u t T'.heap (locs ++ L) e1.symm (by rw [← e2]; exact X'.warmed.alike) hp hb k1 k2 k3 T' rfl X'
    exact ⟨t2, st t2 a1, b1⟩
  · obtain ⟨k1, k2, k3⟩ := vx_keep h0 e1 hS hAX hf hL hF
    obtain ⟨t2, a1, b1⟩ := kx E ce q u t T'.heap (locs ++ L) e1.symm (by rw [← e2]; exact X'.warmed.alike) hp hb k1 k2 k3 (by rw [e1]; exact hce) hcv hcl T' rfl X'
    exact ⟨t2, st.trans a1, b1⟩
theorem vx_calld {S SX : Type} {post : UInt64 → S → Prop} {px : SX → Prop} {B : S → State → Prop} {BX : String → SX → State → Prop} {AX : Nat → Prop} (hr : vx_Run p l e R s m args below meth c H locs cells slots mc ms (F0 m pc ls st0) rest (va_Qd post B A1 a) (vx_X px BX AX) free) (hS : va_S A0 H0 H locs) (hA : ∀ q, q < H.size → A1 q → A0 q) (hf : ∀ q, free q → A0 q) (hAX : ∀ q, q < H.size → AX q → A0 q)
    (kx : ∀ (E : String) (ce : Cell) (q9 : Addr) (u : SX) (t : State) (H1 : Heap) (locs1 : List Loc), t.heap = H1 → s.vm.Alike t.vm → px u → BX E u t → H.size ≤ H1.size → (∀ q : Nat, q < H.size → ¬ AX q → H1[q]? = H[q]?) → va_S A0 H0 H1 locs1 → H1[q9]? = some ce → ce.vm = .none → s.vm.findClass E = some ce.cls → vx_W p l e R s m args below meth c H1 locs1 (cells + mc) (slots + ms) Q (F0 m pc ls rest) q9)
    (kk : ∀ (r : UInt64) (u : S) (t : State) (H1 : Heap) (locs1 : List Loc), t.heap = H1 → s.vm.Alike t.vm → post r u → B u t → H.size ≤ H1.size → (∀ q : Nat, q < H.size → ¬ A1 q → H1[q]? = H[q]?) → va_S A0 H0 H1 locs1 → W p l e R s m args below meth c H1 locs1 (cells + mc) (slots + ms) Q (F0 m (pc + 3) ls (.double r :: rest))) : W p l e R s m args below meth c H locs cells slots Q (F0 m pc ls st0) := by
  intro T hT X
  rcases hr T hT X with ⟨v, st₀, t, T', L, h0, X', hL, e1, e2, ⟨⟨r, u, hv, hp, hb⟩, hF⟩, st⟩ | ⟨q, st₀, t, T', L, E, ce, h0, X', hL, e1, e2, ⟨u, hp, hb, hF⟩, hce, hcv, hcl, st⟩
  · cases hv
    obtain ⟨k1, k2, k3⟩ := vx_keep h0 e1 hS hA hf hL hF
    obtain ⟨t2, a1, b1⟩ := kk r u t T'.heap (locs ++ L) e1.symm (by rw [← e2]; exact X'.warmed.alike) hp hb k1 k2 k3 T' rfl X'
    exact ⟨t2, st t2 a1, b1⟩
  · obtain ⟨k1, k2, k3⟩ := vx_keep h0 e1 hS hAX hf hL hF
    obtain ⟨t2, a1, b1⟩ := kx E ce q u t T'.heap (locs ++ L) e1.symm (by rw [← e2]; exact X'.warmed.alike) hp hb k1 k2 k3 (by rw [e1]; exact hce) hcv hcl T' rfl X'
    exact ⟨t2, st.trans a1, b1⟩
theorem vx_callv {S SX : Type} {post : S → Prop} {px : SX → Prop} {B : S → State → Prop} {BX : String → SX → State → Prop} {AX : Nat → Prop} (hr : vx_Run p l e R s m args below meth c H locs cells slots mc ms (F0 m pc ls st0) rest (va_Qv post B A1 a) (vx_X px BX AX) free) (hS : va_S A0 H0 H locs) (hA : ∀ q, q < H.size → A1 q → A0 q) (hf : ∀ q, free q → A0 q) (hAX : ∀ q, q < H.size → AX q → A0 q)
    (kx : ∀ (E : String) (ce : Cell) (q9 : Addr) (u : SX) (t : State) (H1 : Heap) (locs1 : List Loc), t.heap = H1 → s.vm.Alike t.vm → px u → BX E u t → H.size ≤ H1.size → (∀ q : Nat, q < H.size → ¬ AX q → H1[q]? = H[q]?) → va_S A0 H0 H1 locs1 → H1[q9]? = some ce → ce.vm = .none → s.vm.findClass E = some ce.cls → vx_W p l e R s m args below meth c H1 locs1 (cells + mc) (slots + ms) Q (F0 m pc ls rest) q9)
    (kk : ∀ (u : S) (t : State) (H1 : Heap) (locs1 : List Loc), t.heap = H1 → s.vm.Alike t.vm → post u → B u t → H.size ≤ H1.size → (∀ q : Nat, q < H.size → ¬ A1 q → H1[q]? = H[q]?) → va_S A0 H0 H1 locs1 → W p l e R s m args below meth c H1 locs1 (cells + mc) (slots + ms) Q (F0 m (pc + 3) ls (rest))) : W p l e R s m args below meth c H locs cells slots Q (F0 m pc ls st0) := by
  intro T hT X
  rcases hr T hT X with ⟨v, st₀, t, T', L, h0, X', hL, e1, e2, ⟨⟨u, hv, hp, hb⟩, hF⟩, st⟩ | ⟨q, st₀, t, T', L, E, ce, h0, X', hL, e1, e2, ⟨u, hp, hb, hF⟩, hce, hcv, hcl, st⟩
  · cases hv
    obtain ⟨k1, k2, k3⟩ := vx_keep h0 e1 hS hA hf hL hF
    obtain ⟨t2, a1, b1⟩ := kk u t T'.heap (locs ++ L) e1.symm (by rw [← e2]; exact X'.warmed.alike) hp hb k1 k2 k3 T' rfl X'
    exact ⟨t2, st t2 a1, b1⟩
  · obtain ⟨k1, k2, k3⟩ := vx_keep h0 e1 hS hAX hf hL hF
    obtain ⟨t2, a1, b1⟩ := kx E ce q u t T'.heap (locs ++ L) e1.symm (by rw [← e2]; exact X'.warmed.alike) hp hb k1 k2 k3 (by rw [e1]; exact hce) hcv hcl T' rfl X'
    exact ⟨t2, st.trans a1, b1⟩
/-- caught by the row x of this method's table; the rows ahead don't take it -/
theorem vx_catch {own name : String} {E : String} {ce : Cell} {q : Addr} (hown : s.vm.findClass own = some m.cls) (pre : List ExceptionTableEntry) (x : ExceptionTableEntry) (suf : List ExceptionTableEntry) (hsplit : c.exceptionTable.toList = pre ++ x :: suf)
    (hpass : ∀ z ∈ pre, covers z pc = false ∨ (z.catchType ≠ 0 ∧ ∃ nm : String, (Cond.classLink own z.catchType nm).before args s = true ∧ va_Nc E nm s)) (hx : covers x pc = true) (h0 : x.catchType ≠ 0)
    (hlink : (Cond.classLink own x.catchType name).before args s = true) (hcast : (Cond.castable E name).before args s = true) (hcell : H[q]? = some ce) (hv : ce.vm = .none) (hcl : s.vm.findClass E = some ce.cls)
    (kk : W p l e R s m args below meth c H locs cells slots Q (F0 m x.handlerPc ls [.ref q])) : vx_W p l e R s m args below meth c H locs cells slots Q (F0 m pc ls rest) q := by
  intro T hT X
  have hpl : e.platform.magicAccessors = ({} : Platform).magicAccessors := by rw [X.admits.platform]
  obtain ⟨c3, c4, hc3, hc4, hasg⟩ := Cond.castable_spec hcast
  cases Option.some.inj (hc3.symm.trans hcl)
  obtain ⟨c5, hc5, hcl5⟩ := Cond.classLink_spec hown hlink e.platform hpl
  cases Option.some.inj (hc4.symm.trans hc5)
  obtain ⟨vm', X', st⟩ := X.thenCaughtThrough q (g := F0 m pc ls rest) rfl (Steps.refl _) (by rw [hT]; exact hcell) (by rw [hv]; rfl) (by obtain ⟨k9, h9, -⟩ := Vm.findClass_spec hcl; exact ⟨k9, h9⟩) pre x suf hsplit
    (fun z hz => by
      rcases hpass z hz with h | ⟨hz0, nm, hl1, hn1⟩
      · exact Or.inl h
      · obtain ⟨c6, hc6, hcl6⟩ := Cond.classLink_spec hown hl1 e.platform hpl
        obtain ⟨a8, b8, h1, h2, h3⟩ := hn1
        cases Option.some.inj (h1.symm.trans hcl)
        cases Option.some.inj (h2.symm.trans hc6)
        exact Or.inr ⟨hz0, _, hcl6, h3⟩) hx (Or.inr ⟨h0, c4, hcl5, hasg⟩)
  obtain ⟨t, a1, b1⟩ := kk (T.setVm vm') hT X'
  exact ⟨t, st.trans a1, b1⟩
end Rows
section Ends
variable {p : Program} {l : Launch} {e : Env} {R : Room} {s : State} {m : MethodId} {args : Array Value} {below : List Frame} {meth : Method} {c : Code} {H : Heap} {locs : List Loc} {cells slots : Nat} {Q : State → Prop}
variable {mc ms : Nat} {free : Addr → Prop} {A0 A1 : Nat → Prop} {H0 : Heap} {a : Array Value} {ls : Array Slot} {st0 rest : List Value}
variable {Qc : Array Value → State → Outcome → State → Prop} {XC : String → State → State → Prop}
/-- what a body that may throw owes at its end -/
def vx_MQ (below : List Frame) (Qc : Array Value → State → Outcome → State → Prop) (XC : String → State → State → Prop) (a : Array Value) (s : State) (mc ms : Nat) (free : Addr → Prop) : State → Prop := fun t =>
  ∃ o, t.status = .running ∧ Ended t below o ∧ vx_Q Qc XC mc ms free a s o t
theorem vx_ret {g : JFrame} {mc ms : Nat} (k : W p l e R s m args below meth c H locs cells slots (MQ below Qc args s mc ms free) g) : W p l e R s m args below meth c H locs cells slots (vx_MQ below Qc XC args s mc ms free) g := by
  intro T hT X
  obtain ⟨t, a1, o, b1, b2, b3, b4⟩ := k T hT X
  exact ⟨t, a1, o, b1, b2, Or.inl ⟨b3, b4⟩⟩
/-- not caught here: it goes on to the caller -/
theorem vx_widen {g : JFrame} {q : Addr} {k n : Nat} (h1 : cells ≤ k) (h2 : slots ≤ n) (kk : vx_W p l e R s m args below meth c H locs k n Q g q) : vx_W p l e R s m args below meth c H locs cells slots Q g q := fun T hT X => kk T hT (stand_widen X h1 h2)
theorem vx_out {pc : Nat} {E : String} {ce : Cell} {q : Addr} {mc ms : Nat} (hout : ∀ x ∈ c.exceptionTable.toList, covers x pc = false) (hlocks : meth.locks = false) (hcell : H[q]? = some ce) (hv : ce.vm = .none) (hcl : s.vm.findClass E = some ce.cls)
    (hx : ∀ t : State, t.heap = H → s.vm.Alike t.vm → XC E s t) (hf : ∀ z ∈ locs, free z.base) (hc : cells ≤ mc) (hs : slots ≤ ms) :
    vx_W p l e R s m args below meth c H locs cells slots (vx_MQ below Qc XC args s mc ms free) (F0 m pc ls rest) q := by
  intro T hT X
  obtain ⟨st1, hrun, hend, hW, hsm⟩ := X.leaveThrown q (g := F0 m pc ls rest) rfl rfl rfl hout hlocks
  have hcell9 : (T.setFrames (.throwing q :: below)).heap[q]? = some ce := by
    show T.heap[q]? = some ce
    rw [hT]; exact hcell
  exact ⟨_, st1, .threw q, hrun, hend, Or.inr ⟨q, rfl, E, ce, locs, hx _ hT hW.alike, hcell9, hv, hcl, hW, hsm.mono hc hs, hf⟩⟩
theorem vx_frame {U : State} {k n : Nat} (h : s.sameButNew ({ U with vm := s.vm } : State) locs k n) : s.heap.size ≤ U.heap.size ∧ ∀ q : Nat, q < s.heap.size → (∀ z ∈ locs, z.base ≠ q) → U.heap[q]? = s.heap[q]? := by
  obtain ⟨-, h2, -, -, -, h6⟩ := h
  refine ⟨h2, fun q hq hz => ?_⟩
  obtain ⟨c9, e1, e2, e3, e4⟩ := h6 q _ (Array.getElem?_eq_getElem hq)
  have hs : c9.slots = (s.heap[q]).slots := Array.ext_getElem? fun i => e4 i fun hm => hz _ hm rfl
  have h9 : c9 = s.heap[q] := by
    rw [hs] at e2
    exact e2
  have e5 : U.heap[q]? = some c9 := e1
  rw [e5, h9, Array.getElem?_eq_getElem hq]
/-- the words of a throw but the four that speak of the heap -/
def vx_no (w : Cond) : Bool := decide (w ≠ .isRef (.static Bundle.tN "UNASSIGNED_STACK" Bundle.steD)) && decide (w ≠ .isRef (.static Bundle.tN "SUPPRESSED_SENTINEL" Bundle.listD)) && decide (w ≠ .laysStatic Bundle.tN "UNASSIGNED_STACK" Bundle.steD) && decide (w ≠ .laysStatic Bundle.tN "SUPPRESSED_SENTINEL" Bundle.listD)
def vx_at0 (own : String) (ic : Nat) (X : String) (names : List String) : List Cond := (Bundle.ownAtoms0 own ic X names).filter vx_no
def vx_atS (own : String) (ic : Nat) (X : String) (names : List String) : List Cond := (Bundle.ownAtoms own ic X names).filter vx_no
/-- a word that the tables alone decide, or a good one -/
def vx_ot (w : Cond) : Bool := w.onTables || goodWord w
theorem vx_ot_at {args a' : Array Value} {s U : State} {w : Cond} (hW : s.WarmedH U.vm) (hvm : s.vm = U.vm) (hg : vx_ot w = true) (h : w.before args s = true) : w.before a' U = true := by
  simp only [vx_ot, Bool.or_eq_true] at hg
  rcases hg with hg | hg
  · exact va_tabs hg hvm h
  · exact word_at hW (good_of_word hg) h
/-- a list's words: the good ones out of the method's own list, the others by premises of their own -/
theorem vx_hat {args : Array Value} {s : State} {L B : List Cond} (h1 : ∀ w ∈ L.filter goodWord, w.before args s = true) (h2 : ∀ w ∈ L.filter (fun w => !goodWord w), w ∈ B) (h3 : ∀ w ∈ B, w.before args s = true) : ∀ w ∈ L, w.before args s = true := by
  intro w hw
  by_cases g : goodWord w = true
  · exact h1 w (List.mem_filter.mpr ⟨hw, g⟩)
  · refine h3 w (h2 w (List.mem_filter.mpr ⟨hw, ?_⟩))
    show (!goodWord w) = true
    cases hgw : goodWord w
    · rfl
    · exact absurd hgw g
theorem vx_c {args : Array Value} {s : State} {w : Cond} {B : List Cond} (h : w.before args s = true) (t : ∀ w ∈ B, w.before args s = true) : ∀ w' ∈ w :: B, w'.before args s = true := fun w' h' => (List.mem_cons.mp h').elim (fun e => by rw [e]; exact h) (t w')
theorem vx_n {args : Array Value} {s : State} : ∀ w ∈ ([] : List Cond), w.before args s = true := fun _ h => nomatch h
theorem vx_own {args : Array Value} {s : State} {L : List Cond} (h1 : ∀ w ∈ L.filter vx_no, w.before args s = true)
    (hU : (Cond.isRef (.static Bundle.tN "UNASSIGNED_STACK" Bundle.steD)).before args s = true) (hN : (Cond.isRef (.static Bundle.tN "SUPPRESSED_SENTINEL" Bundle.listD)).before args s = true)
    (lU : (Cond.laysStatic Bundle.tN "UNASSIGNED_STACK" Bundle.steD).before args s = true) (lN : (Cond.laysStatic Bundle.tN "SUPPRESSED_SENTINEL" Bundle.listD).before args s = true) : ∀ w ∈ L, w.before args s = true := by
  intro w hw
  by_cases e1 : w = .isRef (.static Bundle.tN "UNASSIGNED_STACK" Bundle.steD)
  · rw [e1]; exact hU
  · by_cases e2 : w = .isRef (.static Bundle.tN "SUPPRESSED_SENTINEL" Bundle.listD)
    · rw [e2]; exact hN
    · by_cases e3 : w = .laysStatic Bundle.tN "UNASSIGNED_STACK" Bundle.steD
      · rw [e3]; exact lU
      · by_cases e4 : w = .laysStatic Bundle.tN "SUPPRESSED_SENTINEL" Bundle.listD
        · rw [e4]; exact lN
        · exact h1 w (List.mem_filter.mpr ⟨hw, by unfold vx_no; rw [decide_eq_true e1, decide_eq_true e2, decide_eq_true e3, decide_eq_true e4]; rfl⟩)
/-- where a static field lies, its class's statics cell in H -/
def vx_L (C n d : String) (A : Nat → Prop) (U : State) (H : Heap) : Prop := ∃ (c : ClassId) (k : Class) (i : Nat) (f : Field) (a : Nat) (cell : Cell), U.vm.findClass C = some c ∧ U.fieldFound? C n d = some (c, k, i, f) ∧ f.isStatic = true ∧ k.statics = some a ∧ H[a]? = some cell ∧ cell.vm.isStatics = true ∧ cell.cls = c ∧ f.slot < cell.slots.size ∧ k.staticTypes[f.slot]? = some f.type ∧ ¬ A a
theorem vx_L.moved {C n d : String} {A : Nat → Prop} {u U : State} {H : Heap} (hvm : u.vm.Alike U.vm) (h : vx_L C n d A u H) : vx_L C n d A U H := by
  obtain ⟨c, k, i, f, a, cell, h1, h2, h3, h4, h5, h6, h7, h8, h9, h10⟩ := h
  obtain ⟨k', hi', he⟩ := State.fieldFound?_setVm hvm h2
  exact ⟨c, k', i, f, a, cell, by rw [hvm.findClass]; exact h1, hi', h3, by rw [he]; exact h4, h5, h6, h7, h8, by rw [he]; exact h9, h10⟩
theorem vx_L.kept {C n d : String} {A : Nat → Prop} {U : State} {H H1 : Heap} (h : vx_L C n d A U H) (hq : ∀ a : Nat, a < H.size → ¬ A a → H1[a]? = H[a]?) : vx_L C n d A U H1 := by
  obtain ⟨c, k, i, f, a, cell, h1, h2, h3, h4, h5, h6, h7, h8, h9, h10⟩ := h
  exact ⟨c, k, i, f, a, cell, h1, h2, h3, h4, by rw [hq a (Array.getElem?_eq_some_iff.mp h5).1 h10]; exact h5, h6, h7, h8, h9, h10⟩
theorem vx_L.narrow {C n d : String} {A B : Nat → Prop} {U : State} {H : Heap} (h : vx_L C n d A U H) (hAB : ∀ q, B q → A q) : vx_L C n d B U H := by
  obtain ⟨c, k, i, f, a, cell, h1, h2, h3, h4, h5, h6, h7, h8, h9, h10⟩ := h
  exact ⟨c, k, i, f, a, cell, h1, h2, h3, h4, h5, h6, h7, h8, h9, fun z => h10 (hAB _ z)⟩
theorem vx_L.word {C n d : String} {A : Nat → Prop} {s : State} {args : Array Value} (h : vx_L C n d A s s.heap) : (Cond.laysStatic C n d).before args s = true := by
  obtain ⟨c, k, i, f, a, cell, h1, h2, h3, h4, h5, h6, h7, h8, h9, -⟩ := h
  show (Cond.laysStatic C n d).holds args s none s [] = true
  exact Cond.laysStatic_of h1 h2 h3 h4 h5 h6 h7 h8 h9
/-- .. and what it holds: null or some reference -/
def vx_Zq (C n d : String) (A : Nat → Prop) (U : State) (H : Heap) : Prop := va_Zq C n d A U H ∧ vx_L C n d A U H
theorem vx_Zq.moved {C n d : String} {A : Nat → Prop} {u U : State} {H : Heap} (hvm : u.vm.Alike U.vm) (h : vx_Zq C n d A u H) : vx_Zq C n d A U H := ⟨va_Zq.moved hvm h.1, vx_L.moved hvm h.2⟩
theorem vx_Zq.kept {C n d : String} {A : Nat → Prop} {U : State} {H H1 : Heap} (h : vx_Zq C n d A U H) (hq : ∀ a : Nat, a < H.size → ¬ A a → H1[a]? = H[a]?) : vx_Zq C n d A U H1 := ⟨va_Zq.kept h.1 hq, vx_L.kept h.2 hq⟩
theorem vx_Zq.narrow {C n d : String} {A B : Nat → Prop} {U : State} {H : Heap} (h : vx_Zq C n d A U H) (hAB : ∀ q, B q → A q) : vx_Zq C n d B U H := ⟨va_Zq.narrow h.1 hAB, vx_L.narrow h.2 hAB⟩
theorem vx_Zqof {args : Array Value} {s : State} {C n d : String} {A : Nat → Prop} (hl : (Cond.laysStatic C n d).before args s = true) (hini : (Cond.initialized C).before args s = true) (h : (Cond.isRef (.static C n d)).before args s = true) (hA : ∀ a : Nat, a < s.heap.size → ¬ A a) : vx_Zq C n d A s s.heap := by
  refine ⟨va_Zqof hl hini h hA, ?_⟩
  obtain ⟨c, k, i, f, a, cell, h1, h2, h3, h4, h5, h6, h7, h8, h9⟩ := Cond.laysStatic_spec hl
  exact ⟨c, k, i, f, a, cell, h1, h2, h3, h4, h5, h6, h7, h8, h9, hA a (Array.getElem?_eq_some_iff.mp h5).1⟩
theorem vx_isRef {C n d : String} {v : Value} {A : Nat → Prop} {s : State} {args : Array Value} (h : va_Z C n d v A s s.heap) (hv : v.isRef = true) : (Cond.isRef (.static C n d)).before args s = true := by
  obtain ⟨cf, kf, fi, f, a, cell, h1, h2, h3, h4, h5, h6, h7, -⟩ := h
  have he : (Term.static C n d).eval args s none [] s = some v := by
    simp [Term.eval, State.fieldNamed?, h1, h2, h4, h5, h6, h7]
  simp only [Cond.before, Cond.holds, Cond.value, he]
  cases v <;> simp_all [Value.isRef]
theorem vx_isRefq {C n d : String} {A : Nat → Prop} {s : State} {args : Array Value} (h : va_Zq C n d A s s.heap) : (Cond.isRef (.static C n d)).before args s = true := by
  rcases h with h | ⟨t, h⟩
  · exact vx_isRef h rfl
  · exact vx_isRef h rfl
/-- the same frame, seen from here: as if the method were called anew in this heap -/
theorem vx_rebase {T : State} (X : Stand p l e R s m args below meth c T locs cells slots) {R' : Room} (hf : R'.frames ≤ R.frames) (hl : R'.locals ≤ R.locals) (hc : cells + R'.cells ≤ R.cells) (hs : slots + R'.slots ≤ R.slots) :
    Stand p l e R' ((T.setVm s.vm).setFrames (.invoking m args :: below)) m args below meth c T [] 0 0 := by
  have htop : (T.setVm s.vm).topJava?.isSome := X.here.top
  have hF : ((T.setVm s.vm).setFrames (.invoking m args :: below)).frames = .invoking m args :: below := State.frames_setFrames _ (State.cur_lt_of_top htop)
  obtain ⟨g₀, hg0⟩ := Option.isSome_iff_exists.mp htop
  obtain ⟨r, hr⟩ := State.topJava?_eq_some.mp hg0
  have hl9 : e.platform.stackLimits (T.setVm s.vm).me = e.platform.stackLimits s.me := X.limits
  have hb9 : (T.setVm s.vm).me.stackBytes = s.me.stackBytes := X.bytes
  refine ⟨X.admits, X.cas, X.clock, hF, ?_, X.hears, X.method, X.code, X.here, X.tail, X.warmed, ?_, ?_, ?_⟩
  · have h := X.room
    have hU : ((T.setVm s.vm).setFrames (.invoking m args :: below)).localsInUse = s.localsInUse := by
      rw [State.localsInUse_invoking hF (meth := meth) (c := c) X.method X.code, State.localsInUse_invoking X.frames X.method X.code]
    simp only [State.hasRoom, Bool.and_eq_true, decide_eq_true_eq] at h ⊢
    obtain ⟨⟨⟨⟨h1, h2, h3, h4, h5, h6⟩, h7⟩, h8⟩, h9⟩ := h
    rw [X.frames, List.length_cons] at h2 h3
    have q1 := X.heapSize
    have q2 := X.used
    simp only [hF, hU, List.length_cons, State.stackLimits_setFrames, State.stackBytes_setFrames, hl9, hb9]
    refine ⟨⟨⟨⟨by omega, by omega, by omega, by omega, by omega, h6⟩, ?_⟩, ?_⟩, X.book⟩
    · show T.heap.size + R'.cells ≤ e.platform.maxCells
      omega
    · show T.slotsUsed + R'.slots ≤ e.platform.maxSlots
      omega
  · rw [State.stackLimits_setFrames]; rfl
  · rw [State.stackBytes_setFrames]; rfl
  · refine ⟨?_, Nat.le_refl _, Nat.le_refl _, ?_, ?_, fun a c9 h9 => ⟨c9, h9, rfl, rfl, fun _ _ => rfl⟩⟩
    · obtain ⟨t, ht, -⟩ := State.frames_cons hr
      show T.setVm s.vm = { ((T.setVm s.vm).setFrames (.invoking m args :: below)).setFrames (T.setVm s.vm).frames with heap := T.heap, slotsUsed := T.slotsUsed }
      rw [State.setFrames_setFrames, State.setFrames_self ht]
      rfl
    · show T.slotsUsed = T.slotsUsed + ((T.heap.toList.drop T.heap.size).map (·.slots.size)).sum
      rw [List.drop_eq_nil_of_le (Nat.le_of_eq Array.length_toList)]
      rfl
    · show ((T.heap.toList.drop T.heap.size).map (·.slots.size)).sum ≤ 0
      rw [List.drop_eq_nil_of_le (Nat.le_of_eq Array.length_toList)]
      exact Nat.le_refl _
/-- 'throw new E()': new; dup; invokespecial; athrow -/
theorem vx_throw0 {cc : ByteArray} {pc : Nat} (hexec : p.tables.exec = Jvm.exec) (hb : c.code = cc) (hl : l.stackTraces = false) {own cls : String} {names : List String} {ik ic mc ms : Nat} {A : Nat → Prop}
    (hown : s.vm.findClass own = some m.cls) (hcls : Bundle.fit cls = true) (hnames : ∀ n ∈ names, Bundle.fit n = true)
    (hk : (Cond.classLink own ik cls).before args s = true) (hini : (Cond.initialized cls).before args s = true) (hat : ∀ w ∈ vx_at0 own ic cls names, w.before args s = true)
    (hgood : ∀ w ∈ Cond.classLink own ik cls :: Cond.initialized cls :: vx_at0 own ic cls names, vx_ot w = true)
    (hU : vx_Zq Bundle.tN "UNASSIGNED_STACK" Bundle.steD A s s.heap) (hN : vx_Zq Bundle.tN "SUPPRESSED_SENTINEL" Bundle.listD A s s.heap) (hS : va_S A s.heap H locs) (hsize : ls.size = c.maxLocals)
    (d0 : decode cc pc = .ok (.new ik, 3)) (d3 : decode cc (pc + 3) = .ok (.dup, 1)) (d4 : decode cc (pc + 4) = .ok (.invokespecial ic, 3)) (d7 : decode cc (pc + 7) = .ok (.athrow, 1))
    (hout : ∀ x ∈ c.exceptionTable.toList, covers x (pc + 7) = false)
    (hRframes : names.length + 3 < R.frames) (hRlocals : (rest.map fun v => v.category).sum + (13 * (names.length + 1) + 42) ≤ R.locals) (hRcells : cells + 1 ≤ R.cells) (hRslots : slots + 6 ≤ R.slots) (hlocks : meth.locks = false)
    (hx : ∀ t : State, s.vm.Alike t.vm → H.size ≤ t.heap.size → (∀ q : Nat, q < H.size → t.heap[q]? = H[q]?) → XC cls s t)
    (hf : ∀ z ∈ locs, free z.base) (hc : cells + 1 ≤ mc) (hs : slots + 6 ≤ ms) :
    W p l e R s m args below meth c H locs cells slots (vx_MQ below Qc XC args s mc ms free) (F0 m pc ls rest) := by
  intro T hT X
  have htr : e.platform.stackTraces = false := (show e.platform.stackTraces = l.stackTraces by rw [X.admits.platform]).trans hl
  have Y := vx_rebase X (R' := { frames := R.frames, locals := R.locals, cells := 1, slots := 6 }) (Nat.le_refl _) (Nat.le_refl _) hRcells hRslots
  obtain ⟨s', hA⟩ : ∃ z, z = (T.setVm s.vm).setFrames (.invoking m args :: below) := ⟨_, rfl⟩
  rw [← hA] at Y
  have hvm : s'.vm = s.vm := by rw [hA]; rfl
  have hhp : s'.heap = H := by rw [hA]; exact hT
  have hW0 : s.WarmedH s'.vm := by rw [hvm]; exact State.WarmedH.refl s
  have hat' : ∀ w ∈ vx_at0 own ic cls names, w.before args s' = true := fun w hw => vx_ot_at hW0 hvm.symm (hgood w (List.mem_cons_of_mem _ (List.mem_cons_of_mem _ hw))) (hat w hw)
  have hk' : (Cond.classLink own ik cls).before args s' = true := vx_ot_at hW0 hvm.symm (hgood _ List.mem_cons_self) hk
  have hini' : (Cond.initialized cls).before args s' = true := vx_ot_at hW0 hvm.symm (hgood _ (List.mem_cons_of_mem _ List.mem_cons_self)) hini
  have hU' : vx_Zq Bundle.tN "UNASSIGNED_STACK" Bundle.steD A s' s'.heap := by rw [hhp]; exact vx_Zq.moved hW0.alike (hU.kept hS.2.1)
  have hN' : vx_Zq Bundle.tN "SUPPRESSED_SENTINEL" Bundle.listD A s' s'.heap := by rw [hhp]; exact vx_Zq.moved hW0.alike (hN.kept hS.2.1)
  have h : ∀ w ∈ Bundle.ownAtoms0 own ic cls names, w.before args s' = true := vx_own hat' (vx_isRefq hU'.1) (vx_isRefq hN'.1) hU'.2.word hN'.2.word
  have hown' : s'.vm.findClass own = some m.cls := by rw [hvm]; exact hown
  have hins : (Cond.instantiable cls 6).before args s' = true := h _ (by simp [Bundle.ownAtoms0])
  obtain ⟨vm₁, cX, kX, hfX, hkX, -, -, X₁, st1⟩ := Y.newCold hexec (own := own) (C := cls) (index := ik) (n := 6) hown' hk' hins hini'
    (g := F0 m pc ls rest) rfl (by rw [hb]; exact d0) (Nat.le_refl _) (Nat.le_refl _)
  generalize hT1 : (T.setVm vm₁).pushCell { cls := cX, slots := kX.instanceTypes.map defaultValue, vm := .none } = T1 at X₁ st1
  have hcat : (Value.ref T.heap.size).category = 1 := rfl
  have hcellA : T1.heap[T.heap.size]? = some (freshCell cX kX) := by rw [← hT1]; exact State.heap_pushCell_size _ _
  have d3' : decode c.code (pc + 3) = .ok (.dup, 1) := by rw [hb]; exact d3
  obtain ⟨U, hsteps, hrun, hend, hW, hsame, ce, hce, hO⟩ := X₁.ctorThrow0 hexec htr (own := own) (cls := cls) (names := names) (ic := ic) hown' hcls hnames h (fun x hx => nomatch hx) hfX hkX hcellA (by rw [hhp, hT]; exact Nat.le_refl _)
    (g := { method := m, pc := pc + 4, locals := ls, stack := .ref T.heap.size :: .ref T.heap.size :: rest, locked := none }) rfl hsize rfl rfl (rest := rest) rfl
    (by rw [hb]; exact d4) (by rw [hb]; exact d7) hout hRframes (by simp only [List.map_cons, List.sum_cons, hcat]; omega) hlocks
  obtain ⟨f1, f2⟩ := vx_frame hsame
  rw [hhp] at f1 f2
  have hWs : s.WarmedH U.vm := State.WarmedH.trans hW0 hW
  have hcl : s.vm.findClass cls = some ce.cls := by
    have h9 := hO.cls
    rw [hvm] at h9
    exact h9
  have hall : s.sameButNew ({ U with vm := s.vm } : State) locs mc ms := by
    subst hA
    obtain ⟨e1, e2⟩ := hsame
    rw [State.setFrames_setFrames] at e1
    have h2 : (T.setVm s.vm).sameButNew ({ U with vm := s.vm } : State) [] (0 + 1) (0 + 6) := ⟨e1, e2⟩
    have h3 := X.same.trans h2
    rw [List.append_nil] at h3
    exact h3.mono hc hs
  refine ⟨U, ?_, .threw T.heap.size, hrun, hend, Or.inr ⟨T.heap.size, rfl, cls, ce, locs, hx U hWs.alike f1 (fun q hq => f2 q hq (fun z hz => nomatch hz)), hce, hO.vm, hcl, hWs, hall, hf⟩⟩
  refine st1 _ ?_
  show Steps p.tables e below (T1.setTop { method := m, pc := pc + 3, locals := ls, stack := .ref T.heap.size :: rest, locked := none }) _
  jvm_step X₁.here [X₁.here.top, hexec, d3', Value.category]
  exact hsteps
/-- 'throw new E("text")': new; dup; ldc; invokespecial; athrow -/
theorem vx_throwS {cc : ByteArray} {pc : Nat} (hexec : p.tables.exec = Jvm.exec) (hb : c.code = cc) (hl : l.stackTraces = false) {own cls text : String} {names : List String} {ik is ic mc ms sa : Nat} {A : Nat → Prop}
    (hown : s.vm.findClass own = some m.cls) (hcls : Bundle.fit cls = true) (hnames : ∀ n ∈ names, Bundle.fit n = true)
    (hk : (Cond.classLink own ik cls).before args s = true) (hini : (Cond.initialized cls).before args s = true) (hstr : vk_R own is text sa s) (hat : ∀ w ∈ vx_atS own ic cls names, w.before args s = true)
    (hgood : ∀ w ∈ Cond.classLink own ik cls :: Cond.initialized cls :: vx_atS own ic cls names, vx_ot w = true)
    (hU : vx_Zq Bundle.tN "UNASSIGNED_STACK" Bundle.steD A s s.heap) (hN : vx_Zq Bundle.tN "SUPPRESSED_SENTINEL" Bundle.listD A s s.heap) (hS : va_S A s.heap H locs) (hsize : ls.size = c.maxLocals)
    (d0 : decode cc pc = .ok (.new ik, 3)) (d3 : decode cc (pc + 3) = .ok (.dup, 1)) (d4 : decode cc (pc + 4) = .ok (.ldc is, 2)) (d6 : decode cc (pc + 6) = .ok (.invokespecial ic, 3)) (d9 : decode cc (pc + 9) = .ok (.athrow, 1))
    (hout : ∀ x ∈ c.exceptionTable.toList, covers x (pc + 9) = false)
    (hRframes : names.length + 3 < R.frames) (hRlocals : (rest.map fun v => v.category).sum + (13 * (names.length + 1) + 43) ≤ R.locals) (hRcells : cells + 1 ≤ R.cells) (hRslots : slots + 6 ≤ R.slots) (hlocks : meth.locks = false)
    (hx : ∀ t : State, s.vm.Alike t.vm → H.size ≤ t.heap.size → (∀ q : Nat, q < H.size → t.heap[q]? = H[q]?) → XC cls s t)
    (hf : ∀ z ∈ locs, free z.base) (hc : cells + 1 ≤ mc) (hs : slots + 6 ≤ ms) :
    W p l e R s m args below meth c H locs cells slots (vx_MQ below Qc XC args s mc ms free) (F0 m pc ls rest) := by
  intro T hT X
  have htr : e.platform.stackTraces = false := (show e.platform.stackTraces = l.stackTraces by rw [X.admits.platform]).trans hl
  have Y := vx_rebase X (R' := { frames := R.frames, locals := R.locals, cells := 1, slots := 6 }) (Nat.le_refl _) (Nat.le_refl _) hRcells hRslots
  obtain ⟨s', hA⟩ : ∃ z, z = (T.setVm s.vm).setFrames (.invoking m args :: below) := ⟨_, rfl⟩
  rw [← hA] at Y
  have hvm : s'.vm = s.vm := by rw [hA]; rfl
  have hhp : s'.heap = H := by rw [hA]; exact hT
  have hW0 : s.WarmedH s'.vm := by rw [hvm]; exact State.WarmedH.refl s
  have hat' : ∀ w ∈ vx_atS own ic cls names, w.before args s' = true := fun w hw => vx_ot_at hW0 hvm.symm (hgood w (List.mem_cons_of_mem _ (List.mem_cons_of_mem _ hw))) (hat w hw)
  have hk' : (Cond.classLink own ik cls).before args s' = true := vx_ot_at hW0 hvm.symm (hgood _ List.mem_cons_self) hk
  have hini' : (Cond.initialized cls).before args s' = true := vx_ot_at hW0 hvm.symm (hgood _ (List.mem_cons_of_mem _ List.mem_cons_self)) hini
  have hU' : vx_Zq Bundle.tN "UNASSIGNED_STACK" Bundle.steD A s' s'.heap := by rw [hhp]; exact vx_Zq.moved hW0.alike (hU.kept hS.2.1)
  have hN' : vx_Zq Bundle.tN "SUPPRESSED_SENTINEL" Bundle.listD A s' s'.heap := by rw [hhp]; exact vx_Zq.moved hW0.alike (hN.kept hS.2.1)
  have h : ∀ w ∈ Bundle.ownAtoms own ic cls names, w.before args s' = true := vx_own hat' (vx_isRefq hU'.1) (vx_isRefq hN'.1) hU'.2.word hN'.2.word
  have hown' : s'.vm.findClass own = some m.cls := by rw [hvm]; exact hown
  have hins : (Cond.instantiable cls 6).before args s' = true := h _ (by simp [Bundle.ownAtoms])
  obtain ⟨vm₁, cX, kX, hfX, hkX, -, -, X₁, st1⟩ := Y.newCold hexec (own := own) (C := cls) (index := ik) (n := 6) hown' hk' hins hini'
    (g := F0 m pc ls rest) rfl (by rw [hb]; exact d0) (Nat.le_refl _) (Nat.le_refl _)
  generalize hT1 : (T.setVm vm₁).pushCell { cls := cX, slots := kX.instanceTypes.map defaultValue, vm := .none } = T1 at X₁ st1
  have hcat : (Value.ref T.heap.size).category = 1 := rfl
  have hcellA : T1.heap[T.heap.size]? = some (freshCell cX kX) := by rw [← hT1]; exact State.heap_pushCell_size _ _
  have d3' : decode c.code (pc + 3) = .ok (.dup, 1) := by rw [hb]; exact d3
  have d4' : decode c.code (pc + 4) = .ok (.ldc is, 2) := by rw [hb]; exact d4
  have hstr' : vk_R own is text sa s' := vk_R.warm hW0 hstr
  obtain ⟨U, hsteps, hrun, hend, hW, hsame, ce, hce, hO⟩ := X₁.ctorThrowS hexec htr (own := own) (cls := cls) (names := names) (ic := ic) hown' hcls hnames h (fun x hx => nomatch hx) hfX hkX hcellA (by rw [hhp, hT]; exact Nat.le_refl _) (msg := .ref sa) rfl
    (g := { method := m, pc := pc + 6, locals := ls, stack := .ref sa :: .ref T.heap.size :: .ref T.heap.size :: rest, locked := none }) rfl hsize rfl rfl (rest := rest) rfl
    (by rw [hb]; exact d6) (by rw [hb]; exact d9) hout hRframes (by simp only [List.map_cons, List.sum_cons, hcat]; omega) hlocks
  obtain ⟨f1, f2⟩ := vx_frame hsame
  rw [hhp] at f1 f2
  have hWs : s.WarmedH U.vm := State.WarmedH.trans hW0 hW
  have hcl : s.vm.findClass cls = some ce.cls := by
    have h9 := hO.cls
    rw [hvm] at h9
    exact h9
  have hall : s.sameButNew ({ U with vm := s.vm } : State) locs mc ms := by
    subst hA
    obtain ⟨e1, e2⟩ := hsame
    rw [State.setFrames_setFrames] at e1
    have h2 : (T.setVm s.vm).sameButNew ({ U with vm := s.vm } : State) [] (0 + 1) (0 + 6) := ⟨e1, e2⟩
    have h3 := X.same.trans h2
    rw [List.append_nil] at h3
    exact h3.mono hc hs
  refine ⟨U, ?_, .threw T.heap.size, hrun, hend, Or.inr ⟨T.heap.size, rfl, cls, ce, locs, hx U hWs.alike f1 (fun q hq => f2 q hq (fun z hz => nomatch hz)), hce, hO.vm, hcl, hWs, hall, hf⟩⟩
  refine st1 _ ?_
  show Steps p.tables e below (T1.setTop { method := m, pc := pc + 3, locals := ls, stack := .ref T.heap.size :: rest, locked := none }) _
  jvm_step X₁.here [X₁.here.top, hexec, d3', Value.category]
  exact X₁.ldcString hexec (own := own) (text := text) (index := is) (a := sa) hown' hstr'.1 hstr'.2
    (g := { method := m, pc := pc + 4, locals := ls, stack := .ref T.heap.size :: .ref T.heap.size :: rest, locked := none }) rfl d4' _ hsteps
/-- 'throw new E("text")', the text by a wide index -/
theorem vx_throwSW {cc : ByteArray} {pc : Nat} (hexec : p.tables.exec = Jvm.exec) (hb : c.code = cc) (hl : l.stackTraces = false) {own cls text : String} {names : List String} {ik is ic mc ms sa : Nat} {A : Nat → Prop}
    (hown : s.vm.findClass own = some m.cls) (hcls : Bundle.fit cls = true) (hnames : ∀ n ∈ names, Bundle.fit n = true)
    (hk : (Cond.classLink own ik cls).before args s = true) (hini : (Cond.initialized cls).before args s = true) (hstr : vk_R own is text sa s) (hat : ∀ w ∈ vx_atS own ic cls names, w.before args s = true)
    (hgood : ∀ w ∈ Cond.classLink own ik cls :: Cond.initialized cls :: vx_atS own ic cls names, vx_ot w = true)
    (hU : vx_Zq Bundle.tN "UNASSIGNED_STACK" Bundle.steD A s s.heap) (hN : vx_Zq Bundle.tN "SUPPRESSED_SENTINEL" Bundle.listD A s s.heap) (hS : va_S A s.heap H locs) (hsize : ls.size = c.maxLocals)
    (d0 : decode cc pc = .ok (.new ik, 3)) (d3 : decode cc (pc + 3) = .ok (.dup, 1)) (d4 : decode cc (pc + 4) = .ok (.ldc_w is, 3)) (d7 : decode cc (pc + 7) = .ok (.invokespecial ic, 3)) (d10 : decode cc (pc + 10) = .ok (.athrow, 1))
    (hout : ∀ x ∈ c.exceptionTable.toList, covers x (pc + 10) = false)
    (hRframes : names.length + 3 < R.frames) (hRlocals : (rest.map fun v => v.category).sum + (13 * (names.length + 1) + 43) ≤ R.locals) (hRcells : cells + 1 ≤ R.cells) (hRslots : slots + 6 ≤ R.slots) (hlocks : meth.locks = false)
    (hx : ∀ t : State, s.vm.Alike t.vm → H.size ≤ t.heap.size → (∀ q : Nat, q < H.size → t.heap[q]? = H[q]?) → XC cls s t)
    (hf : ∀ z ∈ locs, free z.base) (hc : cells + 1 ≤ mc) (hs : slots + 6 ≤ ms) :
    W p l e R s m args below meth c H locs cells slots (vx_MQ below Qc XC args s mc ms free) (F0 m pc ls rest) := by
  intro T hT X
  have htr : e.platform.stackTraces = false := (show e.platform.stackTraces = l.stackTraces by rw [X.admits.platform]).trans hl
  have Y := vx_rebase X (R' := { frames := R.frames, locals := R.locals, cells := 1, slots := 6 }) (Nat.le_refl _) (Nat.le_refl _) hRcells hRslots
  obtain ⟨s', hA⟩ : ∃ z, z = (T.setVm s.vm).setFrames (.invoking m args :: below) := ⟨_, rfl⟩
  rw [← hA] at Y
  have hvm : s'.vm = s.vm := by rw [hA]; rfl
  have hhp : s'.heap = H := by rw [hA]; exact hT
  have hW0 : s.WarmedH s'.vm := by rw [hvm]; exact State.WarmedH.refl s
  have hat' : ∀ w ∈ vx_atS own ic cls names, w.before args s' = true := fun w hw => vx_ot_at hW0 hvm.symm (hgood w (List.mem_cons_of_mem _ (List.mem_cons_of_mem _ hw))) (hat w hw)
  have hk' : (Cond.classLink own ik cls).before args s' = true := vx_ot_at hW0 hvm.symm (hgood _ List.mem_cons_self) hk
  have hini' : (Cond.initialized cls).before args s' = true := vx_ot_at hW0 hvm.symm (hgood _ (List.mem_cons_of_mem _ List.mem_cons_self)) hini
  have hU' : vx_Zq Bundle.tN "UNASSIGNED_STACK" Bundle.steD A s' s'.heap := by rw [hhp]; exact vx_Zq.moved hW0.alike (hU.kept hS.2.1)
  have hN' : vx_Zq Bundle.tN "SUPPRESSED_SENTINEL" Bundle.listD A s' s'.heap := by rw [hhp]; exact vx_Zq.moved hW0.alike (hN.kept hS.2.1)
  have h : ∀ w ∈ Bundle.ownAtoms own ic cls names, w.before args s' = true := vx_own hat' (vx_isRefq hU'.1) (vx_isRefq hN'.1) hU'.2.word hN'.2.word
  have hown' : s'.vm.findClass own = some m.cls := by rw [hvm]; exact hown
  have hins : (Cond.instantiable cls 6).before args s' = true := h _ (by simp [Bundle.ownAtoms])
  obtain ⟨vm₁, cX, kX, hfX, hkX, -, -, X₁, st1⟩ := Y.newCold hexec (own := own) (C := cls) (index := ik) (n := 6) hown' hk' hins hini'
    (g := F0 m pc ls rest) rfl (by rw [hb]; exact d0) (Nat.le_refl _) (Nat.le_refl _)
  generalize hT1 : (T.setVm vm₁).pushCell { cls := cX, slots := kX.instanceTypes.map defaultValue, vm := .none } = T1 at X₁ st1
  have hcat : (Value.ref T.heap.size).category = 1 := rfl
  have hcellA : T1.heap[T.heap.size]? = some (freshCell cX kX) := by rw [← hT1]; exact State.heap_pushCell_size _ _
  have d3' : decode c.code (pc + 3) = .ok (.dup, 1) := by rw [hb]; exact d3
  have d4' : decode c.code (pc + 4) = .ok (.ldc_w is, 3) := by rw [hb]; exact d4
  have hstr' : vk_R own is text sa s' := vk_R.warm hW0 hstr
  obtain ⟨U, hsteps, hrun, hend, hW, hsame, ce, hce, hO⟩ := X₁.ctorThrowS hexec htr (own := own) (cls := cls) (names := names) (ic := ic) hown' hcls hnames h (fun x hx => nomatch hx) hfX hkX hcellA (by rw [hhp, hT]; exact Nat.le_refl _) (msg := .ref sa) rfl
    (g := { method := m, pc := pc + 7, locals := ls, stack := .ref sa :: .ref T.heap.size :: .ref T.heap.size :: rest, locked := none }) rfl hsize rfl rfl (rest := rest) rfl
    (by rw [hb]; exact d7) (by rw [hb]; exact d10) hout hRframes (by simp only [List.map_cons, List.sum_cons, hcat]; omega) hlocks
  obtain ⟨f1, f2⟩ := vx_frame hsame
  rw [hhp] at f1 f2
  have hWs : s.WarmedH U.vm := State.WarmedH.trans hW0 hW
  have hcl : s.vm.findClass cls = some ce.cls := by
    have h9 := hO.cls
    rw [hvm] at h9
    exact h9
  have hall : s.sameButNew ({ U with vm := s.vm } : State) locs mc ms := by
    subst hA
    obtain ⟨e1, e2⟩ := hsame
    rw [State.setFrames_setFrames] at e1
    have h2 : (T.setVm s.vm).sameButNew ({ U with vm := s.vm } : State) [] (0 + 1) (0 + 6) := ⟨e1, e2⟩
    have h3 := X.same.trans h2
    rw [List.append_nil] at h3
    exact h3.mono hc hs
  refine ⟨U, ?_, .threw T.heap.size, hrun, hend, Or.inr ⟨T.heap.size, rfl, cls, ce, locs, hx U hWs.alike f1 (fun q hq => f2 q hq (fun z hz => nomatch hz)), hce, hO.vm, hcl, hWs, hall, hf⟩⟩
  refine st1 _ ?_
  show Steps p.tables e below (T1.setTop { method := m, pc := pc + 3, locals := ls, stack := .ref T.heap.size :: rest, locked := none }) _
  jvm_step X₁.here [X₁.here.top, hexec, d3', Value.category]
  exact X₁.ldcStringW hexec (own := own) (text := text) (index := is) (a := sa) hown' hstr'.1 hstr'.2
    (g := { method := m, pc := pc + 4, locals := ls, stack := .ref T.heap.size :: .ref T.heap.size :: rest, locked := none }) rfl d4' _ hsteps
end Ends
section Bodies
variable {l : Launch}
theorem vx_ofW {y : MethodName} {ws ws' : List Cond} {rm : Room} {Pc : Array Value → State → Prop} {Qc : Array Value → State → Outcome → State → Prop} {XC : String → State → State → Prop} {mc ms : Nat} {free : Addr → Prop} {cc : ByteArray} {maxL : Nat} {ret : Option FieldType}
    (hy : plainName y.cls = true) (hw : ws = Cond.code y cc maxL ret :: ws')
    (body : ∀ p e s m args below meth c s₁, BodyLoose p l y (headSpec ws rm) cc maxL ret e s m args below meth c s₁ → c.maxLocals = maxL → (∀ x ∈ c.exceptionTable.toList, False) → Pc args s →
      W p l e (headSpec ws rm).room s m args below meth c s.heap [] 0 0 (vx_MQ below Qc XC args s mc ms free) (entryFrame m args maxL)) : vx_Met l y ws rm Pc Qc XC mc ms free := by
  refine MetFree.of_bodyS (code := cc) (maxLocals := maxL) (ret := ret) hy ?_ ?_
  · intro args s m h hn
    obtain ⟨meth, c, h1, h2, h3, h4, h5, h6, -, -⟩ := Cond.code_spec hn (atoms_spec (ws := ws) h _ (by rw [hw]; exact List.mem_cons_self))
    exact ⟨meth, c, h1, h2, h3, h4, h5, h6⟩
  · intro p e s m args below meth c s₁ B hml hP _
    have hh0 : s₁.heap = s.heap := by rw [B.state]; rfl
    have ht : ∀ x ∈ c.exceptionTable.toList, False := by
      obtain ⟨meth9, c9, h1, h2, -, -, -, -, h7, -⟩ := Cond.code_spec B.named (atoms_spec (ws := ws) B.pre _ (by rw [hw]; exact List.mem_cons_self))
      cases Option.some.inj (h1.symm.trans B.method)
      cases Option.some.inj (h2.symm.trans (Stand.of_body B).code)
      intro x hx
      rw [Array.isEmpty_iff.mp h7] at hx
      cases hx
    obtain ⟨t, a1, o, b1, b2, b3⟩ := body p e s m args below meth c s₁ B hml ht hP s₁ hh0 (Stand.of_body B)
    exact ⟨t, o, a1, b1, b2, b3⟩
/-- the table of a body with handlers -/
theorem vx_table {p : Program} {x y : MethodName} {S : Spec} {cc bytes : ByteArray} {maxL maxL' : Nat} {ret ret' : Option FieldType} {e : Env} {s s₁ : State} {m : MethodId} {args : Array Value} {below : List Frame} {meth : Method} {c : Code} {hh : List (Nat × Nat × Nat × Nat)}
    (B : BodyLoose p l y S cc maxL ret e s m args below meth c s₁) (h : (Cond.codeWith y bytes maxL' ret' hh).before args s = true) : c.exceptionTable.toList = tableOf hh := by
  obtain ⟨m9, meth9, c9, hn9, h1, h2, -, -, h6, -⟩ := Cond.codeWith_spec h
  cases Option.some.inj (hn9.symm.trans B.named)
  cases Option.some.inj (h1.symm.trans B.method)
  cases Option.some.inj (h2.symm.trans (Stand.of_body B).code)
  rw [← h6, table_eq]
end Bodies
end VXA
/-! ===== END ===== -/
/-! ===== BEGIN a static call of a method with an exception table ===== -/
section VXS
variable {p : Program} {l : Launch} {e : Env} {R : Room} {s : State} {m : MethodId} {args : Array Value} {below : List Frame} {meth : Method} {c : Code} {T : State} {H : Heap} {locs : List Loc} {cells slots : Nat}
abbrev vx_CSW (R : Room) (s : State) (args : Array Value) (own : String) (index : Nat) (y : MethodName) (bytes : ByteArray) (maxL : Nat) (ret : Option FieldType) (hh : List (Nat × Nat × Nat × Nat)) (ws : List Cond) (rm : Room) (mc ms n : Nat) : Prop :=
  (rm.cells = mc ∧ rm.slots = ms ∧ rm.frames + 1 ≤ R.frames ∧ 8 + (maxL + 11) + rm.locals ≤ R.locals ∧ (∀ w ∈ ws, ∀ (a' : Array Value) (U : State), s.WarmedH U.vm → w.before a' U = true) ∧ Cond.codeWith y bytes maxL ret hh ∈ ws) ∧
  (Cond.codeWith y bytes maxL ret hh).before args s = true ∧ (Cond.initialized y.cls).before args s = true ∧ (y.cls ≠ "java/lang/invoke/MethodHandle" ∧ y.cls ≠ "java/lang/invoke/VarHandle") ∧
  (∀ sig, parseMethodDescriptor y.desc = some sig → n = sig.parameters.length) ∧ (Cond.methodLink own index y).before args s = true ∧ (Cond.static y).before args s = true
theorem vx_cwSW {own : String} {index maxL mc ms : Nat} {y : MethodName} {bytes : ByteArray} {ret : Option FieldType} {hh : List (Nat × Nat × Nat × Nat)} {Ts ws ws' : List Cond} {rm : Room} (n : Nat) (ht : ∀ w ∈ Ts, w.before args s = true) (hT : GoodIn Ts (va_wsS own index y ws)) (hw : ws = Cond.codeWith y bytes maxL ret hh :: ws') (hrc : rm.cells = mc) (hrs : rm.slots = ms)
    (hd : y.cls ≠ "java/lang/invoke/MethodHandle" ∧ y.cls ≠ "java/lang/invoke/VarHandle" ∧ (parseMethodDescriptor y.desc).map (fun d => d.parameters.length) = some n) (hR : rm.frames + 1 ≤ R.frames ∧ 8 + (maxL + 11) + rm.locals ≤ R.locals) :
    vx_CSW R s args own index y bytes maxL ret hh ws rm mc ms n := by
  have ok : ∀ w ∈ va_wsS own index y ws, w.before args s = true := fun w h => ht w (hT w h).1
  have hG : GoodIn Ts ws := fun w h => hT w (by unfold va_wsS; exact List.mem_append_right _ h)
  have hc : Cond.codeWith y bytes maxL ret hh ∈ ws := by rw [hw]; exact List.mem_cons_self
  refine ⟨⟨hrc, hrs, hR.1, hR.2, pay_in ht hG, hc⟩, ht _ (hG _ hc).1, ok _ (by simp [va_wsS]), ⟨hd.1, hd.2.1⟩, fun sig h => ?_, ok _ (by simp [va_wsS]), ok _ (by simp [va_wsS])⟩
  have h2 := hd.2.2
  rw [h] at h2
  exact (Option.some.inj h2).symm
theorem vx_callSW (X : Stand p l e R s m args below meth c T locs cells slots) (hexec : p.tables.exec = Jvm.exec) {own : String} {index : Nat} {y : MethodName} {bytes : ByteArray} {maxL : Nat} {ret : Option FieldType} {hh : List (Nat × Nat × Nat × Nat)}
    (hown : s.vm.findClass own = some m.cls) (hlink : (Cond.methodLink own index y).before args s = true) (hstat : (Cond.static y).before args s = true) (hinit : (Cond.initialized y.cls).before args s = true)
    (hcode : (Cond.codeWith y bytes maxL ret hh).before args s = true) (hy : y.cls ≠ "java/lang/invoke/MethodHandle" ∧ y.cls ≠ "java/lang/invoke/VarHandle")
    {W9 : Nat} {Pre : Pt → Array Value → Prop} {Post : Pt → Array Value → Option Value → Pt → Prop} (hK : Back l R p e below s args y 3 W9 Pre Post)
    {g : JFrame} (hg : g.method = m) (hsize : g.locals.size = c.maxLocals) {argsL rest : List Value} (hlen : ∀ sig, parseMethodDescriptor y.desc = some sig → argsL.length = sig.parameters.length)
    (hstack : g.stack = argsL.reverse ++ rest) (hW : 2 * g.monitorRoom + (rest.map fun v => v.category).sum ≤ W9) (hdg : decode c.code g.pc = .ok (.invokestatic index, 3))
    (hpre : ∀ vm₁, s.WarmedH vm₁ → Pre ⟨T.setVm vm₁, locs, cells, slots⟩ argsL.toArray) :
    ∃ (v : Option Value) (vm₁ : Vm) (B : Pt), s.WarmedH vm₁ ∧ Stand p l e R s m args below meth c B.U B.locs B.cells B.slots ∧ Post ⟨T.setVm vm₁, locs, cells, slots⟩ argsL.toArray v B ∧
      ∀ target, Steps p.tables e below (B.U.setTop { g with pc := g.pc + 3, stack := v.toList ++ rest }) target → Steps p.tables e below (T.setTop g) target := by
  obtain ⟨mk, methM, cM, hnamed, hmethM, -, -, -, -, -, -, hsigM⟩ := Cond.codeWith_spec hcode
  have hstatic : methM.isStatic = true := Cond.static_spec hnamed hmethM hstat
  obtain ⟨kP, hkP, -⟩ := className_of_methodNamed hnamed
  have hinitP : kP.init = .initialized := Cond.initialized_spec (findClass_of_methodNamed hnamed) hkP hinit
  obtain ⟨vm₁, X₁, hstep₁⟩ := X.invokestatic hexec hown hlink hnamed hmethM hstatic hkP hinitP hy (g := g) hg (argsL := argsL) (rest := rest) (hlen _ hsigM) hstack hdg
  obtain ⟨v, B, X', hpost, hsteps⟩ := hK m meth c ⟨T.setVm vm₁, locs, cells, slots⟩ { g with stack := rest } (.invokestatic index) mk argsL.toArray X₁ hg hsize hdg hW (X₁.named hnamed) (hpre vm₁ X₁.warmed)
  exact ⟨v, vm₁, B, X₁.warmed, X', hpost, fun target h => hstep₁ _ fun acts => by rw [doInvoke_state]; exact hsteps.trans h⟩
theorem vx_runSW {y : MethodName} {bytes cc : ByteArray} {maxL nL mc ms n index : Nat} {ret : Option FieldType} {hh : List (Nat × Nat × Nat × Nat)} {ws : List Cond} {rm : Room} {Pc : Array Value → State → Prop} {Qc : Array Value → State → Outcome → State → Prop} {free : Addr → Prop} {Ts : List Cond} {own : String} {As rest : List Value} {g : JFrame}
    (S : CallFix p m c cc nL s args Ts own) (hM : Met l y ws rm Pc Qc mc ms free) (cw : vx_CSW R s args own index y bytes maxL ret hh ws rm mc ms n) (hp : PreS s H Pc As)
    (hg : g.method = m) (hn : As.length = n) (hsize : g.locals.size = nL) (hstack : g.stack = As.reverse ++ rest) (hW : 2 * g.monitorRoom + (rest.map fun v => v.category).sum ≤ 8) (hdg : decode cc g.pc = .ok (.invokestatic index, 3)) (hf : cells + mc ≤ R.cells ∧ slots + ms ≤ R.slots) :
    va_Run p l e R s m args below meth c H locs cells slots mc ms g rest (Qc As.toArray) (free) := by
  obtain ⟨⟨hrc, hrs, hfr, hlo, hws, hcw⟩, hcode, hini, hy, hlen, hl, hstt⟩ := cw
  have hK : Back l R p e below s args y 3 8 (PreOf R mc ms Pc) (PostOf Qc mc ms free) := va_backW (hh := hh) (bytes := bytes) (maxL := maxL) (ret := ret) hM hp.1 hrc hrs hfr hlo hws hcw (fun a' U hW => word_at hW (Or.inl (by first | rfl | simp [Cond.onTables, Cond.keeps, Cond.steady])) hini)
  obtain ⟨hx, hb, hml, ho, -⟩ := S
  intro T hT X
  obtain ⟨v, vm₁, ⟨U', l2, c2, s2⟩, hW₁, X', ⟨g', mk, t, L, e1, e2, hq, h1, hL, h2, h3⟩, st⟩ := vx_callSW X hx (hh := hh) (bytes := bytes) (maxL := maxL) (ret := ret) ho hl hstt hini hcode hy hK hg (hsize.trans hml.symm) (argsL := As) (rest := rest) (fun sig h => hn.trans (hlen sig h)) hstack hW (by rw [hb]; exact hdg)
    (fun vm₁ hW₁ => ⟨hf.1, hf.2, hp.2 (T.setVm vm₁) hT hW₁⟩)
  dsimp only [Pt.U, Pt.locs, Pt.cells, Pt.slots] at X' e1 e2 h1 h2 h3 st
  subst h1; subst h2; subst h3
  exact ⟨v, (T.setVm vm₁).calling g' mk As.toArray, t, U', L, hT, X', hL, e1, e2, hq, st⟩
/-- not caught here, past rows that name other classes: it goes on to the caller -/
theorem vx_outP {p : Program} {l : Launch} {e : Env} {R : Room} {s : State} {m : MethodId} {args : Array Value} {below : List Frame} {meth : Method} {c : Code} {H : Heap} {locs : List Loc} {cells slots : Nat} {free : Addr → Prop} {ls : Array Slot} {rest : List Value} {Qc : Array Value → State → Outcome → State → Prop} {XC : String → State → State → Prop}
    {pc : Nat} {own E : String} {ce : Cell} {q : Addr} {mc ms : Nat} (hown : s.vm.findClass own = some m.cls) (hlocks : meth.locks = false)
    (hpass : ∀ z ∈ c.exceptionTable.toList, covers z pc = false ∨ (z.catchType ≠ 0 ∧ ∃ nm : String, (Cond.classLink own z.catchType nm).before args s = true ∧ va_Nc E nm s)) (hcell : H[q]? = some ce) (hv : ce.vm = .none) (hcl : s.vm.findClass E = some ce.cls)
    (hx : ∀ t : State, t.heap = H → s.vm.Alike t.vm → XC E s t) (hf : ∀ z ∈ locs, free z.base) (hc : cells ≤ mc) (hs : slots ≤ ms) :
    vx_W p l e R s m args below meth c H locs cells slots (vx_MQ below Qc XC args s mc ms free) (F0 m pc ls rest) q := by
  intro T hT X
  have hpl : e.platform.magicAccessors = ({} : Platform).magicAccessors := by rw [X.admits.platform]
  obtain ⟨vm', hW', X', st⟩ := X.outThrough hlocks q (g := F0 m pc ls rest) rfl rfl rfl (cell := ce) (by rw [hT]; exact hcell) (by rw [hv]; rfl)
    (by obtain ⟨k9, h9, -⟩ := Vm.findClass_spec hcl; exact ⟨k9, h9⟩) (fun z hz => by
      rcases hpass z hz with h | ⟨hz0, nm, hl1, hn1⟩
      · exact Or.inl h
      · obtain ⟨c6, hc6, hcl6⟩ := Cond.classLink_spec hown hl1 e.platform hpl
        obtain ⟨a8, b8, h1, h2, h3⟩ := hn1
        cases Option.some.inj (h1.symm.trans hcl)
        cases Option.some.inj (h2.symm.trans hc6)
        exact Or.inr ⟨hz0, _, hcl6, h3⟩)
  obtain ⟨g₀, hfr⟩ := X'.frames_eq
  have hcell9 : ((T.setVm vm').setFrames (.throwing q :: below)).heap[q]? = some ce := by
    show T.heap[q]? = some ce
    rw [hT]; exact hcell
  have hend : Ended ((T.setVm vm').setFrames (.throwing q :: below)) below (.threw q) := State.frames_setFrames _ (State.cur_lt_of_frames hfr)
  refine ⟨(T.setVm vm').setFrames (.throwing q :: below), ?_, .threw q, X'.here.running, hend, Or.inr ⟨q, rfl, E, ce, locs, hx _ hT (X'.ends _).1.alike, hcell9, hv, hcl, (X'.ends _).1, (X'.ends _).2.mono hc hs, hf⟩⟩
  rw [X.pushThrowing_eq]
  exact st
/-- a thing of a world lies in the heap -/
theorem vx_lt {D : va_G} {cl : List vw_C} {ws : va_W} {H1 : Heap} (h : va_P D cl ws H1) {k : Nat} {q : Nat × va_E} (hk : ws[k]? = some q) : q.1 < H1.size := (h k q hk).lt
end VXS
/-! ===== END ===== -/
/-! ===== BEGIN methods with a table of their own: called by a name, returning or throwing ===== -/
section VXH
/-! vx_backW, vx_callVX, vx_callSX, vx_callVW, vx_runVW, vx_runVX, vx_runSX, vx_ofWH follow the same proofs as their sisters above (Free/Laws.lean, Shelf42/LK1.lean); vx_outP calls Shelf42/NT130.lean (outThrough). -/
section
variable {l : Launch} {R : Room} {p : Program} {e : Env} {below : List Frame} {s : State} {sargs : Array Value} {y : MethodName} {len W9 : Nat}
theorem vx_backW {ws : List Cond} {rm : Room} {Pc : Array Value → State → Prop} {Qc : Array Value → State → Outcome → State → Prop} {XC : String → State → State → Prop} {mc ms : Nat} {free : Addr → Prop} {bytes : ByteArray} {maxL : Nat} {ret : Option FieldType} {hh : List (Nat × Nat × Nat × Nat)}
    (hM : vx_Met l y ws rm Pc Qc XC mc ms free) (hblind : FrameBlind Pc) (hrc : rm.cells = mc) (hrs : rm.slots = ms)
    (hframes : rm.frames + 1 ≤ R.frames) (hlocals : W9 + (maxL + 11) + rm.locals ≤ R.locals)
    (hws : ∀ w ∈ ws, ∀ a' U, s.WarmedH U.vm → w.before a' U = true) (hcode : Cond.codeWith y bytes maxL ret hh ∈ ws) (hinit : ∀ a' U, s.WarmedH U.vm → (Cond.initialized y.cls).before a' U = true) :
    vx_Back l R p e below s sargs y len W9 (PreOf R mc ms Pc) (PostOf Qc mc ms free) (vx_Post XC mc ms free) := by
  intro m meth c A g ig mk a X hg hsize hdg hW hn hp
  have h1 : (headSpec ws rm).pre.before a A.U = true := atoms_intro fun w hw => hws w hw _ _ X.warmed
  have h2 : (Cond.codeWith y bytes maxL ret hh).before a A.U = true := hws _ hcode _ _ X.warmed
  have h3 : (Cond.initialized y.cls).before a A.U = true := hinit _ _ X.warmed
  have h4 : A.cells + (headSpec ws rm).room.cells ≤ R.cells := by rw [show (headSpec ws rm).room.cells = mc from hrc]; exact hp.1
  have h5 : A.slots + (headSpec ws rm).room.slots ≤ R.slots := by rw [show (headSpec ws rm).room.slots = ms from hrs]; exact hp.2.1
  have hPc : Pc a (A.U.calling g mk a) := hblind _ _ _ _ hp.2.2
  obtain ⟨U, Ls, c0, s0⟩ := A
  dsimp only [Pt.U, Pt.locs, Pt.cells, Pt.slots] at h1 h2 h3 h4 h5 X hn hPc ⊢
  obtain ⟨m9, methY, cY, hn9, hmY, hcY, -, hlY, -⟩ := Cond.codeWith_spec h2
  cases Option.some.inj (hn9.symm.trans hn)
  obtain ⟨kY, hkY, -⟩ := className_of_methodNamed hn
  have hinitY : kY.init = .initialized := Cond.initialized_spec (findClass_of_methodNamed hn) hkY h3
  have h : At U g.method c below := by rw [hg]; exact X.here
  have hlocals9 : W9 + (maxL + 11) + (headSpec ws rm).room.locals ≤ R.locals := hlocals
  have happ : (headSpec ws rm).appliesLoose y e.platform (U.calling g mk a) = true :=
    Spec.appliesLoose_calling (g := g) h hdg hn hkY hinitY
      (X.room_calling (g := g) (R' := (headSpec ws rm).room) hsize hmY hcY hframes (by rw [hlY]; omega) h4 h5) h1
  obtain ⟨mid, hmid⟩ := h.above
  have hfr : (U.setTop g).frames = (.java g :: mid) ++ below := by rw [State.frames_setTop' g h.top, hmid]; rfl
  obtain ⟨o, s₂, hsteps, -, hend, hq⟩ := Steps.callFree hM p X.admits X.cas X.clock (acts := []) hfr happ hPc trivial
  have hq' : vx_Q Qc XC mc ms free a (U.calling g mk a) o s₂ := hq
  rw [State.frames_setTop' g h.top] at hend
  obtain ⟨g₀, hg0⟩ := Option.isSome_iff_exists.mp h.top
  obtain ⟨r, hr⟩ := State.topJava?_eq_some.mp hg0
  have hr' : (({ U with heap := s₂.heap, slotsUsed := s₂.slotsUsed } : State).setVm s₂.vm).frames = .java g₀ :: r := hr
  rcases hq' with ⟨hqc, L, hfe, hL⟩ | ⟨q, rfl, E, ce, L, hx, hce, hcv, hcl, hW₂, hsm, hL⟩
  · obtain ⟨⟨v, rfl⟩, hW₂, e2, q2, q3, q4, q5, q6⟩ := id hfe
    have e3 : s₂ = ({ (U.calling g mk a).setFrames s₂.frames with heap := s₂.heap, slotsUsed := s₂.slotsUsed } : State).setVm s₂.vm := by
      have : s₂ = ({ s₂ with vm := (U.calling g mk a).vm } : State).setVm s₂.vm := rfl
      rw [e2] at this
      exact this
    obtain ⟨c₂, i₂, len₂, hc₂, hd₂, hf₂⟩ := hend
    have hW' : U.WarmedH s₂.vm := hW₂
    have hcc : c₂ = c := by
      have h1 : s₂.code? g.method = U.code? g.method := by
        rw [State.code?_eq, State.code?_eq, hW'.alike.method?]
      exact Option.some.inj (hc₂.symm.trans (h1.trans h.code))
    subst hcc
    have hlen : len₂ = len := by rw [hdg] at hd₂; cases hd₂; rfl
    subst hlen
    have hs₂ : s₂ = (({ U with heap := s₂.heap, slotsUsed := s₂.slotsUsed } : State).setVm s₂.vm).setTop { g with pc := g.pc + len₂, stack := v.toList ++ g.stack } := by
      refine e3.trans ?_
      rw [hf₂, State.calling_eq h.top, State.setFrames_setFrames, State.setTop_of_frames _ hr', hr]
      rfl
    have hsame : U.sameButNew ({ U with heap := s₂.heap, slotsUsed := s₂.slotsUsed } : State) L mc ms := by
      refine ⟨?_, q2, q3, q4, q5, q6⟩
      obtain ⟨t, ht, -⟩ := State.frames_cons hr
      show ({ U with heap := s₂.heap, slotsUsed := s₂.slotsUsed } : State) = { U.setFrames U.frames with heap := s₂.heap, slotsUsed := s₂.slotsUsed }
      rw [State.setFrames_self ht]
    subst hg
    refine Or.inl ⟨v, ⟨(({ U with heap := s₂.heap, slotsUsed := s₂.slotsUsed } : State).setVm s₂.vm), Ls ++ L, c0 + mc, s0 + ms⟩,
      ⟨X.admits, X.cas, X.clock, X.frames, X.room, X.hears, X.method, X.code, (X.here.setHeapUsed s₂.heap s₂.slotsUsed).setVm hW'.alike, X.tail, State.WarmedH.trans X.warmed hW', X.limits, X.bytes, X.same.trans (hsame.setVm s.vm)⟩,
      ⟨g, mk, s₂, L, rfl, rfl, hqc, rfl, hL, rfl, rfl⟩, ?_⟩
    show Steps p.tables e below _ ((({ U with heap := s₂.heap, slotsUsed := s₂.slotsUsed } : State).setVm s₂.vm).setTop { g with pc := g.pc + len₂, stack := v.toList ++ g.stack })
    rw [← hs₂]
    exact hsteps
  · obtain ⟨e2, q2, q3, q4, q5, q6⟩ := id hsm
    have e3 : s₂ = ({ (U.calling g mk a).setFrames s₂.frames with heap := s₂.heap, slotsUsed := s₂.slotsUsed } : State).setVm s₂.vm := by
      have : s₂ = ({ s₂ with vm := (U.calling g mk a).vm } : State).setVm s₂.vm := rfl
      rw [e2] at this
      exact this
    have hf₂ : s₂.frames = .throwing q :: .java g :: U.frames.tail := hend
    have hW' : U.WarmedH s₂.vm := hW₂
    have hs₂ : s₂ = ((({ U with heap := s₂.heap, slotsUsed := s₂.slotsUsed } : State).setVm s₂.vm).setTop g).pushFrame (.throwing q) := by
      refine e3.trans ?_
      rw [hf₂, State.calling_eq h.top, State.setFrames_setFrames, State.pushFrame, State.frames_setTop _ hr', State.setTop_of_frames _ hr', State.setFrames_setFrames, hr]
      rfl
    have hsame : U.sameButNew ({ U with heap := s₂.heap, slotsUsed := s₂.slotsUsed } : State) L mc ms := by
      refine ⟨?_, q2, q3, q4, q5, q6⟩
      obtain ⟨t, ht, -⟩ := State.frames_cons hr
      show ({ U with heap := s₂.heap, slotsUsed := s₂.slotsUsed } : State) = { U.setFrames U.frames with heap := s₂.heap, slotsUsed := s₂.slotsUsed }
      rw [State.setFrames_self ht]
    subst hg
    refine Or.inr ⟨q, ⟨(({ U with heap := s₂.heap, slotsUsed := s₂.slotsUsed } : State).setVm s₂.vm), Ls ++ L, c0 + mc, s0 + ms⟩,
      ⟨X.admits, X.cas, X.clock, X.frames, X.room, X.hears, X.method, X.code, (X.here.setHeapUsed s₂.heap s₂.slotsUsed).setVm hW'.alike, X.tail, State.WarmedH.trans X.warmed hW', X.limits, X.bytes, X.same.trans (hsame.setVm s.vm)⟩,
      ⟨g, mk, s₂, L, E, ce, rfl, rfl, hx, hce, hcv, hcl, rfl, hL, rfl, rfl⟩, ?_⟩
    show Steps p.tables e below _ (((({ U with heap := s₂.heap, slotsUsed := s₂.slotsUsed } : State).setVm s₂.vm).setTop g).pushFrame (.throwing q))
    rw [← hs₂]
    exact hsteps
end
variable {p : Program} {l : Launch} {e : Env} {R : Room} {s : State} {m : MethodId} {args : Array Value} {below : List Frame} {meth : Method} {c : Code} {T : State} {H : Heap} {locs : List Loc} {cells slots : Nat}
theorem vx_callVX (X : Stand p l e R s m args below meth c T locs cells slots) (hexec : p.tables.exec = Jvm.exec) {own C : String} {index : Nat} {y : MethodName} {bytes : ByteArray} {maxL : Nat} {ret : Option FieldType} {hh : List (Nat × Nat × Nat × Nat)}
    (hown : s.vm.findClass own = some m.cls) (hlink : (Cond.methodLink own index y).before args s = true) (hinst : (Cond.instanceMethod y).before args s = true) (hsel : (Cond.selects C y y).before args s = true)
    (hcode : (Cond.codeWith y bytes maxL ret hh).before args s = true) (hy : y.cls ≠ "java/lang/invoke/MethodHandle" ∧ y.cls ≠ "java/lang/invoke/VarHandle")
    {W9 : Nat} {Pre : Pt → Array Value → Prop} {Post : Pt → Array Value → Option Value → Pt → Prop} {PostX : Pt → Array Value → Addr → Pt → Prop} (hK : vx_Back l R p e below s args y 3 W9 Pre Post PostX)
    {b : Addr} {cellB : Cell} (hcell : T.heap[b]? = some cellB) (hobj : cellB.vm.isStatics = false) (hcls : s.vm.findClass C = some cellB.cls)
    {g : JFrame} (hg : g.method = m) (hsize : g.locals.size = c.maxLocals) {argsL rest : List Value} (hlen : ∀ sig, parseMethodDescriptor y.desc = some sig → argsL.length = sig.parameters.length)
    (hstack : g.stack = argsL.reverse ++ .ref b :: rest) (hW : 2 * g.monitorRoom + (rest.map fun v => v.category).sum ≤ W9) (hdg : decode c.code g.pc = .ok (.invokevirtual index, 3))
    (hpre : ∀ vm₁, s.WarmedH vm₁ → Pre ⟨T.setVm vm₁, locs, cells, slots⟩ (Value.ref b :: argsL).toArray) :
    (∃ (v : Option Value) (vm₁ : Vm) (B : Pt), s.WarmedH vm₁ ∧ Stand p l e R s m args below meth c B.U B.locs B.cells B.slots ∧ Post ⟨T.setVm vm₁, locs, cells, slots⟩ (Value.ref b :: argsL).toArray v B ∧
      ∀ target, Steps p.tables e below (B.U.setTop { g with pc := g.pc + 3, stack := v.toList ++ rest }) target → Steps p.tables e below (T.setTop g) target) ∨
    (∃ (q : Addr) (vm₁ : Vm) (B : Pt), s.WarmedH vm₁ ∧ Stand p l e R s m args below meth c B.U B.locs B.cells B.slots ∧ PostX ⟨T.setVm vm₁, locs, cells, slots⟩ (Value.ref b :: argsL).toArray q B ∧
      Steps p.tables e below (T.setTop g) ((B.U.setTop { g with stack := rest }).pushFrame (.throwing q))) := by
  obtain ⟨mk, methM, hnamed, hmethM, hstM, habM⟩ := Cond.instanceMethod_spec hinst
  obtain ⟨m8, methM', cM, hn8, hmethM', -, -, -, -, -, -, hsigM⟩ := Cond.codeWith_spec hcode
  cases Option.some.inj (hn8.symm.trans hnamed)
  cases hmethM.symm.trans hmethM'
  obtain ⟨c2, r2, m2, q1, q2, q3, q4, kP, hkP, hkPi⟩ := Cond.selects_spec hsel
  cases hcls.symm.trans q1
  cases (State.methodFound?_of_named hnamed hy).symm.trans q2
  cases hnamed.symm.trans q3
  have hselP : selectMethod e.platform s.vm cellB.cls mk = .method mk := by rw [Launch.admits_selectMethod X.admits]; exact q4
  obtain ⟨vm₁, X₁, hstep₁⟩ := X.invokevirtual hexec hown hlink hnamed hmethM hstM hkP hkPi hy (a := b) (cell := cellB) hcell
    (fun z h => by rw [h] at hobj; cases hobj) hselP hmethM habM hkP hkPi (g := g) hg (argsL := argsL) (rest := rest) (hlen _ hsigM) hstack hdg
  rcases hK m meth c ⟨T.setVm vm₁, locs, cells, slots⟩ { g with stack := rest } (.invokevirtual index) mk (Value.ref b :: argsL).toArray X₁ hg hsize hdg hW (X₁.named hnamed) (hpre vm₁ X₁.warmed) with ⟨v, B, X', hpost, hsteps⟩ | ⟨q, B, X', hpost, hsteps⟩
  · exact Or.inl ⟨v, vm₁, B, X₁.warmed, X', hpost, fun target h => hstep₁ _ fun acts => by rw [doInvoke_state]; exact hsteps.trans h⟩
  · exact Or.inr ⟨q, vm₁, B, X₁.warmed, X', hpost, hstep₁ _ fun acts => by rw [doInvoke_state]; exact hsteps⟩
theorem vx_callSX (X : Stand p l e R s m args below meth c T locs cells slots) (hexec : p.tables.exec = Jvm.exec) {own : String} {index : Nat} {y : MethodName} {bytes : ByteArray} {maxL : Nat} {ret : Option FieldType} {hh : List (Nat × Nat × Nat × Nat)}
    (hown : s.vm.findClass own = some m.cls) (hlink : (Cond.methodLink own index y).before args s = true) (hstat : (Cond.static y).before args s = true) (hinit : (Cond.initialized y.cls).before args s = true)
    (hcode : (Cond.codeWith y bytes maxL ret hh).before args s = true) (hy : y.cls ≠ "java/lang/invoke/MethodHandle" ∧ y.cls ≠ "java/lang/invoke/VarHandle")
    {W9 : Nat} {Pre : Pt → Array Value → Prop} {Post : Pt → Array Value → Option Value → Pt → Prop} {PostX : Pt → Array Value → Addr → Pt → Prop} (hK : vx_Back l R p e below s args y 3 W9 Pre Post PostX)
    {g : JFrame} (hg : g.method = m) (hsize : g.locals.size = c.maxLocals) {argsL rest : List Value} (hlen : ∀ sig, parseMethodDescriptor y.desc = some sig → argsL.length = sig.parameters.length)
    (hstack : g.stack = argsL.reverse ++ rest) (hW : 2 * g.monitorRoom + (rest.map fun v => v.category).sum ≤ W9) (hdg : decode c.code g.pc = .ok (.invokestatic index, 3))
    (hpre : ∀ vm₁, s.WarmedH vm₁ → Pre ⟨T.setVm vm₁, locs, cells, slots⟩ argsL.toArray) :
    (∃ (v : Option Value) (vm₁ : Vm) (B : Pt), s.WarmedH vm₁ ∧ Stand p l e R s m args below meth c B.U B.locs B.cells B.slots ∧ Post ⟨T.setVm vm₁, locs, cells, slots⟩ argsL.toArray v B ∧
      ∀ target, Steps p.tables e below (B.U.setTop { g with pc := g.pc + 3, stack := v.toList ++ rest }) target → Steps p.tables e below (T.setTop g) target) ∨
    (∃ (q : Addr) (vm₁ : Vm) (B : Pt), s.WarmedH vm₁ ∧ Stand p l e R s m args below meth c B.U B.locs B.cells B.slots ∧ PostX ⟨T.setVm vm₁, locs, cells, slots⟩ argsL.toArray q B ∧
      Steps p.tables e below (T.setTop g) ((B.U.setTop { g with stack := rest }).pushFrame (.throwing q))) := by
  obtain ⟨mk, methM, cM, hnamed, hmethM, -, -, -, -, -, -, hsigM⟩ := Cond.codeWith_spec hcode
  have hstatic : methM.isStatic = true := Cond.static_spec hnamed hmethM hstat
  obtain ⟨kP, hkP, -⟩ := className_of_methodNamed hnamed
  have hinitP : kP.init = .initialized := Cond.initialized_spec (findClass_of_methodNamed hnamed) hkP hinit
  obtain ⟨vm₁, X₁, hstep₁⟩ := X.invokestatic hexec hown hlink hnamed hmethM hstatic hkP hinitP hy (g := g) hg (argsL := argsL) (rest := rest) (hlen _ hsigM) hstack hdg
  rcases hK m meth c ⟨T.setVm vm₁, locs, cells, slots⟩ { g with stack := rest } (.invokestatic index) mk argsL.toArray X₁ hg hsize hdg hW (X₁.named hnamed) (hpre vm₁ X₁.warmed) with ⟨v, B, X', hpost, hsteps⟩ | ⟨q, B, X', hpost, hsteps⟩
  · exact Or.inl ⟨v, vm₁, B, X₁.warmed, X', hpost, fun target h => hstep₁ _ fun acts => by rw [doInvoke_state]; exact hsteps.trans h⟩
  · exact Or.inr ⟨q, vm₁, B, X₁.warmed, X', hpost, hstep₁ _ fun acts => by rw [doInvoke_state]; exact hsteps⟩
theorem vx_callVW (X : Stand p l e R s m args below meth c T locs cells slots) (hexec : p.tables.exec = Jvm.exec) {own C : String} {index : Nat} {y : MethodName} {bytes : ByteArray} {maxL : Nat} {ret : Option FieldType} {hh : List (Nat × Nat × Nat × Nat)}
    (hown : s.vm.findClass own = some m.cls) (hlink : (Cond.methodLink own index y).before args s = true) (hinst : (Cond.instanceMethod y).before args s = true) (hsel : (Cond.selects C y y).before args s = true)
    (hcode : (Cond.codeWith y bytes maxL ret hh).before args s = true) (hy : y.cls ≠ "java/lang/invoke/MethodHandle" ∧ y.cls ≠ "java/lang/invoke/VarHandle")
    {W9 : Nat} {Pre : Pt → Array Value → Prop} {Post : Pt → Array Value → Option Value → Pt → Prop} (hK : Back l R p e below s args y 3 W9 Pre Post)
    {b : Addr} {cellB : Cell} (hcell : T.heap[b]? = some cellB) (hobj : cellB.vm.isStatics = false) (hcls : s.vm.findClass C = some cellB.cls)
    {g : JFrame} (hg : g.method = m) (hsize : g.locals.size = c.maxLocals) {argsL rest : List Value} (hlen : ∀ sig, parseMethodDescriptor y.desc = some sig → argsL.length = sig.parameters.length)
    (hstack : g.stack = argsL.reverse ++ .ref b :: rest) (hW : 2 * g.monitorRoom + (rest.map fun v => v.category).sum ≤ W9) (hdg : decode c.code g.pc = .ok (.invokevirtual index, 3))
    (hpre : ∀ vm₁, s.WarmedH vm₁ → Pre ⟨T.setVm vm₁, locs, cells, slots⟩ (Value.ref b :: argsL).toArray) :
    ∃ (v : Option Value) (vm₁ : Vm) (B : Pt), s.WarmedH vm₁ ∧ Stand p l e R s m args below meth c B.U B.locs B.cells B.slots ∧ Post ⟨T.setVm vm₁, locs, cells, slots⟩ (Value.ref b :: argsL).toArray v B ∧
      ∀ target, Steps p.tables e below (B.U.setTop { g with pc := g.pc + 3, stack := v.toList ++ rest }) target → Steps p.tables e below (T.setTop g) target := by
  obtain ⟨mk, methM, hnamed, hmethM, hstM, habM⟩ := Cond.instanceMethod_spec hinst
  obtain ⟨m8, methM', cM, hn8, hmethM', -, -, -, -, -, -, hsigM⟩ := Cond.codeWith_spec hcode
  cases Option.some.inj (hn8.symm.trans hnamed)
  cases hmethM.symm.trans hmethM'
  obtain ⟨c2, r2, m2, q1, q2, q3, q4, kP, hkP, hkPi⟩ := Cond.selects_spec hsel
  cases hcls.symm.trans q1
  cases (State.methodFound?_of_named hnamed hy).symm.trans q2
  cases hnamed.symm.trans q3
  have hselP : selectMethod e.platform s.vm cellB.cls mk = .method mk := by rw [Launch.admits_selectMethod X.admits]; exact q4
  obtain ⟨vm₁, X₁, hstep₁⟩ := X.invokevirtual hexec hown hlink hnamed hmethM hstM hkP hkPi hy (a := b) (cell := cellB) hcell
    (fun z h => by rw [h] at hobj; cases hobj) hselP hmethM habM hkP hkPi (g := g) hg (argsL := argsL) (rest := rest) (hlen _ hsigM) hstack hdg
  obtain ⟨v, B, X', hpost, hsteps⟩ := hK m meth c ⟨T.setVm vm₁, locs, cells, slots⟩ { g with stack := rest } (.invokevirtual index) mk (Value.ref b :: argsL).toArray X₁ hg hsize hdg hW (X₁.named hnamed) (hpre vm₁ X₁.warmed)
  exact ⟨v, vm₁, B, X₁.warmed, X', hpost, fun target h => hstep₁ _ fun acts => by rw [doInvoke_state]; exact hsteps.trans h⟩
abbrev vx_CVW (R : Room) (s : State) (args : Array Value) (own C : String) (index : Nat) (y : MethodName) (bytes : ByteArray) (maxL : Nat) (ret : Option FieldType) (hh : List (Nat × Nat × Nat × Nat)) (ws : List Cond) (rm : Room) (mc ms n : Nat) : Prop :=
  (rm.cells = mc ∧ rm.slots = ms ∧ rm.frames + 1 ≤ R.frames ∧ 8 + (maxL + 11) + rm.locals ≤ R.locals ∧ (∀ w ∈ ws, ∀ (a' : Array Value) (U : State), s.WarmedH U.vm → w.before a' U = true) ∧ Cond.codeWith y bytes maxL ret hh ∈ ws) ∧
  (Cond.codeWith y bytes maxL ret hh).before args s = true ∧ (Cond.initialized y.cls).before args s = true ∧ (y.cls ≠ "java/lang/invoke/MethodHandle" ∧ y.cls ≠ "java/lang/invoke/VarHandle") ∧
  (∀ sig, parseMethodDescriptor y.desc = some sig → n = sig.parameters.length) ∧ (Cond.methodLink own index y).before args s = true ∧ (Cond.instanceMethod y).before args s = true ∧ (Cond.selects C y y).before args s = true
theorem vx_cwVW {own C : String} {index maxL mc ms : Nat} {y : MethodName} {bytes : ByteArray} {ret : Option FieldType} {hh : List (Nat × Nat × Nat × Nat)} {Ts ws ws' : List Cond} {rm : Room} (n : Nat) (ht : ∀ w ∈ Ts, w.before args s = true) (hT : GoodIn Ts (wsV own index C y ws)) (hw : ws = Cond.codeWith y bytes maxL ret hh :: ws') (hrc : rm.cells = mc) (hrs : rm.slots = ms)
    (hd : y.cls = C ∧ y.cls ≠ "java/lang/invoke/MethodHandle" ∧ y.cls ≠ "java/lang/invoke/VarHandle" ∧ (parseMethodDescriptor y.desc).map (fun d => d.parameters.length) = some n) (hR : rm.frames + 1 ≤ R.frames ∧ 8 + (maxL + 11) + rm.locals ≤ R.locals) :
    vx_CVW R s args own C index y bytes maxL ret hh ws rm mc ms n := by
  obtain ⟨hC, hd⟩ := hd
  subst hC
  have ok : ∀ w ∈ wsV own index y.cls y ws, w.before args s = true := fun w h => ht w (hT w h).1
  have hG : GoodIn Ts ws := fun w h => hT w (by unfold wsV; exact List.mem_append_right _ h)
  have hc : Cond.codeWith y bytes maxL ret hh ∈ ws := by rw [hw]; exact List.mem_cons_self
  refine ⟨⟨hrc, hrs, hR.1, hR.2, pay_in ht hG, hc⟩, ht _ (hG _ hc).1, ok _ (by simp [wsV]), ⟨hd.1, hd.2.1⟩, fun sig h => ?_, ok _ (by simp [wsV]), ok _ (by simp [wsV]), ok _ (by simp [wsV])⟩
  have h2 := hd.2.2
  rw [h] at h2
  exact (Option.some.inj h2).symm
theorem vx_runVW {y : MethodName} {bytes cc : ByteArray} {maxL nL mc ms n index : Nat} {ret : Option FieldType} {hh : List (Nat × Nat × Nat × Nat)} {ws : List Cond} {rm : Room} {Pc : Array Value → State → Prop} {Qc : Array Value → State → Outcome → State → Prop} {free : Addr → Prop} {Ts : List Cond} {own C : String} {b : Addr} {As rest : List Value} {g : JFrame}
    (S : CallFix p m c cc nL s args Ts own) (hM : Met l y ws rm Pc Qc mc ms free) (cw : vx_CVW R s args own C index y bytes maxL ret hh ws rm mc ms n) (hp : PreV s H C b Pc As)
    (hg : g.method = m) (hn : As.length = n) (hsize : g.locals.size = nL) (hstack : g.stack = As.reverse ++ .ref b :: rest) (hW : 2 * g.monitorRoom + (rest.map fun v => v.category).sum ≤ 8) (hdg : decode cc g.pc = .ok (.invokevirtual index, 3)) (hf : cells + mc ≤ R.cells ∧ slots + ms ≤ R.slots) :
    va_Run p l e R s m args below meth c H locs cells slots mc ms g rest (Qc (Value.ref b :: As).toArray) free := by
  obtain ⟨⟨hrc, hrs, hfr, hlo, hws, hcw⟩, hcode, hini, hy, hlen, hl, hin, hse⟩ := cw
  have hK : Back l R p e below s args y 3 8 (PreOf R mc ms Pc) (PostOf Qc mc ms free) := va_backW (hh := hh) (bytes := bytes) (maxL := maxL) (ret := ret) hM hp.1 hrc hrs hfr hlo hws hcw (fun a' U hW => word_at hW (Or.inl (by first | rfl | simp [Cond.onTables, Cond.keeps, Cond.steady])) hini)
  obtain ⟨hx, hb, hml, ho, -⟩ := S
  obtain ⟨-, ⟨cellB, hcB, hoB, hclB⟩, hPc⟩ := hp
  intro T hT X
  obtain ⟨v, vm₁, ⟨U', l2, c2, s2⟩, hW₁, X', ⟨g', mk, t, L, e1, e2, hq, h1, hL, h2, h3⟩, st⟩ := vx_callVW X hx (C := C) (hh := hh) (bytes := bytes) (maxL := maxL) (ret := ret) ho hl hin hse hcode hy hK (by rw [hT]; exact hcB) hoB hclB hg (hsize.trans hml.symm) (argsL := As) (rest := rest) (fun sig h => hn.trans (hlen sig h)) hstack hW (by rw [hb]; exact hdg)
    (fun vm₁ hW₁ => ⟨hf.1, hf.2, hPc (T.setVm vm₁) hT hW₁⟩)
  dsimp only [Pt.U, Pt.locs, Pt.cells, Pt.slots] at X' e1 e2 h1 h2 h3 st
  subst h1; subst h2; subst h3
  exact ⟨v, (T.setVm vm₁).calling g' mk (Value.ref b :: As).toArray, t, U', L, hT, X', hL, e1, e2, hq, st⟩
section
variable {y : MethodName} {bytes cc : ByteArray} {maxL nL mc ms n index : Nat} {ret : Option FieldType} {ws : List Cond} {rm : Room} {Pc : Array Value → State → Prop} {Qc : Array Value → State → Outcome → State → Prop} {XC : String → State → State → Prop} {free : Addr → Prop} {Ts : List Cond} {own C : String} {b : Addr} {As rest : List Value} {g : JFrame}
theorem vx_runVX {hh : List (Nat × Nat × Nat × Nat)} (S : CallFix p m c cc nL s args Ts own) (hM : vx_Met l y ws rm Pc Qc XC mc ms free) (cw : vx_CVW R s args own C index y bytes maxL ret hh ws rm mc ms n) (hp : PreV s H C b Pc As)
    (hg : g.method = m) (hn : As.length = n) (hsize : g.locals.size = nL) (hstack : g.stack = As.reverse ++ .ref b :: rest) (hW : 2 * g.monitorRoom + (rest.map fun v => v.category).sum ≤ 8) (hdg : decode cc g.pc = .ok (.invokevirtual index, 3)) (hf : cells + mc ≤ R.cells ∧ slots + ms ≤ R.slots) :
    vx_Run p l e R s m args below meth c H locs cells slots mc ms g rest (Qc (Value.ref b :: As).toArray) XC free := by
  obtain ⟨⟨hrc, hrs, hfr, hlo, hws, hcw⟩, hcode, hini, hy, hlen, hl, hin, hse⟩ := cw
  have hK : vx_Back l R p e below s args y 3 8 (PreOf R mc ms Pc) (PostOf Qc mc ms free) (vx_Post XC mc ms free) := vx_backW (hh := hh) (bytes := bytes) (maxL := maxL) (ret := ret) hM hp.1 hrc hrs hfr hlo hws hcw (fun a' U hW => word_at hW (Or.inl (by first | rfl | simp [Cond.onTables, Cond.keeps, Cond.steady])) hini)
  obtain ⟨hx, hb, hml, ho, -⟩ := S
  obtain ⟨-, ⟨cellB, hcB, hoB, hclB⟩, hPc⟩ := hp
  intro T hT X
  rcases vx_callVX X hx (C := C) (hh := hh) (bytes := bytes) (maxL := maxL) (ret := ret) ho hl hin hse hcode hy hK (by rw [hT]; exact hcB) hoB hclB hg (hsize.trans hml.symm) (argsL := As) (rest := rest) (fun sig h => hn.trans (hlen sig h)) hstack hW (by rw [hb]; exact hdg)
    (fun vm₁ hW₁ => ⟨hf.1, hf.2, hPc (T.setVm vm₁) hT hW₁⟩) with ⟨v, vm₁, ⟨U', l2, c2, s2⟩, hW₁, X', ⟨g', mk, t, L, e1, e2, hq, h1, hL, h2, h3⟩, st⟩ | ⟨q, vm₁, ⟨U', l2, c2, s2⟩, hW₁, X', ⟨g', mk, t, L, E, ce, e1, e2, hq, hce, hcv, hcl, h1, hL, h2, h3⟩, st⟩
  · dsimp only [Pt.U, Pt.locs, Pt.cells, Pt.slots] at X' e1 e2 h1 h2 h3 st
    subst h1; subst h2; subst h3
    exact Or.inl ⟨v, (T.setVm vm₁).calling g' mk (Value.ref b :: As).toArray, t, U', L, hT, X', hL, e1, e2, hq, st⟩
  · dsimp only [Pt.U, Pt.locs, Pt.cells, Pt.slots] at X' e1 e2 h1 h2 h3 st hcl
    subst h1; subst h2; subst h3
    exact Or.inr ⟨q, (T.setVm vm₁).calling g' mk (Value.ref b :: As).toArray, t, U', L, E, ce, hT, X', hL, e1, e2, hq, hce, hcv, vx_cls hW₁ hcl, st⟩
theorem vx_runSX {hh : List (Nat × Nat × Nat × Nat)} (S : CallFix p m c cc nL s args Ts own) (hM : vx_Met l y ws rm Pc Qc XC mc ms free) (cw : vx_CSW R s args own index y bytes maxL ret hh ws rm mc ms n) (hp : PreS s H Pc As)
    (hg : g.method = m) (hn : As.length = n) (hsize : g.locals.size = nL) (hstack : g.stack = As.reverse ++ rest) (hW : 2 * g.monitorRoom + (rest.map fun v => v.category).sum ≤ 8) (hdg : decode cc g.pc = .ok (.invokestatic index, 3)) (hf : cells + mc ≤ R.cells ∧ slots + ms ≤ R.slots) :
    vx_Run p l e R s m args below meth c H locs cells slots mc ms g rest (Qc As.toArray) XC free := by
  obtain ⟨⟨hrc, hrs, hfr, hlo, hws, hcw⟩, hcode, hini, hy, hlen, hl, hstt⟩ := cw
  have hK : vx_Back l R p e below s args y 3 8 (PreOf R mc ms Pc) (PostOf Qc mc ms free) (vx_Post XC mc ms free) := vx_backW (hh := hh) (bytes := bytes) (maxL := maxL) (ret := ret) hM hp.1 hrc hrs hfr hlo hws hcw (fun a' U hW => word_at hW (Or.inl (by first | rfl | simp [Cond.onTables, Cond.keeps, Cond.steady])) hini)
  obtain ⟨hx, hb, hml, ho, -⟩ := S
  intro T hT X
  rcases vx_callSX X hx (hh := hh) (bytes := bytes) (maxL := maxL) (ret := ret) ho hl hstt hini hcode hy hK hg (hsize.trans hml.symm) (argsL := As) (rest := rest) (fun sig h => hn.trans (hlen sig h)) hstack hW (by rw [hb]; exact hdg)
    (fun vm₁ hW₁ => ⟨hf.1, hf.2, hp.2 (T.setVm vm₁) hT hW₁⟩) with ⟨v, vm₁, ⟨U', l2, c2, s2⟩, hW₁, X', ⟨g', mk, t, L, e1, e2, hq, h1, hL, h2, h3⟩, st⟩ | ⟨q, vm₁, ⟨U', l2, c2, s2⟩, hW₁, X', ⟨g', mk, t, L, E, ce, e1, e2, hq, hce, hcv, hcl, h1, hL, h2, h3⟩, st⟩
  · dsimp only [Pt.U, Pt.locs, Pt.cells, Pt.slots] at X' e1 e2 h1 h2 h3 st
    subst h1; subst h2; subst h3
    exact Or.inl ⟨v, (T.setVm vm₁).calling g' mk As.toArray, t, U', L, hT, X', hL, e1, e2, hq, st⟩
  · dsimp only [Pt.U, Pt.locs, Pt.cells, Pt.slots] at X' e1 e2 h1 h2 h3 st hcl
    subst h1; subst h2; subst h3
    exact Or.inr ⟨q, (T.setVm vm₁).calling g' mk As.toArray, t, U', L, E, ce, hT, X', hL, e1, e2, hq, hce, hcv, vx_cls hW₁ hcl, st⟩
end
end VXH
theorem vx_ofWH {l : Launch} {y : MethodName} {ws ws' : List Cond} {rm : Room} {Pc : Array Value → State → Prop} {Qc : Array Value → State → Outcome → State → Prop} {XC : String → State → State → Prop} {mc ms : Nat} {free : Addr → Prop} {cc : ByteArray} {maxL : Nat} {ret : Option FieldType} {hh : List (Nat × Nat × Nat × Nat)}
    (hy : plainName y.cls = true) (hw : ws = Cond.codeWith y cc maxL ret hh :: ws')
    (body : ∀ p e s m args below meth c s₁, BodyLoose p l y (headSpec ws rm) cc maxL ret e s m args below meth c s₁ → c.maxLocals = maxL → Pc args s →
      W p l e (headSpec ws rm).room s m args below meth c s.heap [] 0 0 (vx_MQ below Qc XC args s mc ms free) (entryFrame m args maxL)) : vx_Met l y ws rm Pc Qc XC mc ms free := by
  refine MetFree.of_bodyS (code := cc) (maxLocals := maxL) (ret := ret) hy ?_ ?_
  · intro args s m h hn
    obtain ⟨m9, meth, c, hn9, h1, h2, h3, h4, -, h5, h6, -⟩ := Cond.codeWith_spec (atoms_spec (ws := ws) h _ (by rw [hw]; exact List.mem_cons_self))
    cases hn.symm.trans hn9
    exact ⟨meth, c, h1, h2, h3, h4, h5, h6⟩
  · intro p e s m args below meth c s₁ B hml hP _
    have hh0 : s₁.heap = s.heap := by rw [B.state]; rfl
    obtain ⟨t, a1, o, b1, b2, b3⟩ := body p e s m args below meth c s₁ B hml hP s₁ hh0 (Stand.of_body B)
    exact ⟨t, o, a1, b1, b2, b3⟩
/-! ===== END ===== -/
/-! ===== BEGIN what the machine throws by itself, no traces kept ===== -/
section VXM
set_option maxHeartbeats 1000000 in
/-- the machine throws cls with the message text, no traces kept: from its note over the frame g to 'throwing' over the same frame (follows the proofs of Stand.vmThrowsMessage, Shelf/KitTracedVmS.lean, and Stand.throwsMessageColdBareV, StandMessageColdV.lean, without the step out of the frame) -/
theorem vx_vmAt {p : Program} {l : Launch} {e : Env} {R : Room} {s : State} {m₀ : MethodId} {args : Array Value} {below : List Frame} {meth : Method} {c : Code} {W : State} {locs : List Loc} {cells slots : Nat}
    (X : Stand p l e R s m₀ args below meth c W locs cells slots) (hexec : p.tables.exec = Jvm.exec) (htr : e.platform.stackTraces = false) {cls : String} {names : List String} {text : String}
    (hcls : Bundle.fit cls = true) (hnames : ∀ n ∈ names, Bundle.fit n = true) (hsoe : (cls == "java/lang/StackOverflowError") = false) (hoom : (cls == "java/lang/OutOfMemoryError") = false)
    (h : ∀ a ∈ Bundle.messageArmAtoms cls names, a.before args s = true)
    (hlocs : ∀ x ∈ locs, ∀ cell, s.heap[x.base]? = some cell → cell.vm.isStatics = false)
    (htext : (text == notModelled) = false) (hlimit : ¬ (stringBytes (stringToUtf16 text)).size > e.platform.arrayLengthLimit) (hheap : ¬ (stringBytes (stringToUtf16 text)).size * componentBytes .byte > e.platform.maxHeapBytes)
    {g : JFrame} (hg : g.method = m₀) (hsize : g.locals.size = c.maxLocals)
    (hRframes : names.length + 4 < R.frames) (hRlocals : 2 * g.monitorRoom + (g.stack.map fun v => v.category).sum + 10240 ≤ R.locals) (hshort : 13 * names.length + 55 ≤ 10240)
    (hRcells : cells + 3 ≤ R.cells) (hRslots : slots + ((stringBytes (stringToUtf16 text)).size + 4 + 6) ≤ R.slots) (hlocks : meth.locks = false) :
    ∃ (S : State) (q : Addr) (ce : Cell), (∀ target, Steps p.tables e below ((S.setTop g).pushFrame (.throwing q)) target → Steps p.tables e below ((W.setTop g).pushFrame (.throwNew cls (some text) none)) target) ∧
      Stand p l e R s m₀ args below meth c S locs (cells + 3) (slots + ((stringBytes (stringToUtf16 text)).size + 4 + 6)) ∧ S.heap[q]? = some ce ∧ s.vm.findClass cls = some ce.cls ∧ ce.vm = .none := by
  have howns : e.platform.frameOwnsMonitors = true := by rw [X.admits.platform]
  have hfin : e.platform.finalization = false := by rw [X.admits.platform]
  have hpl : e.platform.magicAccessors = ({} : Platform).magicAccessors := by rw [X.admits.platform]
  have a : ∀ x, x ∈ Bundle.messageArmAtoms cls names → x.holds args s none s [] = true := fun x hx => h x hx
  obtain ⟨T, Z0, L, -, Y⟩ := ThrowableC.of_atoms (args := args) howns hfin hpl (fun x hx => h x (by simp [Bundle.messageArmAtoms, hx]))
  obtain ⟨Z, M, LZ, LM, hnZ⟩ := Init0T.ofS_atoms (args := args) hpl L Y (fun x hx => h x (by simp [Bundle.messageArmAtoms, hx]))
  obtain ⟨P1, Ps, hlen, L1, hL, hP1m, hlink1, hlink⟩ := Bundle.chainS (args := args) hpl hnZ names cls hcls hnames (fun x hx => h x (by simp [Bundle.messageArmAtoms, hx]))
  obtain ⟨Zs, LZs, hn4, hfitv, hfitc⟩ := StringT.of_atoms (args := args) (fun x hx => h x (by simp [Bundle.messageArmAtoms, hx]))
  have hfound : s.vm.findClass cls = some P1.m.cls := findClass_of_methodNamed hP1m
  obtain ⟨c1, kX, hc1, hk, hord, -, -, hn6⟩ := Cond.instantiable_spec (a (.instantiable cls 6) (by simp [Bundle.messageArmAtoms]))
  cases Option.some.inj (hc1.symm.trans hfound)
  have hinit := Cond.initialized_spec hfound hk (a (.initialized cls) (by simp [Bundle.messageArmAtoms]))
  have hctor : kX.findMethod "<init>" "(Ljava/lang/String;)V" = some P1.m.idx := findMethod_of_methodNamed hP1m hk
  have hsel0 : selectMethod e.platform s.vm P1.m.cls T.fill0 = .method T.fill0 := by
    obtain ⟨c2, r2, m2, q1, q2, q3, q4, -⟩ := Cond.selects_spec (a (.selects cls Bundle.tFill0 Bundle.tFill0) (by simp [Bundle.messageArmAtoms]))
    cases Option.some.inj (q1.symm.trans hfound)
    cases Option.some.inj (q2.symm.trans (State.methodFound?_of_named Y.fill0 (by decide)))
    cases Option.some.inj (q3.symm.trans Y.fill0)
    rw [Launch.admits_selectMethod X.admits]; exact q4
  have hselF : selectMethod e.platform s.vm P1.m.cls T.fill = .method T.fill := by
    obtain ⟨c2, r2, m2, q1, q2, q3, q4, -⟩ := Cond.selects_spec (a (.selects cls Bundle.tFill Bundle.tFill) (by simp [Bundle.messageArmAtoms]))
    cases Option.some.inj (q1.symm.trans hfound)
    cases Option.some.inj (q2.symm.trans (State.methodFound?_of_named Y.fill (by decide)))
    cases Option.some.inj (q3.symm.trans Y.fill)
    rw [Launch.admits_selectMethod X.admits]; exact q4
  obtain ⟨cellS0, hcS0, hiss⟩ := Y.statics
  obtain ⟨u0, hu0⟩ := Cond.staticRefV Y.unassigned L.unassignedStatic L.statics hcS0 hiss (a (.isRef (.static Bundle.tN "UNASSIGNED_STACK" Bundle.steD)) (by simp [Bundle.messageArmAtoms]))
  obtain ⟨sen, hsen⟩ := Cond.staticRefV Y.sentinel L.sentinelStatic L.statics hcS0 hiss (a (.isRef (.static Bundle.tN "SUPPRESSED_SENTINEL" Bundle.listD)) (by simp [Bundle.messageArmAtoms]))
  obtain ⟨ci198, i198, fB, hk198, hg198, ha198, hsB, -, hnB, htB, hffB⟩ := Cond.ownField (t := .object "java/lang/Object") Y.found L.cls (by decide +kernel) (a (.fieldLink Bundle.tN 198 Bundle.tN "backtrace" "Ljava/lang/Object;") (by simp [Bundle.messageArmAtoms])) (a (.lays Bundle.tN Bundle.tN "backtrace" "Ljava/lang/Object;") (by simp [Bundle.messageArmAtoms])) e.platform hpl
  obtain ⟨cellS, hcS', heS, -, hkeep⟩ := X.same.2.2.2.2.2 T.aS cellS0 hcS0
  have hcellS : W.heap[T.aS]? = some cellS := hcS'
  have hout' : ∀ i, (⟨T.aS, i⟩ : Loc) ∉ locs := fun i hmem => by
    have := hlocs _ hmem cellS0 hcS0
    rw [hiss] at this; cases this
  have hknownS : cellS.vm ≠ .unknown := by
    rw [heS]; intro hu
    rw [show cellS0.vm = .unknown from hu] at hiss
    cases hiss
  have hvU : cellS.slots[T.fUnassigned.slot]? = some u0.v := by rw [hkeep _ (hout' _)]; exact hu0
  have hvSen : cellS.slots[T.fSentinel.slot]? = some sen.v := by rw [hkeep _ (hout' _)]; exact hsen
  obtain ⟨iM, hffM⟩ := Y.msg
  obtain ⟨tyC, dC, hdC, hdnC⟩ := Cond.laysAt hfound hk Y.cause (a (.lays cls Bundle.tN "cause" "Ljava/lang/Throwable;") (by simp [Bundle.messageArmAtoms]))
  obtain ⟨tyS, dS, hdS, hdnS⟩ := Cond.laysAt hfound hk Y.stack (a (.lays cls Bundle.tN "stackTrace" Bundle.steD) (by simp [Bundle.messageArmAtoms]))
  obtain ⟨tyP, dP, hdP, hdnP⟩ := Cond.laysAt hfound hk Y.supp (a (.lays cls Bundle.tN "suppressedExceptions" Bundle.listD) (by simp [Bundle.messageArmAtoms]))
  obtain ⟨tyM, dM, hdM, hdnM⟩ := Cond.laysAt hfound hk hffM (a (.lays cls Bundle.tN "detailMessage" "Ljava/lang/String;") (by simp [Bundle.messageArmAtoms]))
  obtain ⟨tyB, dB, hdB, hdnB⟩ := Cond.laysAt hfound hk hffB (a (.lays cls Bundle.tN "backtrace" "Ljava/lang/Object;") (by simp [Bundle.messageArmAtoms]))
  have bC := Cond.laysApart hdB hdC hdnB hdnC (by rw [hnB, Y.causeName]; decide)
  have bS := Cond.laysApart hdB hdS hdnB hdnS (by rw [hnB, Y.stackName]; decide)
  have bP := Cond.laysApart hdB hdP hdnB hdnP (by rw [hnB, Y.suppName]; decide)
  have hbk : ((preparedCellV T.toThrowableT (freshCell P1.m.cls kX) (W.heap.size + 2) u0 sen).withEntry W.cur).slots[fB.slot]? = some .null := by
    have := fresh_default (c := P1.m.cls) tyB
    rw [htB] at this
    simpa [preparedCellV, Cell.setSlot, Cell.withEntry, Array.getElem?_setIfInBounds, bC, bS, bP, bC.symm, bS.symm, bP.symm, defaultValue] using this
  have tkC := Takes.of_laid (v := .ref (W.heap.size + 2)) hk hord tyC (by rw [Y.causeType]; rfl)
  have tkS := Takes.of_laid (v := u0.v) hk hord tyS (by rw [Y.stackType]; exact fits_refV_array _ u0)
  have tkP := Takes.of_laid (v := sen.v) hk hord tyP (by rw [Y.suppType]; exact fits_refV_object _ sen)
  have tkM := Takes.of_laid (v := .ref (W.heap.size + 1)) hk hord tyM (by rw [Y.msgType]; rfl)
  have hskip : SkipFacts T e.platform s (fun u => u) u0 ((preparedCellV T.toThrowableT (freshCell P1.m.cls kX) (W.heap.size + 2) u0 sen).withEntry W.cur) := ⟨{ ci198 := ci198, i198 := i198, fBack := fB }, ⟨hk198, hg198, ha198, hsB⟩, hbk, fun _ _ => rfl⟩
  have h0 : At W g.method c below := by rw [hg]; exact X.here
  obtain ⟨hbeyond, hfreeW⟩ := X.vmMayThrow hsize (.throwNew cls (some text) none) (fun f hf => by cases hf) rfl hRlocals
  have hfr' : W.frames.length + Ps.length + 4 < (e.platform.stackLimits W.me).1 := by have := X.framesAbove hRframes; omega
  have hwd' : (stackUse (.java g :: W.frames.tail)).2 + 13 * Ps.length + 55 ≤ (e.platform.stackLimits W.me).2 := by have := X.stackAbove hsize (K := 13 * Ps.length + 55) (by omega); omega
  have hslots : W.slotsUsed + (stringBytes (stringToUtf16 text)).size + Zs.kS.instanceTypes.size + kX.instanceTypes.size ≤ e.platform.maxSlots := by
    have := X.slotsAbove hRslots
    rw [hn4, hn6]
    omega
  obtain ⟨vm', hW', st⟩ := Steps.vmThrowsMessageColdByV p (s₀ := s) (S := W) (g := g) h0 hexec T L Z LZ M LM X.warmed (t := W.cur) rfl Zs LZs P1 L1 Ps hL hlink1 hlink hsoe hoom hfound hk hinit hord hctor
    (Launch.admits_hotImplicitExceptions X.admits) hbeyond hfreeW htext hlimit hheap (X.cellsAbove hRcells) hslots (hfitv _) (hfitc _)
    (Nn := fun u => u) heapOnly_id (fun _ _ => rfl) (fun _ => rfl) (fun u x y => setCell_twice _ _ _ _) (fun _ => Nat.le_refl _) (cN := ((preparedCellV T.toThrowableT (freshCell P1.m.cls kX) (W.heap.size + 2) u0 sen).withEntry W.cur))
    hsel0 hcellS hknownS hvU tkS (fun _ hu => hu) (fun _ hu => hu) rfl rfl rfl (by simp [preparedCellV, Cell.setSlot, Cell.withEntry]) hskip (fun _ _ hA hW _ hroom _ hrest => L.nativeOff p htr hA hW hroom hrest) hselF hvSen tkC tkP tkM Y.objLocals rfl hfr' hwd'
  rw [plainBareV_eq T.toThrowableT (W.heap.size + 2) u0 sen (.ref (W.heap.size + 1)) W.cur rfl rfl] at st
  obtain ⟨-, -, w3, w4, -, -, -⟩ := withThrown_facts e.platform W Zs text P1.m.cls kX
  have X3 := ((X.pushed (bytesOf Zs.cB (stringToUtf16 text))).pushed (stringAt Zs.cS Zs.kS Zs.fv Zs.fc (stringToUtf16 text) W.heap.size)).pushed (freshCell P1.m.cls kX)
  rw [← withString_eq] at X3
  have X4 := X3.noted hW'
  have ha : (W.heap.size + 2) < ((withThrown W Zs text P1.m.cls kX).setVm vm').heap.size := by show _ < (withThrown W Zs text P1.m.cls kX).heap.size; rw [w3]; omega
  have hcell : ((withThrown W Zs text P1.m.cls kX).setVm vm').heap[(W.heap.size + 2)]? = some (freshCell P1.m.cls kX) := w4
  have X5 := ((((X4.stored hcell T.fCause.slot (.ref (W.heap.size + 2))).storedAgain ha T.fStack.slot u0.v).storedAgain ha T.fSupp.slot sen.v).storedAgain ha T.fStack.slot u0.v).storedAgain ha T.fMsg.slot (.ref (W.heap.size + 1))
  obtain ⟨g₁, hfrM⟩ := X5.frames_eq
  have hU : ((((withThrown W Zs text P1.m.cls kX).setVm vm').setCell (W.heap.size + 2) (plainBareV T.toThrowableT (freshCell P1.m.cls kX) (W.heap.size + 2) u0 sen (.ref (W.heap.size + 1)))).setTop g).pushFrame (.throwing (W.heap.size + 2)) = (((withThrown W Zs text P1.m.cls kX).setVm vm').setCell (W.heap.size + 2) (plainBareV T.toThrowableT (freshCell P1.m.cls kX) (W.heap.size + 2) u0 sen (.ref (W.heap.size + 1)))).setFrames (.throwing (W.heap.size + 2) :: .java g :: below) := by
    rw [State.pushFrame, State.frames_setTop _ hfrM, State.setTop_of_frames _ hfrM, State.setFrames_setFrames]
  have b1 : (bytesOf Zs.cB (stringToUtf16 text)).slots.size = (stringBytes (stringToUtf16 text)).size := by
    rw [(Cell.writeAll_facts _ _).2.2]; simp [bytes0]
  have b2 : (stringAt Zs.cS Zs.kS Zs.fv Zs.fc (stringToUtf16 text) W.heap.size).slots.size = 4 := by simp [string0, Cell.setSlot, hn4]
  have b3 : (freshCell P1.m.cls kX).slots.size = 6 := by simp [hn6]
  rw [b1, b2, b3] at X5
  have e9 : slots + (stringBytes (stringToUtf16 text)).size + 4 + 6 = slots + ((stringBytes (stringToUtf16 text)).size + 4 + 6) := by omega
  rw [e9] at X5
  simp only [List.append_assoc, List.cons_append, List.nil_append] at X5
  refine ⟨((withThrown W Zs text P1.m.cls kX).setVm vm').setCell (W.heap.size + 2) (plainBareV T.toThrowableT (freshCell P1.m.cls kX) (W.heap.size + 2) u0 sen (.ref (W.heap.size + 1))), W.heap.size + 2, _, fun target ht => st _ (by rw [X.tail, ← hU]; exact ht),
    X5.forget (fun y hy => ?_), heapAt_setCell_self _ ha, hfound, rfl⟩
  simp only [List.mem_cons, List.not_mem_nil, or_false] at hy
  have hge : s.heap.size ≤ W.heap.size := X.same.2.1
  rcases hy with rfl | rfl | rfl | rfl | rfl <;> exact Nat.le_trans hge (Nat.le_add_right _ 2)
set_option maxHeartbeats 1000000 in
/-- the machine throws NullPointerException, no traces kept: from its note over the frame g to 'throwing' over the same frame (follows the proof of Stand.vmThrowsNpe, Shelf42/KT2.lean; throwsNpeColdBareVAt, Shelf42/NT91.lean, called) -/
theorem vx_npeAt {p : Program} {l : Launch} {e : Env} {R : Room} {s : State} {m₀ : MethodId} {args : Array Value} {below : List Frame} {meth : Method} {c : Code} {W : State} {locs : List Loc} {cells slots : Nat}
    (X : Stand p l e R s m₀ args below meth c W locs cells slots) (hexec : p.tables.exec = Jvm.exec) (htr : e.platform.stackTraces = false) {n : Nat}
    (h : ∀ a ∈ Bundle.npeArmAtoms n, a.before args s = true)
    (hlocs : ∀ x ∈ locs, ∀ cell, s.heap[x.base]? = some cell → cell.vm.isStatics = false)
    {g : JFrame} (hg : g.method = m₀) (hsize : g.locals.size = c.maxLocals)
    (hRframes : 7 < R.frames) (hRlocals : 2 * g.monitorRoom + (g.stack.map fun v => v.category).sum + 10240 ≤ R.locals)
    (hRcells : cells + 1 ≤ R.cells) (hRslots : slots + n ≤ R.slots) (hlocks : meth.locks = false) :
    ∃ (S : State) (q : Addr) (ce : Cell), (∀ target, Steps p.tables e below ((S.setTop g).pushFrame (.throwing q)) target → Steps p.tables e below ((W.setTop g).pushFrame (.throwNew "java/lang/NullPointerException" none none)) target) ∧
      Stand p l e R s m₀ args below meth c S locs (cells + 1) (slots + n) ∧ S.heap[q]? = some ce ∧ s.vm.findClass "java/lang/NullPointerException" = some ce.cls ∧ ce.vm = .none := by
  have howns : e.platform.frameOwnsMonitors = true := by rw [X.admits.platform]
  have hfin : e.platform.finalization = false := by rw [X.admits.platform]
  have hpl : e.platform.magicAccessors = ({} : Platform).magicAccessors := by rw [X.admits.platform]
  have hpl2 : e.platform.arrayCloneIsPublic = true := by rw [X.admits.platform]
  have a' : ∀ x, x ∈ Bundle.npeArmAtoms n → x.holds args s none s [] = true := fun x hx => h x hx
  obtain ⟨T, Z, L, LZ, Y⟩ := ThrowableC.of_atoms (args := args) howns hfin hpl (fun x hx => h x (by simp [Bundle.npeArmAtoms, hx]))
  obtain ⟨N, LN, hcN, hnNF, hordN, hffS⟩ := NpeC.of_atoms (args := args) hpl hpl2 L Y (fun x hx => h x (by simp [Bundle.npeArmAtoms, hx]))
  obtain ⟨P1, L1, hP1m, hP1s⟩ := PassC.of_atoms (args := args) (s := s) hpl (X := Bundle.nN) (Y := Bundle.rN) (by decide) (by decide) LibCode.NullPointerException.Init0.at_0 LibCode.NullPointerException.Init0.at_1 LibCode.NullPointerException.Init0.at_4 (fun x hx => h x (by simp [Bundle.npeArmAtoms, hx]))
  obtain ⟨PR, LR, hPRm, hPRs⟩ := PassC.of_atoms (args := args) (s := s) hpl (X := Bundle.rN) (Y := Bundle.eN) (by decide) (by decide) LibCode.RuntimeException.Init0.at_0 LibCode.RuntimeException.Init0.at_1 LibCode.RuntimeException.Init0.at_4 (fun x hx => h x (by simp [Bundle.npeArmAtoms, hx]))
  obtain ⟨PE, LEx, hPEm, hPEs⟩ := PassC.of_atoms (args := args) (s := s) hpl (X := Bundle.eN) (Y := Bundle.tN) (by decide) (by decide) LibCode.Exception.Init0.at_0 LibCode.Exception.Init0.at_1 LibCode.Exception.Init0.at_4 (fun x hx => h x (by simp [Bundle.npeArmAtoms, hx]))
  have hfound : s.vm.findClass Bundle.nN = some P1.m.cls := findClass_of_methodNamed hP1m
  have ecls : N.cN = P1.m.cls := Option.some.inj (hcN.symm.trans hfound)
  have hk : s.vm.classes[P1.m.cls]? = some N.kN := by rw [← ecls]; exact LN.cls
  have hinit := Cond.initialized_spec hfound hk (a' (.initialized Bundle.nN) (by simp [Bundle.npeArmAtoms]))
  have hctor : N.kN.findMethod "<init>" "()V" = some P1.m.idx := findMethod_of_methodNamed hP1m hk
  obtain ⟨c1, k1, hc1, hk1, -, -, -, hn⟩ := Cond.instantiable_spec (a' (.instantiable Bundle.nN n) (by simp [Bundle.npeArmAtoms]))
  cases Option.some.inj (hc1.symm.trans hfound)
  cases Option.some.inj (hk1.symm.trans hk)
  have hfsz : (freshCell P1.m.cls N.kN).slots.size = n := by simp [hn]
  have hlink1 : P1.sup = PR.m := Option.some.inj (hP1s.symm.trans hPRm)
  have hlinkR : PR.sup = PE.m := Option.some.inj (hPRs.symm.trans hPEm)
  have hlinkE : PE.sup = Z.m T.toThrowableT := Option.some.inj (hPEs.symm.trans Y.init0)
  have hLs : ∀ P, P ∈ [PR, PE] → P.Links0 e.platform s := fun P hP => by
    simp only [List.mem_cons, List.not_mem_nil, or_false] at hP
    rcases hP with rfl | rfl
    · exact LR
    · exact LEx
  have hsel0 : selectMethod e.platform s.vm P1.m.cls T.fill0 = .method T.fill0 := by
    obtain ⟨c2, r2, m2, q1, q2, q3, q4, -⟩ := Cond.selects_spec (a' (.selects Bundle.nN Bundle.tFill0 Bundle.tFill0) (by simp [Bundle.npeArmAtoms]))
    cases Option.some.inj (q1.symm.trans hfound)
    cases Option.some.inj (q2.symm.trans (State.methodFound?_of_named Y.fill0 (by decide)))
    cases Option.some.inj (q3.symm.trans Y.fill0)
    rw [Launch.admits_selectMethod X.admits]; exact q4
  have hselF : selectMethod e.platform s.vm P1.m.cls T.fill = .method N.fill := by
    obtain ⟨c2, r2, m2, q1, q2, q3, q4, -⟩ := Cond.selects_spec (a' (.selects Bundle.nN Bundle.tFill Bundle.nFill) (by simp [Bundle.npeArmAtoms]))
    cases Option.some.inj (q1.symm.trans hfound)
    cases Option.some.inj (q2.symm.trans (State.methodFound?_of_named Y.fill (by decide)))
    cases Option.some.inj (q3.symm.trans hnNF)
    rw [Launch.admits_selectMethod X.admits]; exact q4
  obtain ⟨cellS0, hcS0, hiss⟩ := Y.statics
  obtain ⟨u0, hu0⟩ := Cond.staticRefV Y.unassigned L.unassignedStatic L.statics hcS0 hiss (a' (.isRef (.static Bundle.tN "UNASSIGNED_STACK" Bundle.steD)) (by simp [Bundle.npeArmAtoms]))
  obtain ⟨sen, hsen⟩ := Cond.staticRefV Y.sentinel L.sentinelStatic L.statics hcS0 hiss (a' (.isRef (.static Bundle.tN "SUPPRESSED_SENTINEL" Bundle.listD)) (by simp [Bundle.npeArmAtoms]))
  obtain ⟨ci198, i198, fB, hk198, hg198, ha198, hsB, -, hnB, htB, hffB⟩ := Cond.ownField (t := .object "java/lang/Object") Y.found L.cls (by decide +kernel) (a' (.fieldLink Bundle.tN 198 Bundle.tN "backtrace" Bundle.objD) (by simp [Bundle.npeArmAtoms])) (a' (.lays Bundle.tN Bundle.tN "backtrace" Bundle.objD) (by simp [Bundle.npeArmAtoms])) e.platform hpl
  obtain ⟨cellS, hcS', heS, -, hkeep⟩ := X.same.2.2.2.2.2 T.aS cellS0 hcS0
  have hcellS : W.heap[T.aS]? = some cellS := hcS'
  have hout' : ∀ i, (⟨T.aS, i⟩ : Loc) ∉ locs := fun i hmem => by
    have := hlocs _ hmem cellS0 hcS0
    rw [hiss] at this; cases this
  have hknownS : cellS.vm ≠ .unknown := by
    rw [heS]; intro hu
    rw [show cellS0.vm = .unknown from hu] at hiss
    cases hiss
  have hvU : cellS.slots[T.fUnassigned.slot]? = some u0.v := by rw [hkeep _ (hout' _)]; exact hu0
  have hvSen : cellS.slots[T.fSentinel.slot]? = some sen.v := by rw [hkeep _ (hout' _)]; exact hsen
  obtain ⟨tyC, dC, hdC, hdnC⟩ := Cond.laysAt hfound hk Y.cause (a' (.lays Bundle.nN Bundle.tN "cause" "Ljava/lang/Throwable;") (by simp [Bundle.npeArmAtoms]))
  obtain ⟨tyS, dS, hdS, hdnS⟩ := Cond.laysAt hfound hk Y.stack (a' (.lays Bundle.nN Bundle.tN "stackTrace" Bundle.steD) (by simp [Bundle.npeArmAtoms]))
  obtain ⟨tyP, dP, hdP, hdnP⟩ := Cond.laysAt hfound hk Y.supp (a' (.lays Bundle.nN Bundle.tN "suppressedExceptions" Bundle.listD) (by simp [Bundle.npeArmAtoms]))
  obtain ⟨tyX, dX, hdX, hdnX⟩ := Cond.laysAt hfound hk hffS (a' (.lays Bundle.nN Bundle.nN "extendedMessageState" "I") (by simp [Bundle.npeArmAtoms, Bundle.npeAtoms]))
  obtain ⟨hnX, htX⟩ := State.fieldFound?_type hffS (t := .int) (by decide +kernel)
  have xC := Cond.laysApart hdC hdX hdnC hdnX (by rw [hnX, Y.causeName]; decide)
  have xS := Cond.laysApart hdS hdX hdnS hdnX (by rw [hnX, Y.stackName]; decide)
  have xP := Cond.laysApart hdP hdX hdnP hdnX (by rw [hnX, Y.suppName]; decide)
  have hv0 : (freshCell P1.m.cls N.kN).slots[N.fState.slot]? = some (.int 0) := by
    have := fresh_default (c := P1.m.cls) tyX
    rw [htX] at this; exact this
  obtain ⟨tyB, dB, hdB, hdnB⟩ := Cond.laysAt hfound hk hffB (a' (.lays Bundle.nN Bundle.tN "backtrace" Bundle.objD) (by simp [Bundle.npeArmAtoms]))
  have bC := Cond.laysApart hdB hdC hdnB hdnC (by rw [hnB, Y.causeName]; decide)
  have bS := Cond.laysApart hdB hdS hdnB hdnS (by rw [hnB, Y.stackName]; decide)
  have bP := Cond.laysApart hdB hdP hdnB hdnP (by rw [hnB, Y.suppName]; decide)
  have bX := Cond.laysApart hdB hdX hdnB hdnX (by rw [hnB, hnX]; decide)
  have hbk : ((npeCell N.toNpeT (preparedCellV T.toThrowableT (freshCell P1.m.cls N.kN) W.heap.size u0 sen) W.cur).withEntry W.cur).slots[fB.slot]? = some .null := by
    have := fresh_default (c := P1.m.cls) tyB
    rw [htB] at this
    simpa [npeCell, preparedCellV, Cell.setSlot, Cell.withEntry, Array.getElem?_setIfInBounds, bC, bS, bP, bX, bC.symm, bS.symm, bP.symm, bX.symm, defaultValue] using this
  have tkC := Takes.of_laid (v := .ref W.heap.size) hk hordN tyC (by rw [Y.causeType]; rfl)
  have tkS := Takes.of_laid (v := u0.v) hk hordN tyS (by rw [Y.stackType]; exact fits_refV_array _ u0)
  have tkP := Takes.of_laid (v := sen.v) hk hordN tyP (by rw [Y.suppType]; exact fits_refV_object _ sen)
  have tkX := Takes.of_laid (v := .int 1) hk hordN tyX (by rw [htX]; rfl)
  have hskip : SkipFacts T e.platform s (fun u => u) u0 ((npeCell N.toNpeT (preparedCellV T.toThrowableT (freshCell P1.m.cls N.kN) W.heap.size u0 sen) W.cur).withEntry W.cur) := ⟨{ ci198 := ci198, i198 := i198, fBack := fB }, ⟨hk198, hg198, ha198, hsB⟩, hbk, fun _ _ => rfl⟩
  obtain ⟨vm', X3, st, -⟩ := X.throwsNpeColdBareVAt hexec hg hsize T L Z LZ N LN P1 L1 [PR, PE] hLs hlink1 ⟨hlinkR, hlinkE, trivial⟩ hfound hk hinit hordN hctor hsel0 hselF hcellS hknownS hvU hvSen
    hv0 xC xS xP tkC tkS tkP tkX Y.objLocals hskip (fun _ _ hA hW _ hroom _ hrest => L.nativeOff p htr hA hW hroom hrest) (by simpa using hRframes) hRlocals (by simp) hRcells (by rw [hn]; exact hRslots)
  have hlt : W.heap.size < ((W.pushCell (freshCell P1.m.cls N.kN)).setVm vm').heap.size := by
    show W.heap.size < (W.pushCell (freshCell P1.m.cls N.kN)).heap.size
    rw [State.heap_size_pushCell]; omega
  rw [hfsz] at X3
  obtain ⟨g₁, hfrM⟩ := X3.frames_eq
  have hU : ((((W.pushCell (freshCell P1.m.cls N.kN)).setVm vm').setCell W.heap.size (npeBareV T.toThrowableT N.toNpeT (freshCell P1.m.cls N.kN) W.heap.size u0 sen)).setTop g).pushFrame (.throwing W.heap.size) = (((W.pushCell (freshCell P1.m.cls N.kN)).setVm vm').setCell W.heap.size (npeBareV T.toThrowableT N.toNpeT (freshCell P1.m.cls N.kN) W.heap.size u0 sen)).setFrames (.throwing W.heap.size :: .java g :: below) := by
    rw [State.pushFrame, State.frames_setTop _ hfrM, State.setTop_of_frames _ hfrM, State.setFrames_setFrames]
  refine ⟨_, W.heap.size, _, fun target ht => st.trans (by rw [← hU]; exact ht), X3.forget (fun y hy => ?_), heapAt_setCell_self _ hlt, hfound, rfl⟩
  simp only [List.mem_cons, List.not_mem_nil, or_false] at hy
  have hge : s.heap.size ≤ W.heap.size := X.same.2.1
  rcases hy with rfl | rfl | rfl | rfl | rfl <;> exact hge
/-- the words of a machine's NullPointerException, but the four that speak of the heap -/
def vx_atN (n : Nat) : List Cond := (Bundle.npeArmAtoms n).filter vx_no
/-- the words of a machine's throw with a message, but the four that speak of the heap -/
def vx_atM (X : String) (names : List String) : List Cond := (Bundle.messageArmAtoms X names).filter vx_no
section
variable {p : Program} {l : Launch} {e : Env} {R : Room} {s : State} {m : MethodId} {args : Array Value} {below : List Frame} {meth : Method} {c : Code} {H : Heap} {locs : List Loc} {cells slots : Nat}
/-- a frame seen from a rebased start, seen from the first start again -/
theorem vx_back9 {T S : State} {R' : Room} {k n : Nat} (X : Stand p l e R s m args below meth c T locs cells slots) (Y : Stand p l e R' ((T.setVm s.vm).setFrames (.invoking m args :: below)) m args below meth c T [] 0 0) (Z : Stand p l e R' ((T.setVm s.vm).setFrames (.invoking m args :: below)) m args below meth c S [] k n) :
    Stand p l e R s m args below meth c S locs (cells + k) (slots + n) := by
  have hW0 : s.WarmedH ((T.setVm s.vm).setFrames (.invoking m args :: below)).vm := State.WarmedH.refl s
  refine { admits := X.admits, cas := X.cas, clock := X.clock, frames := X.frames, room := X.room, hears := X.hears, method := X.method, code := X.code, here := Z.here, tail := Z.tail, warmed := State.WarmedH.trans hW0 Z.warmed, limits := Z.limits.trans (Y.limits.symm.trans X.limits), bytes := Z.bytes.trans (Y.bytes.symm.trans X.bytes), same := ?_ }
  obtain ⟨e1, e2⟩ := Z.same
  rw [State.setFrames_setFrames] at e1
  have h2 : (T.setVm s.vm).sameButNew (S.setVm s.vm) [] k n := ⟨e1, e2⟩
  have h3 := X.same.trans h2
  rw [List.append_nil] at h3
  exact h3
/-- from the machine's note that E is thrown here with this text -/
def vx_Note (p : Program) (l : Launch) (e : Env) (R : Room) (s : State) (m : MethodId) (args : Array Value) (below : List Frame) (meth : Method) (c : Code) (H : Heap) (locs : List Loc) (cells slots : Nat) (Q : State → Prop) (g : JFrame) (E text : String) : Prop :=
  ∀ T : State, T.heap = H → Stand p l e R s m args below meth c T locs cells slots → ∃ t, Steps p.tables e below ((T.setTop g).pushFrame (.throwNew E (some text) none)) t ∧ Q t
theorem vx_vm {pc : Nat} {ls : Array Slot} {rest : List Value} {Q : State → Prop} (hexec : p.tables.exec = Jvm.exec) (hl : l.stackTraces = false) {cls text : String} {names : List String} {nb : Nat} {A : Nat → Prop}
    (hcls : Bundle.fit cls = true) (hnames : ∀ n ∈ names, Bundle.fit n = true) (hsoe : (cls == "java/lang/StackOverflowError") = false) (hoom : (cls == "java/lang/OutOfMemoryError") = false)
    (hat : ∀ w ∈ vx_atM cls names, w.before args s = true) (hgood : ∀ w ∈ vx_atM cls names, vx_ot w = true)
    (hU : vx_Zq Bundle.tN "UNASSIGNED_STACK" Bundle.steD A s s.heap) (hN : vx_Zq Bundle.tN "SUPPRESSED_SENTINEL" Bundle.listD A s s.heap) (hS : va_S A s.heap H locs) (hsize : ls.size = c.maxLocals)
    (htext : (text == notModelled) = false) (hnb : (stringBytes (stringToUtf16 text)).size ≤ nb) (hnb1 : nb ≤ 1000)
    (hRframes : names.length + 4 < R.frames) (hRlocals : (rest.map fun v => v.category).sum + 10240 ≤ R.locals) (hshort : 13 * names.length + 55 ≤ 10240) (hRcells : cells + 3 ≤ R.cells) (hRslots : slots + (nb + 10) ≤ R.slots) (hlocks : meth.locks = false)
    (k : ∀ (H1 : Heap) (q9 : Addr) (ce : Cell), H.size ≤ H1.size → (∀ q : Nat, q < H.size → H1[q]? = H[q]?) → va_S A s.heap H1 locs → H1[q9]? = some ce → ce.vm = .none → s.vm.findClass cls = some ce.cls → vx_W p l e R s m args below meth c H1 locs (cells + 3) (slots + (nb + 10)) Q (F0 m pc ls rest) q9) :
    vx_Note p l e R s m args below meth c H locs cells slots Q (F0 m pc ls rest) cls text := by
  intro T hT X
  have htr : e.platform.stackTraces = false := (show e.platform.stackTraces = l.stackTraces by rw [X.admits.platform]).trans hl
  have Y := vx_rebase X (R' := { frames := R.frames, locals := R.locals, cells := 3, slots := nb + 10 }) (Nat.le_refl _) (Nat.le_refl _) hRcells hRslots
  have hhp : ((T.setVm s.vm).setFrames (.invoking m args :: below)).heap = H := hT
  have hW0 : s.WarmedH ((T.setVm s.vm).setFrames (.invoking m args :: below)).vm := State.WarmedH.refl s
  have hat' : ∀ w ∈ vx_atM cls names, w.before args ((T.setVm s.vm).setFrames (.invoking m args :: below)) = true := fun w hw => vx_ot_at hW0 rfl (hgood w hw) (hat w hw)
  have hU' : vx_Zq Bundle.tN "UNASSIGNED_STACK" Bundle.steD A ((T.setVm s.vm).setFrames (.invoking m args :: below)) ((T.setVm s.vm).setFrames (.invoking m args :: below)).heap := by rw [hhp]; exact vx_Zq.moved hW0.alike (hU.kept hS.2.1)
  have hN' : vx_Zq Bundle.tN "SUPPRESSED_SENTINEL" Bundle.listD A ((T.setVm s.vm).setFrames (.invoking m args :: below)) ((T.setVm s.vm).setFrames (.invoking m args :: below)).heap := by rw [hhp]; exact vx_Zq.moved hW0.alike (hN.kept hS.2.1)
  obtain ⟨S, q, ce, st, Z, hce, hcl', hv⟩ := vx_vmAt Y hexec htr (cls := cls) (names := names) (text := text) hcls hnames hsoe hoom (vx_own hat' (vx_isRefq hU'.1) (vx_isRefq hN'.1) hU'.2.word hN'.2.word) (fun x hx => nomatch hx) htext
    (by rw [Launch.admits_arrayLengthLimit X.admits]; omega) (by rw [Launch.admits_maxHeapBytes X.admits]; simp only [componentBytes]; omega)
    (g := F0 m pc ls rest) rfl hsize hRframes (by show 2 * 0 + (rest.map fun v => v.category).sum + 10240 ≤ R.locals; omega) hshort (by show 0 + 3 ≤ 3; omega) (by show 0 + (_ + 4 + 6) ≤ nb + 10; omega) hlocks
  obtain ⟨f1, f2⟩ := vx_frame Z.same
  have f1' : H.size ≤ S.heap.size := by rw [← hT]; exact f1
  have f2' : ∀ q : Nat, q < H.size → S.heap[q]? = H[q]? := fun q hq => by
    rw [← hT]
    exact f2 q (by rw [← hT] at hq; exact hq) (fun z hz => nomatch hz)
  have X5 := vx_back9 X Y Z
  have X6 : Stand p l e R s m args below meth c S locs (cells + 3) (slots + (nb + 10)) := { X5 with same := X5.same.mono (by omega) (by omega) }
  obtain ⟨t, a1, b1⟩ := k S.heap q ce f1' f2' ⟨Nat.le_trans hS.1 f1', fun q h1 h2 => (f2' q (Nat.lt_of_lt_of_le h1 hS.1)).trans (hS.2.1 q h1 h2), hS.2.2⟩ hce hv hcl' S rfl X6
  exact ⟨t, st t a1, b1⟩
/-- from the machine's note that NullPointerException is thrown here -/
def vx_NoteN (p : Program) (l : Launch) (e : Env) (R : Room) (s : State) (m : MethodId) (args : Array Value) (below : List Frame) (meth : Method) (c : Code) (H : Heap) (locs : List Loc) (cells slots : Nat) (Q : State → Prop) (g : JFrame) : Prop :=
  ∀ T : State, T.heap = H → Stand p l e R s m args below meth c T locs cells slots → ∃ t, Steps p.tables e below ((T.setTop g).pushFrame (.throwNew "java/lang/NullPointerException" none none)) t ∧ Q t
theorem vx_npe {pc : Nat} {ls : Array Slot} {rest : List Value} {Q : State → Prop} (hexec : p.tables.exec = Jvm.exec) (hl : l.stackTraces = false) {nb : Nat} {A : Nat → Prop}
    (hat : ∀ w ∈ vx_atN nb, w.before args s = true) (hgood : ∀ w ∈ vx_atN nb, vx_ot w = true)
    (hU : vx_Zq Bundle.tN "UNASSIGNED_STACK" Bundle.steD A s s.heap) (hN : vx_Zq Bundle.tN "SUPPRESSED_SENTINEL" Bundle.listD A s s.heap) (hS : va_S A s.heap H locs) (hsize : ls.size = c.maxLocals)
    (hRframes : 7 < R.frames) (hRlocals : (rest.map fun v => v.category).sum + 10240 ≤ R.locals) (hRcells : cells + 1 ≤ R.cells) (hRslots : slots + nb ≤ R.slots) (hlocks : meth.locks = false)
    (k : ∀ (H1 : Heap) (q9 : Addr) (ce : Cell), H.size ≤ H1.size → (∀ q : Nat, q < H.size → H1[q]? = H[q]?) → va_S A s.heap H1 locs → H1[q9]? = some ce → ce.vm = .none → s.vm.findClass "java/lang/NullPointerException" = some ce.cls → vx_W p l e R s m args below meth c H1 locs (cells + 1) (slots + nb) Q (F0 m pc ls rest) q9) :
    vx_NoteN p l e R s m args below meth c H locs cells slots Q (F0 m pc ls rest) := by
  intro T hT X
  have htr : e.platform.stackTraces = false := (show e.platform.stackTraces = l.stackTraces by rw [X.admits.platform]).trans hl
  have Y := vx_rebase X (R' := { frames := R.frames, locals := R.locals, cells := 1, slots := nb }) (Nat.le_refl _) (Nat.le_refl _) hRcells hRslots
  have hhp : ((T.setVm s.vm).setFrames (.invoking m args :: below)).heap = H := hT
  have hW0 : s.WarmedH ((T.setVm s.vm).setFrames (.invoking m args :: below)).vm := State.WarmedH.refl s
  have hat' : ∀ w ∈ vx_atN nb, w.before args ((T.setVm s.vm).setFrames (.invoking m args :: below)) = true := fun w hw => vx_ot_at hW0 rfl (hgood w hw) (hat w hw)
  have hU' : vx_Zq Bundle.tN "UNASSIGNED_STACK" Bundle.steD A ((T.setVm s.vm).setFrames (.invoking m args :: below)) ((T.setVm s.vm).setFrames (.invoking m args :: below)).heap := by rw [hhp]; exact vx_Zq.moved hW0.alike (hU.kept hS.2.1)
  have hN' : vx_Zq Bundle.tN "SUPPRESSED_SENTINEL" Bundle.listD A ((T.setVm s.vm).setFrames (.invoking m args :: below)) ((T.setVm s.vm).setFrames (.invoking m args :: below)).heap := by rw [hhp]; exact vx_Zq.moved hW0.alike (hN.kept hS.2.1)
  obtain ⟨S, q, ce, st, Z, hce, hcl', hv⟩ := vx_npeAt Y hexec htr (n := nb) (vx_own hat' (vx_isRefq hU'.1) (vx_isRefq hN'.1) hU'.2.word hN'.2.word) (fun x hx => nomatch hx)
    (g := F0 m pc ls rest) rfl hsize hRframes (by show 2 * 0 + (rest.map fun v => v.category).sum + 10240 ≤ R.locals; omega) (by show 0 + 1 ≤ 1; omega) (by show 0 + nb ≤ nb; omega) hlocks
  obtain ⟨f1, f2⟩ := vx_frame Z.same
  have f1' : H.size ≤ S.heap.size := by rw [← hT]; exact f1
  have f2' : ∀ q : Nat, q < H.size → S.heap[q]? = H[q]? := fun q hq => by
    rw [← hT]
    exact f2 q (by rw [← hT] at hq; exact hq) (fun z hz => nomatch hz)
  have X5 := vx_back9 X Y Z
  have X6 : Stand p l e R s m args below meth c S locs (cells + 1) (slots + nb) := { X5 with same := X5.same.mono (by omega) (by omega) }
  obtain ⟨t, a1, b1⟩ := k S.heap q ce f1' f2' ⟨Nat.le_trans hS.1 f1', fun q h1 h2 => (f2' q (Nat.lt_of_lt_of_le h1 hS.1)).trans (hS.2.1 q h1 h2), hS.2.2⟩ hce hv hcl' S rfl X6
  exact ⟨t, st t a1, b1⟩
variable {Q : State → Prop} {cc : ByteArray} {pc : Nat} {ls : Array Slot} {rest : List Value}
theorem vx_idivZ (hexec : p.tables.exec = Jvm.exec) (hb : c.code = cc) {a b : Int32} (h0 : b = 0) (d : decode cc pc = .ok (.idiv, 1)) (k : vx_Note p l e R s m args below meth c H locs cells slots Q (F0 m pc ls rest) "java/lang/ArithmeticException" "/ by zero") :
    W p l e R s m args below meth c H locs cells slots Q (F0 m pc ls (.int b :: .int a :: rest)) := by
  intro T hT X
  obtain ⟨t, st, q⟩ := k T hT X
  exact ⟨t, X.idivZero hexec (g := F0 m pc ls (.int b :: .int a :: rest)) rfl (a := a) (rest := rest) (by rw [h0]) (by rw [hb]; exact d) t st, q⟩
theorem vx_iremZ (hexec : p.tables.exec = Jvm.exec) (hb : c.code = cc) {a b : Int32} (h0 : b = 0) (d : decode cc pc = .ok (.irem, 1)) (k : vx_Note p l e R s m args below meth c H locs cells slots Q (F0 m pc ls rest) "java/lang/ArithmeticException" "/ by zero") :
    W p l e R s m args below meth c H locs cells slots Q (F0 m pc ls (.int b :: .int a :: rest)) := by
  intro T hT X
  obtain ⟨t, st, q⟩ := k T hT X
  exact ⟨t, X.iremZero hexec (g := F0 m pc ls (.int b :: .int a :: rest)) rfl (a := a) (rest := rest) (by rw [h0]) (by rw [hb]; exact d) t st, q⟩
theorem vx_ldivZ (hexec : p.tables.exec = Jvm.exec) (hb : c.code = cc) {a b : Int64} (h0 : b = 0) (d : decode cc pc = .ok (.ldiv, 1)) (k : vx_Note p l e R s m args below meth c H locs cells slots Q (F0 m pc ls rest) "java/lang/ArithmeticException" "/ by zero") :
    W p l e R s m args below meth c H locs cells slots Q (F0 m pc ls (.long b :: .long a :: rest)) := by
  intro T hT X
  obtain ⟨t, st, q⟩ := k T hT X
  exact ⟨t, X.ldivZero hexec (g := F0 m pc ls (.long b :: .long a :: rest)) rfl (a := a) (rest := rest) (by rw [h0]) (by rw [hb]; exact d) t st, q⟩
theorem vx_lremZ (hexec : p.tables.exec = Jvm.exec) (hb : c.code = cc) {a b : Int64} (h0 : b = 0) (d : decode cc pc = .ok (.lrem, 1)) (k : vx_Note p l e R s m args below meth c H locs cells slots Q (F0 m pc ls rest) "java/lang/ArithmeticException" "/ by zero") :
    W p l e R s m args below meth c H locs cells slots Q (F0 m pc ls (.long b :: .long a :: rest)) := by
  intro T hT X
  obtain ⟨t, st, q⟩ := k T hT X
  exact ⟨t, X.lremZero hexec (g := F0 m pc ls (.long b :: .long a :: rest)) rfl (a := a) (rest := rest) (by rw [h0]) (by rw [hb]; exact d) t st, q⟩
theorem vx_ialdZ {D : va_G} {cl : List vw_C} {ws : va_W} {tys : List (ClassId × FieldType)} {a : Nat} (hexec : p.tables.exec = Jvm.exec) (hb : c.code = cc) (hK : va_K D cl tys s) (hP : va_P D cl ws H) (q0 t0 : Nat) {cA : ClassId} {n : Nat} {f : Nat → Int32} (ha : ws[q0]? = some (a, .inl (cA, n, .inl f))) (ht : tys[t0]? = some (cA, .int)) {i : Int32} (hout : ¬ vp_in i n) (hdg : decode cc pc = .ok (.iaload, 1))
    (k : ∀ tx : String, tx = (toString "Index " ++ toString i ++ toString " out of bounds for length " ++ toString n : String) → vx_Note p l e R s m args below meth c H locs cells slots Q (F0 m pc ls rest) "java/lang/ArrayIndexOutOfBoundsException" tx) : W p l e R s m args below meth c H locs cells slots Q (F0 m pc ls (.int i :: .ref a :: rest)) := by
  intro T hT X
  obtain ⟨t, st, q⟩ := k _ rfl T hT X
  refine ⟨t, ?_, q⟩
  have h1 := X.ialoadOut hexec (by rw [hT]; exact hP q0 _ ha) ((hK.2 t0 _ ht).1 n (fun j => .int (f j))) (j := i) (by show (i < 0 ∨ (arrV _ _ _).slots.size ≤ _); rw [arrV_size]; exact Classical.byContradiction hout) (g := F0 m pc ls (.int i :: .ref a :: rest)) rfl (rest := rest) rfl (by rw [hb]; exact hdg) t
  simp only [arrV_size] at h1
  exact h1 st
theorem vx_iastZ {D : va_G} {cl : List vw_C} {ws : va_W} {tys : List (ClassId × FieldType)} {a : Nat} (hexec : p.tables.exec = Jvm.exec) (hb : c.code = cc) (hK : va_K D cl tys s) (hP : va_P D cl ws H) (q0 t0 : Nat) {cA : ClassId} {n : Nat} {f : Nat → Int32} (ha : ws[q0]? = some (a, .inl (cA, n, .inl f))) (ht : tys[t0]? = some (cA, .int)) {i : Int32} {x : Int32} (hout : ¬ vp_in i n) (hdg : decode cc pc = .ok (.iastore, 1))
    (k : ∀ tx : String, tx = (toString "Index " ++ toString i ++ toString " out of bounds for length " ++ toString n : String) → vx_Note p l e R s m args below meth c H locs cells slots Q (F0 m pc ls rest) "java/lang/ArrayIndexOutOfBoundsException" tx) : W p l e R s m args below meth c H locs cells slots Q (F0 m pc ls (.int x :: .int i :: .ref a :: rest)) := by
  intro T hT X
  obtain ⟨t, st, q⟩ := k _ rfl T hT X
  refine ⟨t, ?_, q⟩
  have h1 := X.iastoreOut hexec (by rw [hT]; exact hP q0 _ ha) ((hK.2 t0 _ ht).1 n (fun j => .int (f j))) (j := i) (by show (i < 0 ∨ (arrV _ _ _).slots.size ≤ _); rw [arrV_size]; exact Classical.byContradiction hout) (g := F0 m pc ls (.int x :: .int i :: .ref a :: rest)) rfl (rest := rest) rfl (by rw [hb]; exact hdg) t
  simp only [arrV_size] at h1
  exact h1 st
theorem vx_baldZ {D : va_G} {cl : List vw_C} {ws : va_W} {tys : List (ClassId × FieldType)} {a : Nat} (hexec : p.tables.exec = Jvm.exec) (hb : c.code = cc) (hK : va_K D cl tys s) (hP : va_P D cl ws H) (q0 t0 : Nat) {cA : ClassId} {n : Nat} {f : Nat → Int32} (ha : ws[q0]? = some (a, .inl (cA, n, .inl f))) (ht : tys[t0]? = some (cA, .byte)) {i : Int32} (hout : ¬ vp_in i n) (hdg : decode cc pc = .ok (.baload, 1))
    (k : ∀ tx : String, tx = (toString "Index " ++ toString i ++ toString " out of bounds for length " ++ toString n : String) → vx_Note p l e R s m args below meth c H locs cells slots Q (F0 m pc ls rest) "java/lang/ArrayIndexOutOfBoundsException" tx) : W p l e R s m args below meth c H locs cells slots Q (F0 m pc ls (.int i :: .ref a :: rest)) := by
  intro T hT X
  obtain ⟨t, st, q⟩ := k _ rfl T hT X
  refine ⟨t, ?_, q⟩
  have h1 := X.baloadOut hexec (by rw [hT]; exact hP q0 _ ha) ((hK.2 t0 _ ht).1 n (fun j => .int (f j))) (j := i) (by show (i < 0 ∨ (arrV _ _ _).slots.size ≤ _); rw [arrV_size]; exact Classical.byContradiction hout) (g := F0 m pc ls (.int i :: .ref a :: rest)) rfl (rest := rest) rfl (by rw [hb]; exact hdg) t
  simp only [arrV_size] at h1
  exact h1 st
theorem vx_bastZ {D : va_G} {cl : List vw_C} {ws : va_W} {tys : List (ClassId × FieldType)} {a : Nat} (hexec : p.tables.exec = Jvm.exec) (hb : c.code = cc) (hK : va_K D cl tys s) (hP : va_P D cl ws H) (q0 t0 : Nat) {cA : ClassId} {n : Nat} {f : Nat → Int32} (ha : ws[q0]? = some (a, .inl (cA, n, .inl f))) (ht : tys[t0]? = some (cA, .byte)) {i : Int32} {x : Int32} (hout : ¬ vp_in i n) (hdg : decode cc pc = .ok (.bastore, 1))
    (k : ∀ tx : String, tx = (toString "Index " ++ toString i ++ toString " out of bounds for length " ++ toString n : String) → vx_Note p l e R s m args below meth c H locs cells slots Q (F0 m pc ls rest) "java/lang/ArrayIndexOutOfBoundsException" tx) : W p l e R s m args below meth c H locs cells slots Q (F0 m pc ls (.int x :: .int i :: .ref a :: rest)) := by
  intro T hT X
  obtain ⟨t, st, q⟩ := k _ rfl T hT X
  refine ⟨t, ?_, q⟩
  have h1 := X.bastoreOut hexec (by rw [hT]; exact hP q0 _ ha) ((hK.2 t0 _ ht).1 n (fun j => .int (f j))) (j := i) (by show (i < 0 ∨ (arrV _ _ _).slots.size ≤ _); rw [arrV_size]; exact Classical.byContradiction hout) (g := F0 m pc ls (.int x :: .int i :: .ref a :: rest)) rfl (rest := rest) rfl (by rw [hb]; exact hdg) t
  simp only [arrV_size] at h1
  exact h1 st
theorem vx_zaldZ {D : va_G} {cl : List vw_C} {ws : va_W} {tys : List (ClassId × FieldType)} {a : Nat} (hexec : p.tables.exec = Jvm.exec) (hb : c.code = cc) (hK : va_K D cl tys s) (hP : va_P D cl ws H) (q0 t0 : Nat) {cA : ClassId} {n : Nat} {f : Nat → Int32} (ha : ws[q0]? = some (a, .inl (cA, n, .inl f))) (ht : tys[t0]? = some (cA, .boolean)) {i : Int32} (hout : ¬ vp_in i n) (hdg : decode cc pc = .ok (.baload, 1))
    (k : ∀ tx : String, tx = (toString "Index " ++ toString i ++ toString " out of bounds for length " ++ toString n : String) → vx_Note p l e R s m args below meth c H locs cells slots Q (F0 m pc ls rest) "java/lang/ArrayIndexOutOfBoundsException" tx) : W p l e R s m args below meth c H locs cells slots Q (F0 m pc ls (.int i :: .ref a :: rest)) := by
  intro T hT X
  obtain ⟨t, st, q⟩ := k _ rfl T hT X
  refine ⟨t, ?_, q⟩
  have h1 := X.baloadOut hexec (by rw [hT]; exact hP q0 _ ha) ((hK.2 t0 _ ht).1 n (fun j => .int (f j))) (j := i) (by show (i < 0 ∨ (arrV _ _ _).slots.size ≤ _); rw [arrV_size]; exact Classical.byContradiction hout) (g := F0 m pc ls (.int i :: .ref a :: rest)) rfl (rest := rest) rfl (by rw [hb]; exact hdg) t
  simp only [arrV_size] at h1
  exact h1 st
theorem vx_zastZ {D : va_G} {cl : List vw_C} {ws : va_W} {tys : List (ClassId × FieldType)} {a : Nat} (hexec : p.tables.exec = Jvm.exec) (hb : c.code = cc) (hK : va_K D cl tys s) (hP : va_P D cl ws H) (q0 t0 : Nat) {cA : ClassId} {n : Nat} {f : Nat → Int32} (ha : ws[q0]? = some (a, .inl (cA, n, .inl f))) (ht : tys[t0]? = some (cA, .boolean)) {i : Int32} {x : Int32} (hout : ¬ vp_in i n) (hdg : decode cc pc = .ok (.bastore, 1))
    (k : ∀ tx : String, tx = (toString "Index " ++ toString i ++ toString " out of bounds for length " ++ toString n : String) → vx_Note p l e R s m args below meth c H locs cells slots Q (F0 m pc ls rest) "java/lang/ArrayIndexOutOfBoundsException" tx) : W p l e R s m args below meth c H locs cells slots Q (F0 m pc ls (.int x :: .int i :: .ref a :: rest)) := by
  intro T hT X
  obtain ⟨t, st, q⟩ := k _ rfl T hT X
  refine ⟨t, ?_, q⟩
  have h1 := X.bastoreOut hexec (by rw [hT]; exact hP q0 _ ha) ((hK.2 t0 _ ht).1 n (fun j => .int (f j))) (j := i) (by show (i < 0 ∨ (arrV _ _ _).slots.size ≤ _); rw [arrV_size]; exact Classical.byContradiction hout) (g := F0 m pc ls (.int x :: .int i :: .ref a :: rest)) rfl (rest := rest) rfl (by rw [hb]; exact hdg) t
  simp only [arrV_size] at h1
  exact h1 st
theorem vx_caldZ {D : va_G} {cl : List vw_C} {ws : va_W} {tys : List (ClassId × FieldType)} {a : Nat} (hexec : p.tables.exec = Jvm.exec) (hb : c.code = cc) (hK : va_K D cl tys s) (hP : va_P D cl ws H) (q0 t0 : Nat) {cA : ClassId} {n : Nat} {f : Nat → Int32} (ha : ws[q0]? = some (a, .inl (cA, n, .inl f))) (ht : tys[t0]? = some (cA, .char)) {i : Int32} (hout : ¬ vp_in i n) (hdg : decode cc pc = .ok (.caload, 1))
    (k : ∀ tx : String, tx = (toString "Index " ++ toString i ++ toString " out of bounds for length " ++ toString n : String) → vx_Note p l e R s m args below meth c H locs cells slots Q (F0 m pc ls rest) "java/lang/ArrayIndexOutOfBoundsException" tx) : W p l e R s m args below meth c H locs cells slots Q (F0 m pc ls (.int i :: .ref a :: rest)) := by
  intro T hT X
  obtain ⟨t, st, q⟩ := k _ rfl T hT X
  refine ⟨t, ?_, q⟩
  have h1 := X.caloadOut hexec (by rw [hT]; exact hP q0 _ ha) ((hK.2 t0 _ ht).1 n (fun j => .int (f j))) (j := i) (by show (i < 0 ∨ (arrV _ _ _).slots.size ≤ _); rw [arrV_size]; exact Classical.byContradiction hout) (g := F0 m pc ls (.int i :: .ref a :: rest)) rfl (rest := rest) rfl (by rw [hb]; exact hdg) t
  simp only [arrV_size] at h1
  exact h1 st
theorem vx_castZ {D : va_G} {cl : List vw_C} {ws : va_W} {tys : List (ClassId × FieldType)} {a : Nat} (hexec : p.tables.exec = Jvm.exec) (hb : c.code = cc) (hK : va_K D cl tys s) (hP : va_P D cl ws H) (q0 t0 : Nat) {cA : ClassId} {n : Nat} {f : Nat → Int32} (ha : ws[q0]? = some (a, .inl (cA, n, .inl f))) (ht : tys[t0]? = some (cA, .char)) {i : Int32} {x : Int32} (hout : ¬ vp_in i n) (hdg : decode cc pc = .ok (.castore, 1))
    (k : ∀ tx : String, tx = (toString "Index " ++ toString i ++ toString " out of bounds for length " ++ toString n : String) → vx_Note p l e R s m args below meth c H locs cells slots Q (F0 m pc ls rest) "java/lang/ArrayIndexOutOfBoundsException" tx) : W p l e R s m args below meth c H locs cells slots Q (F0 m pc ls (.int x :: .int i :: .ref a :: rest)) := by
  intro T hT X
  obtain ⟨t, st, q⟩ := k _ rfl T hT X
  refine ⟨t, ?_, q⟩
  have h1 := X.castoreOut hexec (by rw [hT]; exact hP q0 _ ha) ((hK.2 t0 _ ht).1 n (fun j => .int (f j))) (j := i) (by show (i < 0 ∨ (arrV _ _ _).slots.size ≤ _); rw [arrV_size]; exact Classical.byContradiction hout) (g := F0 m pc ls (.int x :: .int i :: .ref a :: rest)) rfl (rest := rest) rfl (by rw [hb]; exact hdg) t
  simp only [arrV_size] at h1
  exact h1 st
theorem vx_saldZ {D : va_G} {cl : List vw_C} {ws : va_W} {tys : List (ClassId × FieldType)} {a : Nat} (hexec : p.tables.exec = Jvm.exec) (hb : c.code = cc) (hK : va_K D cl tys s) (hP : va_P D cl ws H) (q0 t0 : Nat) {cA : ClassId} {n : Nat} {f : Nat → Int32} (ha : ws[q0]? = some (a, .inl (cA, n, .inl f))) (ht : tys[t0]? = some (cA, .short)) {i : Int32} (hout : ¬ vp_in i n) (hdg : decode cc pc = .ok (.saload, 1))
    (k : ∀ tx : String, tx = (toString "Index " ++ toString i ++ toString " out of bounds for length " ++ toString n : String) → vx_Note p l e R s m args below meth c H locs cells slots Q (F0 m pc ls rest) "java/lang/ArrayIndexOutOfBoundsException" tx) : W p l e R s m args below meth c H locs cells slots Q (F0 m pc ls (.int i :: .ref a :: rest)) := by
  intro T hT X
  obtain ⟨t, st, q⟩ := k _ rfl T hT X
  refine ⟨t, ?_, q⟩
  have h1 := X.saloadOut hexec (by rw [hT]; exact hP q0 _ ha) ((hK.2 t0 _ ht).1 n (fun j => .int (f j))) (j := i) (by show (i < 0 ∨ (arrV _ _ _).slots.size ≤ _); rw [arrV_size]; exact Classical.byContradiction hout) (g := F0 m pc ls (.int i :: .ref a :: rest)) rfl (rest := rest) rfl (by rw [hb]; exact hdg) t
  simp only [arrV_size] at h1
  exact h1 st
theorem vx_sastZ {D : va_G} {cl : List vw_C} {ws : va_W} {tys : List (ClassId × FieldType)} {a : Nat} (hexec : p.tables.exec = Jvm.exec) (hb : c.code = cc) (hK : va_K D cl tys s) (hP : va_P D cl ws H) (q0 t0 : Nat) {cA : ClassId} {n : Nat} {f : Nat → Int32} (ha : ws[q0]? = some (a, .inl (cA, n, .inl f))) (ht : tys[t0]? = some (cA, .short)) {i : Int32} {x : Int32} (hout : ¬ vp_in i n) (hdg : decode cc pc = .ok (.sastore, 1))
    (k : ∀ tx : String, tx = (toString "Index " ++ toString i ++ toString " out of bounds for length " ++ toString n : String) → vx_Note p l e R s m args below meth c H locs cells slots Q (F0 m pc ls rest) "java/lang/ArrayIndexOutOfBoundsException" tx) : W p l e R s m args below meth c H locs cells slots Q (F0 m pc ls (.int x :: .int i :: .ref a :: rest)) := by
  intro T hT X
  obtain ⟨t, st, q⟩ := k _ rfl T hT X
  refine ⟨t, ?_, q⟩
  have h1 := X.sastoreOut hexec (by rw [hT]; exact hP q0 _ ha) ((hK.2 t0 _ ht).1 n (fun j => .int (f j))) (j := i) (by show (i < 0 ∨ (arrV _ _ _).slots.size ≤ _); rw [arrV_size]; exact Classical.byContradiction hout) (g := F0 m pc ls (.int x :: .int i :: .ref a :: rest)) rfl (rest := rest) rfl (by rw [hb]; exact hdg) t
  simp only [arrV_size] at h1
  exact h1 st
theorem vx_laldZ {D : va_G} {cl : List vw_C} {ws : va_W} {tys : List (ClassId × FieldType)} {a : Nat} (hexec : p.tables.exec = Jvm.exec) (hb : c.code = cc) (hK : va_K D cl tys s) (hP : va_P D cl ws H) (q0 t0 : Nat) {cA : ClassId} {n : Nat} {f : Nat → Int64} (ha : ws[q0]? = some (a, .inl (cA, n, .inr (.inl f)))) (ht : tys[t0]? = some (cA, .long)) {i : Int32} (hout : ¬ vp_in i n) (hdg : decode cc pc = .ok (.laload, 1))
    (k : ∀ tx : String, tx = (toString "Index " ++ toString i ++ toString " out of bounds for length " ++ toString n : String) → vx_Note p l e R s m args below meth c H locs cells slots Q (F0 m pc ls rest) "java/lang/ArrayIndexOutOfBoundsException" tx) : W p l e R s m args below meth c H locs cells slots Q (F0 m pc ls (.int i :: .ref a :: rest)) := by
  intro T hT X
  obtain ⟨t, st, q⟩ := k _ rfl T hT X
  refine ⟨t, ?_, q⟩
  have h1 := X.laloadOut hexec (by rw [hT]; exact hP q0 _ ha) ((hK.2 t0 _ ht).1 n (fun j => .long (f j))) (j := i) (by show (i < 0 ∨ (arrV _ _ _).slots.size ≤ _); rw [arrV_size]; exact Classical.byContradiction hout) (g := F0 m pc ls (.int i :: .ref a :: rest)) rfl (rest := rest) rfl (by rw [hb]; exact hdg) t
  simp only [arrV_size] at h1
  exact h1 st
theorem vx_lastZ {D : va_G} {cl : List vw_C} {ws : va_W} {tys : List (ClassId × FieldType)} {a : Nat} (hexec : p.tables.exec = Jvm.exec) (hb : c.code = cc) (hK : va_K D cl tys s) (hP : va_P D cl ws H) (q0 t0 : Nat) {cA : ClassId} {n : Nat} {f : Nat → Int64} (ha : ws[q0]? = some (a, .inl (cA, n, .inr (.inl f)))) (ht : tys[t0]? = some (cA, .long)) {i : Int32} {x : Int64} (hout : ¬ vp_in i n) (hdg : decode cc pc = .ok (.lastore, 1))
    (k : ∀ tx : String, tx = (toString "Index " ++ toString i ++ toString " out of bounds for length " ++ toString n : String) → vx_Note p l e R s m args below meth c H locs cells slots Q (F0 m pc ls rest) "java/lang/ArrayIndexOutOfBoundsException" tx) : W p l e R s m args below meth c H locs cells slots Q (F0 m pc ls (.long x :: .int i :: .ref a :: rest)) := by
  intro T hT X
  obtain ⟨t, st, q⟩ := k _ rfl T hT X
  refine ⟨t, ?_, q⟩
  have h1 := X.lastoreOut hexec (by rw [hT]; exact hP q0 _ ha) ((hK.2 t0 _ ht).1 n (fun j => .long (f j))) (j := i) (by show (i < 0 ∨ (arrV _ _ _).slots.size ≤ _); rw [arrV_size]; exact Classical.byContradiction hout) (g := F0 m pc ls (.long x :: .int i :: .ref a :: rest)) rfl (rest := rest) rfl (by rw [hb]; exact hdg) t
  simp only [arrV_size] at h1
  exact h1 st
theorem vx_faldZ {D : va_G} {cl : List vw_C} {ws : va_W} {tys : List (ClassId × FieldType)} {a : Nat} (hexec : p.tables.exec = Jvm.exec) (hb : c.code = cc) (hK : va_K D cl tys s) (hP : va_P D cl ws H) (q0 t0 : Nat) {cA : ClassId} {n : Nat} {f : Nat → UInt32} (ha : ws[q0]? = some (a, .inl (cA, n, .inr (.inr (.inl f))))) (ht : tys[t0]? = some (cA, .float)) {i : Int32} (hout : ¬ vp_in i n) (hdg : decode cc pc = .ok (.faload, 1))
    (k : ∀ tx : String, tx = (toString "Index " ++ toString i ++ toString " out of bounds for length " ++ toString n : String) → vx_Note p l e R s m args below meth c H locs cells slots Q (F0 m pc ls rest) "java/lang/ArrayIndexOutOfBoundsException" tx) : W p l e R s m args below meth c H locs cells slots Q (F0 m pc ls (.int i :: .ref a :: rest)) := by
  intro T hT X
  obtain ⟨t, st, q⟩ := k _ rfl T hT X
  refine ⟨t, ?_, q⟩
  have h1 := X.faloadOut hexec (by rw [hT]; exact hP q0 _ ha) ((hK.2 t0 _ ht).1 n (fun j => .float (f j))) (j := i) (by show (i < 0 ∨ (arrV _ _ _).slots.size ≤ _); rw [arrV_size]; exact Classical.byContradiction hout) (g := F0 m pc ls (.int i :: .ref a :: rest)) rfl (rest := rest) rfl (by rw [hb]; exact hdg) t
  simp only [arrV_size] at h1
  exact h1 st
theorem vx_fastZ {D : va_G} {cl : List vw_C} {ws : va_W} {tys : List (ClassId × FieldType)} {a : Nat} (hexec : p.tables.exec = Jvm.exec) (hb : c.code = cc) (hK : va_K D cl tys s) (hP : va_P D cl ws H) (q0 t0 : Nat) {cA : ClassId} {n : Nat} {f : Nat → UInt32} (ha : ws[q0]? = some (a, .inl (cA, n, .inr (.inr (.inl f))))) (ht : tys[t0]? = some (cA, .float)) {i : Int32} {x : UInt32} (hout : ¬ vp_in i n) (hdg : decode cc pc = .ok (.fastore, 1))
    (k : ∀ tx : String, tx = (toString "Index " ++ toString i ++ toString " out of bounds for length " ++ toString n : String) → vx_Note p l e R s m args below meth c H locs cells slots Q (F0 m pc ls rest) "java/lang/ArrayIndexOutOfBoundsException" tx) : W p l e R s m args below meth c H locs cells slots Q (F0 m pc ls (.float x :: .int i :: .ref a :: rest)) := by
  intro T hT X
  obtain ⟨t, st, q⟩ := k _ rfl T hT X
  refine ⟨t, ?_, q⟩
  have h1 := X.fastoreOut hexec (by rw [hT]; exact hP q0 _ ha) ((hK.2 t0 _ ht).1 n (fun j => .float (f j))) (j := i) (by show (i < 0 ∨ (arrV _ _ _).slots.size ≤ _); rw [arrV_size]; exact Classical.byContradiction hout) (g := F0 m pc ls (.float x :: .int i :: .ref a :: rest)) rfl (rest := rest) rfl (by rw [hb]; exact hdg) t
  simp only [arrV_size] at h1
  exact h1 st
theorem vx_daldZ {D : va_G} {cl : List vw_C} {ws : va_W} {tys : List (ClassId × FieldType)} {a : Nat} (hexec : p.tables.exec = Jvm.exec) (hb : c.code = cc) (hK : va_K D cl tys s) (hP : va_P D cl ws H) (q0 t0 : Nat) {cA : ClassId} {n : Nat} {f : Nat → UInt64} (ha : ws[q0]? = some (a, .inl (cA, n, .inr (.inr (.inr (.inl f)))))) (ht : tys[t0]? = some (cA, .double)) {i : Int32} (hout : ¬ vp_in i n) (hdg : decode cc pc = .ok (.daload, 1))
    (k : ∀ tx : String, tx = (toString "Index " ++ toString i ++ toString " out of bounds for length " ++ toString n : String) → vx_Note p l e R s m args below meth c H locs cells slots Q (F0 m pc ls rest) "java/lang/ArrayIndexOutOfBoundsException" tx) : W p l e R s m args below meth c H locs cells slots Q (F0 m pc ls (.int i :: .ref a :: rest)) := by
  intro T hT X
  obtain ⟨t, st, q⟩ := k _ rfl T hT X
  refine ⟨t, ?_, q⟩
  have h1 := X.daloadOut hexec (by rw [hT]; exact hP q0 _ ha) ((hK.2 t0 _ ht).1 n (fun j => .double (f j))) (j := i) (by show (i < 0 ∨ (arrV _ _ _).slots.size ≤ _); rw [arrV_size]; exact Classical.byContradiction hout) (g := F0 m pc ls (.int i :: .ref a :: rest)) rfl (rest := rest) rfl (by rw [hb]; exact hdg) t
  simp only [arrV_size] at h1
  exact h1 st
theorem vx_dastZ {D : va_G} {cl : List vw_C} {ws : va_W} {tys : List (ClassId × FieldType)} {a : Nat} (hexec : p.tables.exec = Jvm.exec) (hb : c.code = cc) (hK : va_K D cl tys s) (hP : va_P D cl ws H) (q0 t0 : Nat) {cA : ClassId} {n : Nat} {f : Nat → UInt64} (ha : ws[q0]? = some (a, .inl (cA, n, .inr (.inr (.inr (.inl f)))))) (ht : tys[t0]? = some (cA, .double)) {i : Int32} {x : UInt64} (hout : ¬ vp_in i n) (hdg : decode cc pc = .ok (.dastore, 1))
    (k : ∀ tx : String, tx = (toString "Index " ++ toString i ++ toString " out of bounds for length " ++ toString n : String) → vx_Note p l e R s m args below meth c H locs cells slots Q (F0 m pc ls rest) "java/lang/ArrayIndexOutOfBoundsException" tx) : W p l e R s m args below meth c H locs cells slots Q (F0 m pc ls (.double x :: .int i :: .ref a :: rest)) := by
  intro T hT X
  obtain ⟨t, st, q⟩ := k _ rfl T hT X
  refine ⟨t, ?_, q⟩
  have h1 := X.dastoreOut hexec (by rw [hT]; exact hP q0 _ ha) ((hK.2 t0 _ ht).1 n (fun j => .double (f j))) (j := i) (by show (i < 0 ∨ (arrV _ _ _).slots.size ≤ _); rw [arrV_size]; exact Classical.byContradiction hout) (g := F0 m pc ls (.double x :: .int i :: .ref a :: rest)) rfl (rest := rest) rfl (by rw [hb]; exact hdg) t
  simp only [arrV_size] at h1
  exact h1 st
theorem vx_arraylengthN (hexec : p.tables.exec = Jvm.exec) (hb : c.code = cc) (hdg : decode cc pc = .ok (.arraylength, 1)) (k : vx_NoteN p l e R s m args below meth c H locs cells slots Q (F0 m pc ls rest)) : W p l e R s m args below meth c H locs cells slots Q (F0 m pc ls (.null :: rest)) := by
  intro T hT X
  obtain ⟨t, st, q⟩ := k T hT X
  exact ⟨t, X.arraylengthNull hexec (g := F0 m pc ls (.null :: rest)) rfl (rest := rest) rfl (by rw [hb]; exact hdg) t st, q⟩
theorem vx_ialoadN (hexec : p.tables.exec = Jvm.exec) (hb : c.code = cc) {i : Int32} (hdg : decode cc pc = .ok (.iaload, 1)) (k : vx_NoteN p l e R s m args below meth c H locs cells slots Q (F0 m pc ls rest)) : W p l e R s m args below meth c H locs cells slots Q (F0 m pc ls (.int i :: .null :: rest)) := by
  intro T hT X
  obtain ⟨t, st, q⟩ := k T hT X
  exact ⟨t, X.ialoadNull hexec (g := F0 m pc ls (.int i :: .null :: rest)) rfl (rest := rest) rfl (by rw [hb]; exact hdg) t st, q⟩
theorem vx_laloadN (hexec : p.tables.exec = Jvm.exec) (hb : c.code = cc) {i : Int32} (hdg : decode cc pc = .ok (.laload, 1)) (k : vx_NoteN p l e R s m args below meth c H locs cells slots Q (F0 m pc ls rest)) : W p l e R s m args below meth c H locs cells slots Q (F0 m pc ls (.int i :: .null :: rest)) := by
  intro T hT X
  obtain ⟨t, st, q⟩ := k T hT X
  exact ⟨t, X.laloadNull hexec (g := F0 m pc ls (.int i :: .null :: rest)) rfl (rest := rest) rfl (by rw [hb]; exact hdg) t st, q⟩
theorem vx_faloadN (hexec : p.tables.exec = Jvm.exec) (hb : c.code = cc) {i : Int32} (hdg : decode cc pc = .ok (.faload, 1)) (k : vx_NoteN p l e R s m args below meth c H locs cells slots Q (F0 m pc ls rest)) : W p l e R s m args below meth c H locs cells slots Q (F0 m pc ls (.int i :: .null :: rest)) := by
  intro T hT X
  obtain ⟨t, st, q⟩ := k T hT X
  exact ⟨t, X.faloadNull hexec (g := F0 m pc ls (.int i :: .null :: rest)) rfl (rest := rest) rfl (by rw [hb]; exact hdg) t st, q⟩
theorem vx_daloadN (hexec : p.tables.exec = Jvm.exec) (hb : c.code = cc) {i : Int32} (hdg : decode cc pc = .ok (.daload, 1)) (k : vx_NoteN p l e R s m args below meth c H locs cells slots Q (F0 m pc ls rest)) : W p l e R s m args below meth c H locs cells slots Q (F0 m pc ls (.int i :: .null :: rest)) := by
  intro T hT X
  obtain ⟨t, st, q⟩ := k T hT X
  exact ⟨t, X.daloadNull hexec (g := F0 m pc ls (.int i :: .null :: rest)) rfl (rest := rest) rfl (by rw [hb]; exact hdg) t st, q⟩
theorem vx_aaloadN (hexec : p.tables.exec = Jvm.exec) (hb : c.code = cc) {i : Int32} (hdg : decode cc pc = .ok (.aaload, 1)) (k : vx_NoteN p l e R s m args below meth c H locs cells slots Q (F0 m pc ls rest)) : W p l e R s m args below meth c H locs cells slots Q (F0 m pc ls (.int i :: .null :: rest)) := by
  intro T hT X
  obtain ⟨t, st, q⟩ := k T hT X
  exact ⟨t, X.aaloadNull hexec (g := F0 m pc ls (.int i :: .null :: rest)) rfl (rest := rest) rfl (by rw [hb]; exact hdg) t st, q⟩
theorem vx_baloadN (hexec : p.tables.exec = Jvm.exec) (hb : c.code = cc) {i : Int32} (hdg : decode cc pc = .ok (.baload, 1)) (k : vx_NoteN p l e R s m args below meth c H locs cells slots Q (F0 m pc ls rest)) : W p l e R s m args below meth c H locs cells slots Q (F0 m pc ls (.int i :: .null :: rest)) := by
  intro T hT X
  obtain ⟨t, st, q⟩ := k T hT X
  exact ⟨t, X.baloadNull hexec (g := F0 m pc ls (.int i :: .null :: rest)) rfl (rest := rest) rfl (by rw [hb]; exact hdg) t st, q⟩
theorem vx_caloadN (hexec : p.tables.exec = Jvm.exec) (hb : c.code = cc) {i : Int32} (hdg : decode cc pc = .ok (.caload, 1)) (k : vx_NoteN p l e R s m args below meth c H locs cells slots Q (F0 m pc ls rest)) : W p l e R s m args below meth c H locs cells slots Q (F0 m pc ls (.int i :: .null :: rest)) := by
  intro T hT X
  obtain ⟨t, st, q⟩ := k T hT X
  exact ⟨t, X.caloadNull hexec (g := F0 m pc ls (.int i :: .null :: rest)) rfl (rest := rest) rfl (by rw [hb]; exact hdg) t st, q⟩
theorem vx_saloadN (hexec : p.tables.exec = Jvm.exec) (hb : c.code = cc) {i : Int32} (hdg : decode cc pc = .ok (.saload, 1)) (k : vx_NoteN p l e R s m args below meth c H locs cells slots Q (F0 m pc ls rest)) : W p l e R s m args below meth c H locs cells slots Q (F0 m pc ls (.int i :: .null :: rest)) := by
  intro T hT X
  obtain ⟨t, st, q⟩ := k T hT X
  exact ⟨t, X.saloadNull hexec (g := F0 m pc ls (.int i :: .null :: rest)) rfl (rest := rest) rfl (by rw [hb]; exact hdg) t st, q⟩
theorem vx_iastoreN (hexec : p.tables.exec = Jvm.exec) (hb : c.code = cc) {x : Int32} {i : Int32} (hdg : decode cc pc = .ok (.iastore, 1)) (k : vx_NoteN p l e R s m args below meth c H locs cells slots Q (F0 m pc ls rest)) : W p l e R s m args below meth c H locs cells slots Q (F0 m pc ls (.int x :: .int i :: .null :: rest)) := by
  intro T hT X
  obtain ⟨t, st, q⟩ := k T hT X
  exact ⟨t, X.iastoreNull hexec (g := F0 m pc ls (.int x :: .int i :: .null :: rest)) rfl (rest := rest) rfl (by rw [hb]; exact hdg) t st, q⟩
theorem vx_lastoreN (hexec : p.tables.exec = Jvm.exec) (hb : c.code = cc) {x : Int64} {i : Int32} (hdg : decode cc pc = .ok (.lastore, 1)) (k : vx_NoteN p l e R s m args below meth c H locs cells slots Q (F0 m pc ls rest)) : W p l e R s m args below meth c H locs cells slots Q (F0 m pc ls (.long x :: .int i :: .null :: rest)) := by
  intro T hT X
  obtain ⟨t, st, q⟩ := k T hT X
  exact ⟨t, X.lastoreNull hexec (g := F0 m pc ls (.long x :: .int i :: .null :: rest)) rfl (rest := rest) rfl (by rw [hb]; exact hdg) t st, q⟩
theorem vx_fastoreN (hexec : p.tables.exec = Jvm.exec) (hb : c.code = cc) {x : UInt32} {i : Int32} (hdg : decode cc pc = .ok (.fastore, 1)) (k : vx_NoteN p l e R s m args below meth c H locs cells slots Q (F0 m pc ls rest)) : W p l e R s m args below meth c H locs cells slots Q (F0 m pc ls (.float x :: .int i :: .null :: rest)) := by
  intro T hT X
  obtain ⟨t, st, q⟩ := k T hT X
  exact ⟨t, X.fastoreNull hexec (g := F0 m pc ls (.float x :: .int i :: .null :: rest)) rfl (rest := rest) rfl (by rw [hb]; exact hdg) t st, q⟩
theorem vx_dastoreN (hexec : p.tables.exec = Jvm.exec) (hb : c.code = cc) {x : UInt64} {i : Int32} (hdg : decode cc pc = .ok (.dastore, 1)) (k : vx_NoteN p l e R s m args below meth c H locs cells slots Q (F0 m pc ls rest)) : W p l e R s m args below meth c H locs cells slots Q (F0 m pc ls (.double x :: .int i :: .null :: rest)) := by
  intro T hT X
  obtain ⟨t, st, q⟩ := k T hT X
  exact ⟨t, X.dastoreNull hexec (g := F0 m pc ls (.double x :: .int i :: .null :: rest)) rfl (rest := rest) rfl (by rw [hb]; exact hdg) t st, q⟩
theorem vx_bastoreN (hexec : p.tables.exec = Jvm.exec) (hb : c.code = cc) {x : Int32} {i : Int32} (hdg : decode cc pc = .ok (.bastore, 1)) (k : vx_NoteN p l e R s m args below meth c H locs cells slots Q (F0 m pc ls rest)) : W p l e R s m args below meth c H locs cells slots Q (F0 m pc ls (.int x :: .int i :: .null :: rest)) := by
  intro T hT X
  obtain ⟨t, st, q⟩ := k T hT X
  exact ⟨t, X.bastoreNull hexec (g := F0 m pc ls (.int x :: .int i :: .null :: rest)) rfl (rest := rest) rfl (by rw [hb]; exact hdg) t st, q⟩
theorem vx_castoreN (hexec : p.tables.exec = Jvm.exec) (hb : c.code = cc) {x : Int32} {i : Int32} (hdg : decode cc pc = .ok (.castore, 1)) (k : vx_NoteN p l e R s m args below meth c H locs cells slots Q (F0 m pc ls rest)) : W p l e R s m args below meth c H locs cells slots Q (F0 m pc ls (.int x :: .int i :: .null :: rest)) := by
  intro T hT X
  obtain ⟨t, st, q⟩ := k T hT X
  exact ⟨t, X.castoreNull hexec (g := F0 m pc ls (.int x :: .int i :: .null :: rest)) rfl (rest := rest) rfl (by rw [hb]; exact hdg) t st, q⟩
theorem vx_sastoreN (hexec : p.tables.exec = Jvm.exec) (hb : c.code = cc) {x : Int32} {i : Int32} (hdg : decode cc pc = .ok (.sastore, 1)) (k : vx_NoteN p l e R s m args below meth c H locs cells slots Q (F0 m pc ls rest)) : W p l e R s m args below meth c H locs cells slots Q (F0 m pc ls (.int x :: .int i :: .null :: rest)) := by
  intro T hT X
  obtain ⟨t, st, q⟩ := k T hT X
  exact ⟨t, X.sastoreNull hexec (g := F0 m pc ls (.int x :: .int i :: .null :: rest)) rfl (rest := rest) rfl (by rw [hb]; exact hdg) t st, q⟩
theorem vx_invokeN {own C : String} {index maxL : Nat} {y : MethodName} {bytes : ByteArray} {ret : Option FieldType} (hexec : p.tables.exec = Jvm.exec) (hb : c.code = cc) (hown : s.vm.findClass own = some m.cls) (hlink : (Cond.methodLink own index y).before args s = true) (hinst : (Cond.instanceMethod y).before args s = true) (hcode : (Cond.code y bytes maxL ret).before args s = true) (hsel : (Cond.selects C y y).before args s = true)
    (hx : y.cls ≠ "java/lang/invoke/MethodHandle" ∧ y.cls ≠ "java/lang/invoke/VarHandle") {As : List Value} (hlen : (parseMethodDescriptor y.desc).map (fun d => d.parameters.length) = some As.length) (hdg : decode cc pc = .ok (.invokevirtual index, 3))
    (k : vx_NoteN p l e R s m args below meth c H locs cells slots Q (F0 m pc ls rest)) {st0 : List Value} (hst : st0 = As.reverse ++ .null :: rest) : W p l e R s m args below meth c H locs cells slots Q (F0 m pc ls st0) := by
  intro T hT X
  obtain ⟨r0, r, hn, hrm, hstR, hsigR⟩ := va_Decl.of hinst hcode
  obtain ⟨c2, r2, m2, q1, q2, q3, q4, kP, hkP, hkPi⟩ := Cond.selects_spec hsel
  cases hn.symm.trans q3
  have hl9 : As.length = r.sig.parameters.length := by
    rw [hsigR] at hlen
    exact (Option.some.inj hlen).symm
  obtain ⟨vm', X1, st1⟩ := X.invokevirtualNull hexec hown hlink hn hrm hstR hkP hkPi hx (g := F0 m pc ls st0) rfl (argsL := As) (rest := rest) hl9 hst (by rw [hb]; exact hdg)
  obtain ⟨t, st, q⟩ := k (T.setVm vm') hT X1
  exact ⟨t, st1 t st, q⟩
theorem vx_newarrayZ {atype : ArrayType} (hexec : p.tables.exec = Jvm.exec) (hb : c.code = cc) {n : Int32} (h0 : n < 0) (hdg : decode cc pc = .ok (.newarray atype, 2)) (k : ∀ tx : String, tx = toString n → vx_Note p l e R s m args below meth c H locs cells slots Q (F0 m pc ls rest) "java/lang/NegativeArraySizeException" tx) : W p l e R s m args below meth c H locs cells slots Q (F0 m pc ls (.int n :: rest)) := by
  intro T hT X
  obtain ⟨t, st, q⟩ := k _ rfl T hT X
  exact ⟨t, X.newarrayNegative hexec (g := F0 m pc ls (.int n :: rest)) rfl h0 (rest := rest) rfl (by rw [hb]; exact hdg) t st, q⟩
end
end VXM
/-! ===== END ===== -/
/-! ===== BEGIN an exception as an object: made, kept, thrown later (no traces kept) ===== -/
section VXK
variable {p : Program} {l : Launch} {e : Env} {R : Room} {s : State} {m₀ : MethodId} {args : Array Value} {below : List Frame} {meth : Method} {c : Code} {W : State} {locs : List Loc} {cells slots : Nat}
set_option maxHeartbeats 1000000 in
theorem vx_ctorMadeS (X : Stand p l e R s m₀ args below meth c W locs cells slots) (hexec : p.tables.exec = Jvm.exec) (htr : e.platform.stackTraces = false) {own cls : String} {names : List String} {ic : Nat}
    (hown : s.vm.findClass own = some m₀.cls) (hcls : Bundle.fit cls = true) (hnames : ∀ n ∈ names, Bundle.fit n = true)
    (h : ∀ a ∈ Bundle.ownAtoms own ic cls names, a.before args s = true)
    (hlocs : ∀ x ∈ locs, ∀ cell, s.heap[x.base]? = some cell → cell.vm.isStatics = false)
    {a : Addr} {cX : ClassId} {kX : Class} (hfoundX : s.vm.findClass cls = some cX) (hkX : s.vm.classes[cX]? = some kX) (hcell : W.heap[a]? = some (freshCell cX kX)) (hnew : s.heap.size ≤ a)
    {msg : Value} (hmsg : msg.isRef = true)
    {g : JFrame} (hg : g.method = m₀) (hsize : g.locals.size = c.maxLocals) {rest : List Value} (hstack : g.stack = msg :: .ref a :: .ref a :: rest)
    (hd6 : decode c.code g.pc = .ok (.invokespecial ic, 3))
    (hRframes : names.length + 3 < R.frames) (hRlocals : 2 * g.monitorRoom + ((Value.ref a :: rest).map fun v => v.category).sum + (13 * (names.length + 1) + 42) ≤ R.locals) :
    ∃ (V : State) (ce : Cell) (L : List Loc), Stand p l e R s m₀ args below meth c (V.setCell a ce) (locs ++ L) cells slots ∧ (∀ y ∈ L, y.base = a) ∧ a < V.heap.size ∧ ce.cls = cX ∧ ce.vm = .none ∧
      ∀ target, Steps p.tables e below ((V.setCell a ce).setTop { g with stack := .ref a :: rest, pc := g.pc + 3 }) target → Steps p.tables e below (W.setTop g) target := by
  have howns : e.platform.frameOwnsMonitors = true := by rw [X.admits.platform]
  have hfin : e.platform.finalization = false := by rw [X.admits.platform]
  have hpl : e.platform.magicAccessors = ({} : Platform).magicAccessors := by rw [X.admits.platform]
  have a' : ∀ x, x ∈ Bundle.ownAtoms own ic cls names → x.holds args s none s [] = true := fun x hx => h x hx
  obtain ⟨T, Z0, L, -, Y⟩ := ThrowableC.of_atoms (args := args) howns hfin hpl (fun x hx => h x (by simp [Bundle.ownAtoms, hx]))
  obtain ⟨Z, M, LZ, LM, hnZ⟩ := Init0T.ofS_atoms (args := args) hpl L Y (fun x hx => h x (by simp [Bundle.ownAtoms, hx]))
  obtain ⟨P1, Ps, hlen, L1, hL, hP1m, hlink1, hlink⟩ := Bundle.chainS (args := args) hpl hnZ names cls hcls hnames (fun x hx => h x (by simp [Bundle.ownAtoms, hx]))
  have hfound : s.vm.findClass cls = some P1.m.cls := findClass_of_methodNamed hP1m
  cases Option.some.inj (hfoundX.symm.trans hfound)
  obtain ⟨c1, kX', hc1, hk, hord, -, -, hn6⟩ := Cond.instantiable_spec (a' (.instantiable cls 6) (by simp [Bundle.ownAtoms]))
  cases Option.some.inj (hc1.symm.trans hfound)
  cases Option.some.inj (hkX.symm.trans hk)
  have hsel0 : selectMethod e.platform s.vm P1.m.cls T.fill0 = .method T.fill0 := by
    obtain ⟨c2, r2, m2, q1, q2, q3, q4, -⟩ := Cond.selects_spec (a' (.selects cls Bundle.tFill0 Bundle.tFill0) (by simp [Bundle.ownAtoms]))
    cases Option.some.inj (q1.symm.trans hfound)
    cases Option.some.inj (q2.symm.trans (State.methodFound?_of_named Y.fill0 (by decide)))
    cases Option.some.inj (q3.symm.trans Y.fill0)
    rw [Launch.admits_selectMethod X.admits]; exact q4
  have hselF : selectMethod e.platform s.vm P1.m.cls T.fill = .method T.fill := by
    obtain ⟨c2, r2, m2, q1, q2, q3, q4, -⟩ := Cond.selects_spec (a' (.selects cls Bundle.tFill Bundle.tFill) (by simp [Bundle.ownAtoms]))
    cases Option.some.inj (q1.symm.trans hfound)
    cases Option.some.inj (q2.symm.trans (State.methodFound?_of_named Y.fill (by decide)))
    cases Option.some.inj (q3.symm.trans Y.fill)
    rw [Launch.admits_selectMethod X.admits]; exact q4
  obtain ⟨cellS0, hcS0, hiss⟩ := Y.statics
  obtain ⟨u0, hu0⟩ := Cond.staticRefV Y.unassigned L.unassignedStatic L.statics hcS0 hiss (a' (.isRef (.static Bundle.tN "UNASSIGNED_STACK" Bundle.steD)) (by simp [Bundle.ownAtoms]))
  obtain ⟨sen, hsen⟩ := Cond.staticRefV Y.sentinel L.sentinelStatic L.statics hcS0 hiss (a' (.isRef (.static Bundle.tN "SUPPRESSED_SENTINEL" Bundle.listD)) (by simp [Bundle.ownAtoms]))
  obtain ⟨ci198, i198, fB, hk198, hg198, ha198, hsB, -, hnB, htB, hffB⟩ := Cond.ownField (t := .object "java/lang/Object") Y.found L.cls (by decide +kernel) (a' (.fieldLink Bundle.tN 198 Bundle.tN "backtrace" "Ljava/lang/Object;") (by simp [Bundle.ownAtoms])) (a' (.lays Bundle.tN Bundle.tN "backtrace" "Ljava/lang/Object;") (by simp [Bundle.ownAtoms])) e.platform hpl
  obtain ⟨cellS, hcS', heS, -, hkeep⟩ := X.same.2.2.2.2.2 T.aS cellS0 hcS0
  have hcellS : W.heap[T.aS]? = some cellS := hcS'
  have hout' : ∀ i, (⟨T.aS, i⟩ : Loc) ∉ locs := fun i hmem => by
    have := hlocs _ hmem cellS0 hcS0
    rw [hiss] at this; cases this
  have hknownS : cellS.vm ≠ .unknown := by
    rw [heS]; intro hu
    rw [show cellS0.vm = .unknown from hu] at hiss
    cases hiss
  have hneS : T.aS ≠ a := Nat.ne_of_lt (Nat.lt_of_lt_of_le (Array.getElem?_eq_some_iff.mp hcS0).1 hnew)
  obtain ⟨iM, hffM⟩ := Y.msg
  obtain ⟨tyC, dC, hdC, hdnC⟩ := Cond.laysAt hfound hk Y.cause (a' (.lays cls Bundle.tN "cause" "Ljava/lang/Throwable;") (by simp [Bundle.ownAtoms]))
  obtain ⟨tyS, dS, hdS, hdnS⟩ := Cond.laysAt hfound hk Y.stack (a' (.lays cls Bundle.tN "stackTrace" Bundle.steD) (by simp [Bundle.ownAtoms]))
  obtain ⟨tyP, dP, hdP, hdnP⟩ := Cond.laysAt hfound hk Y.supp (a' (.lays cls Bundle.tN "suppressedExceptions" Bundle.listD) (by simp [Bundle.ownAtoms]))
  obtain ⟨tyM, dM, hdM, hdnM⟩ := Cond.laysAt hfound hk hffM (a' (.lays cls Bundle.tN "detailMessage" "Ljava/lang/String;") (by simp [Bundle.ownAtoms]))
  obtain ⟨tyB, dB, hdB, hdnB⟩ := Cond.laysAt hfound hk hffB (a' (.lays cls Bundle.tN "backtrace" "Ljava/lang/Object;") (by simp [Bundle.ownAtoms]))
  have bC := Cond.laysApart hdB hdC hdnB hdnC (by rw [hnB, Y.causeName]; decide)
  have bS := Cond.laysApart hdB hdS hdnB hdnS (by rw [hnB, Y.stackName]; decide)
  have bP := Cond.laysApart hdB hdP hdnB hdnP (by rw [hnB, Y.suppName]; decide)
  have hskip : SkipFacts T e.platform s (fun u => u) u0 ((preparedCellV T.toThrowableT (freshCell P1.m.cls kX) a u0 sen).withEntry W.cur) :=
    ⟨{ ci198 := ci198, i198 := i198, fBack := fB }, ⟨hk198, hg198, ha198, hsB⟩, by
      have := fresh_default (c := P1.m.cls) tyB
      rw [htB] at this
      simpa [preparedCellV, Cell.setSlot, Cell.withEntry, Array.getElem?_setIfInBounds, bC, bS, bP, bC.symm, bS.symm, bP.symm, defaultValue] using this, fun _ _ => rfl⟩
  obtain ⟨tm, methC, cdC, kC, vm₁, hnC, -, -, -, -, -, -, -, hW₁, st1⟩ := Steps.initColdS (tb := p.tables) (e := e) (below := below) (s := s) (U := W) X.here hexec X.warmed hpl hown (t := Bundle.initS cls) rfl rfl (Bundle.fit_spec hcls).2
    (a' (.methodLink own ic (Bundle.initS cls)) (by simp [Bundle.ownAtoms])) (h (.instanceMethod (Bundle.initS cls)) (by cases names <;> simp [Bundle.ownAtoms, Bundle.chainSAtoms, Bundle.passSAtoms])) (bytes := Bundle.six) (maxL := 2) (h (.code (Bundle.initS cls) Bundle.six 2 none) (by cases names <;> simp [Bundle.ownAtoms, Bundle.chainSAtoms, Bundle.passSAtoms]))
    (f := g) hg (a := a) (msg := msg) (rest := .ref a :: rest) hstack hd6
  cases Option.some.inj (hnC.symm.trans hP1m)
  have X₁ := X.noted hW₁
  obtain ⟨vm₂, X₂, st2⟩ := X₁.ctorMessageOffV hexec (g := { g with stack := .ref a :: rest }) hg hsize T L Z LZ M LM (P1 :: Ps)
    (fun P hP => by rcases List.mem_cons.mp hP with rfl | hP; exact L1; exact hL P hP) ⟨hlink1, hlink⟩ (u0 := u0) (sen := sen) (self := a) hmsg (cell := freshCell P1.m.cls kX) (cellS := cellS)
    hcell (fun _ => by simp) (by simp) rfl rfl hsel0 hselF hcellS hneS hknownS (by rw [hkeep _ (hout' _)]; exact hu0) (by rw [hkeep _ (hout' _)]; exact hsen)
    (Takes.of_laid hk hord tyC (by rw [Y.causeType]; rfl)) (Takes.of_laid hk hord tyS (by rw [Y.stackType]; exact fits_refV_array _ u0)) (Takes.of_laid hk hord tyP (by rw [Y.suppType]; exact fits_refV_object _ sen))
    (Takes.of_laid hk hord tyM (by rw [Y.msgType]; exact fits_refV_object _ ⟨msg, hmsg⟩)) Y.objLocals hskip htr [] hd6
    (by simp only [List.length_cons, hlen]; omega) (by simp only [List.length_cons, hlen]; exact hRlocals)
  have hlt : a < ((W.setVm vm₁).setVm vm₂).heap.size := (Array.getElem?_eq_some_iff.mp hcell).1
  refine ⟨(W.setVm vm₁).setVm vm₂, _, _, X₂, fun y hy => ?_, hlt, rfl, rfl, fun target hwalk => st1 _ (fun acts => ?_)⟩
  · simp only [List.mem_cons, List.not_mem_nil, or_false] at hy
    rcases hy with rfl | rfl | rfl | rfl | rfl <;> rfl
  · rw [doInvoke_state]
    exact st2 _ hwalk
set_option maxHeartbeats 1000000 in
theorem vx_ctorMade0 (X : Stand p l e R s m₀ args below meth c W locs cells slots) (hexec : p.tables.exec = Jvm.exec) (htr : e.platform.stackTraces = false) {own cls : String} {names : List String} {ic : Nat}
    (hown : s.vm.findClass own = some m₀.cls) (hcls : Bundle.fit cls = true) (hnames : ∀ n ∈ names, Bundle.fit n = true)
    (h : ∀ a ∈ Bundle.ownAtoms0 own ic cls names, a.before args s = true)
    (hlocs : ∀ x ∈ locs, ∀ cell, s.heap[x.base]? = some cell → cell.vm.isStatics = false)
    {a : Addr} {cX : ClassId} {kX : Class} (hfoundX : s.vm.findClass cls = some cX) (hkX : s.vm.classes[cX]? = some kX) (hcell : W.heap[a]? = some (freshCell cX kX)) (hnew : s.heap.size ≤ a)
    {g : JFrame} (hg : g.method = m₀) (hsize : g.locals.size = c.maxLocals) {rest : List Value} (hstack : g.stack = .ref a :: .ref a :: rest)
    (hd6 : decode c.code g.pc = .ok (.invokespecial ic, 3))
    (hRframes : names.length + 3 < R.frames) (hRlocals : 2 * g.monitorRoom + ((Value.ref a :: rest).map fun v => v.category).sum + (13 * (names.length + 1) + 41) ≤ R.locals) :
    ∃ (V : State) (ce : Cell) (L : List Loc), Stand p l e R s m₀ args below meth c (V.setCell a ce) (locs ++ L) cells slots ∧ (∀ y ∈ L, y.base = a) ∧ a < V.heap.size ∧ ce.cls = cX ∧ ce.vm = .none ∧
      ∀ target, Steps p.tables e below ((V.setCell a ce).setTop { g with stack := .ref a :: rest, pc := g.pc + 3 }) target → Steps p.tables e below (W.setTop g) target := by
  have howns : e.platform.frameOwnsMonitors = true := by rw [X.admits.platform]
  have hfin : e.platform.finalization = false := by rw [X.admits.platform]
  have hpl : e.platform.magicAccessors = ({} : Platform).magicAccessors := by rw [X.admits.platform]
  have a' : ∀ x, x ∈ Bundle.ownAtoms0 own ic cls names → x.holds args s none s [] = true := fun x hx => h x hx
  obtain ⟨T, Z, L, LZ, Y⟩ := ThrowableC.of_atoms (args := args) howns hfin hpl (fun x hx => h x (by simp [Bundle.ownAtoms0, hx]))
  obtain ⟨P1, Ps, hlen, L1, hL, hP1m, hlink1, hlink⟩ := Bundle.chain0 (args := args) hpl Y.init0 names cls hcls hnames (fun x hx => h x (by simp [Bundle.ownAtoms0, hx]))
  have hfound : s.vm.findClass cls = some P1.m.cls := findClass_of_methodNamed hP1m
  cases Option.some.inj (hfoundX.symm.trans hfound)
  obtain ⟨c1, kX', hc1, hk, hord, -, -, hn6⟩ := Cond.instantiable_spec (a' (.instantiable cls 6) (by simp [Bundle.ownAtoms0]))
  cases Option.some.inj (hc1.symm.trans hfound)
  cases Option.some.inj (hkX.symm.trans hk)
  have hsel0 : selectMethod e.platform s.vm P1.m.cls T.fill0 = .method T.fill0 := by
    obtain ⟨c2, r2, m2, q1, q2, q3, q4, -⟩ := Cond.selects_spec (a' (.selects cls Bundle.tFill0 Bundle.tFill0) (by simp [Bundle.ownAtoms0]))
    cases Option.some.inj (q1.symm.trans hfound)
    cases Option.some.inj (q2.symm.trans (State.methodFound?_of_named Y.fill0 (by decide)))
    cases Option.some.inj (q3.symm.trans Y.fill0)
    rw [Launch.admits_selectMethod X.admits]; exact q4
  have hselF : selectMethod e.platform s.vm P1.m.cls T.fill = .method T.fill := by
    obtain ⟨c2, r2, m2, q1, q2, q3, q4, -⟩ := Cond.selects_spec (a' (.selects cls Bundle.tFill Bundle.tFill) (by simp [Bundle.ownAtoms0]))
    cases Option.some.inj (q1.symm.trans hfound)
    cases Option.some.inj (q2.symm.trans (State.methodFound?_of_named Y.fill (by decide)))
    cases Option.some.inj (q3.symm.trans Y.fill)
    rw [Launch.admits_selectMethod X.admits]; exact q4
  obtain ⟨cellS0, hcS0, hiss⟩ := Y.statics
  obtain ⟨u0, hu0⟩ := Cond.staticRefV Y.unassigned L.unassignedStatic L.statics hcS0 hiss (a' (.isRef (.static Bundle.tN "UNASSIGNED_STACK" Bundle.steD)) (by simp [Bundle.ownAtoms0]))
  obtain ⟨sen, hsen⟩ := Cond.staticRefV Y.sentinel L.sentinelStatic L.statics hcS0 hiss (a' (.isRef (.static Bundle.tN "SUPPRESSED_SENTINEL" Bundle.listD)) (by simp [Bundle.ownAtoms0]))
  obtain ⟨ci198, i198, fB, hk198, hg198, ha198, hsB, -, hnB, htB, hffB⟩ := Cond.ownField (t := .object "java/lang/Object") Y.found L.cls (by decide +kernel) (a' (.fieldLink Bundle.tN 198 Bundle.tN "backtrace" "Ljava/lang/Object;") (by simp [Bundle.ownAtoms0])) (a' (.lays Bundle.tN Bundle.tN "backtrace" "Ljava/lang/Object;") (by simp [Bundle.ownAtoms0])) e.platform hpl
  obtain ⟨cellS, hcS', heS, -, hkeep⟩ := X.same.2.2.2.2.2 T.aS cellS0 hcS0
  have hcellS : W.heap[T.aS]? = some cellS := hcS'
  have hout' : ∀ i, (⟨T.aS, i⟩ : Loc) ∉ locs := fun i hmem => by
    have := hlocs _ hmem cellS0 hcS0
    rw [hiss] at this; cases this
  have hknownS : cellS.vm ≠ .unknown := by
    rw [heS]; intro hu
    rw [show cellS0.vm = .unknown from hu] at hiss
    cases hiss
  have hneS : T.aS ≠ a := Nat.ne_of_lt (Nat.lt_of_lt_of_le (Array.getElem?_eq_some_iff.mp hcS0).1 hnew)
  obtain ⟨iM, hffM⟩ := Y.msg
  obtain ⟨tyC, dC, hdC, hdnC⟩ := Cond.laysAt hfound hk Y.cause (a' (.lays cls Bundle.tN "cause" "Ljava/lang/Throwable;") (by simp [Bundle.ownAtoms0]))
  obtain ⟨tyS, dS, hdS, hdnS⟩ := Cond.laysAt hfound hk Y.stack (a' (.lays cls Bundle.tN "stackTrace" Bundle.steD) (by simp [Bundle.ownAtoms0]))
  obtain ⟨tyP, dP, hdP, hdnP⟩ := Cond.laysAt hfound hk Y.supp (a' (.lays cls Bundle.tN "suppressedExceptions" Bundle.listD) (by simp [Bundle.ownAtoms0]))
  obtain ⟨tyM, dM, hdM, hdnM⟩ := Cond.laysAt hfound hk hffM (a' (.lays cls Bundle.tN "detailMessage" "Ljava/lang/String;") (by simp [Bundle.ownAtoms0]))
  obtain ⟨tyB, dB, hdB, hdnB⟩ := Cond.laysAt hfound hk hffB (a' (.lays cls Bundle.tN "backtrace" "Ljava/lang/Object;") (by simp [Bundle.ownAtoms0]))
  have bC := Cond.laysApart hdB hdC hdnB hdnC (by rw [hnB, Y.causeName]; decide)
  have bS := Cond.laysApart hdB hdS hdnB hdnS (by rw [hnB, Y.stackName]; decide)
  have bP := Cond.laysApart hdB hdP hdnB hdnP (by rw [hnB, Y.suppName]; decide)
  have hskip : SkipFacts T e.platform s (fun u => u) u0 ((preparedCellV T.toThrowableT (freshCell P1.m.cls kX) a u0 sen).withEntry W.cur) :=
    ⟨{ ci198 := ci198, i198 := i198, fBack := fB }, ⟨hk198, hg198, ha198, hsB⟩, by
      have := fresh_default (c := P1.m.cls) tyB
      rw [htB] at this
      simpa [preparedCellV, Cell.setSlot, Cell.withEntry, Array.getElem?_setIfInBounds, bC, bS, bP, bC.symm, bS.symm, bP.symm, defaultValue] using this, fun _ _ => rfl⟩
  obtain ⟨tm, methC, cdC, kC, vm₁, hnC, -, -, -, -, -, -, -, hW₁, st1⟩ := Steps.initCold (tb := p.tables) (e := e) (below := below) (s := s) (U := W) X.here hexec X.warmed hpl hown (t := Bundle.init0 cls) rfl rfl (Bundle.fit_spec hcls).2
    (a' (.methodLink own ic (Bundle.init0 cls)) (by simp [Bundle.ownAtoms0])) (h (.instanceMethod (Bundle.init0 cls)) (by cases names <;> simp [Bundle.ownAtoms0, Bundle.chain0Atoms, Bundle.passAtoms])) (bytes := Bundle.five) (maxL := 1) (h (.code (Bundle.init0 cls) Bundle.five 1 none) (by cases names <;> simp [Bundle.ownAtoms0, Bundle.chain0Atoms, Bundle.passAtoms]))
    (f := g) hg (a := a) (rest := .ref a :: rest) hstack hd6
  cases Option.some.inj (hnC.symm.trans hP1m)
  have X₁ := X.noted hW₁
  obtain ⟨vm₂, X₂, st2⟩ := X₁.ctorPlainOffV hexec (g := { g with stack := .ref a :: rest }) hg hsize T L Z LZ (P1 :: Ps)
    (fun P hP => by rcases List.mem_cons.mp hP with rfl | hP; exact L1; exact hL P hP) ⟨hlink1, hlink⟩ (u0 := u0) (sen := sen) (self := a) (cell := freshCell P1.m.cls kX) (cellS := cellS)
    hcell (fun _ => by simp) (by simp) rfl rfl hsel0 hselF hcellS hneS hknownS (by rw [hkeep _ (hout' _)]; exact hu0) (by rw [hkeep _ (hout' _)]; exact hsen)
    (Takes.of_laid hk hord tyC (by rw [Y.causeType]; rfl)) (Takes.of_laid hk hord tyS (by rw [Y.stackType]; exact fits_refV_array _ u0)) (Takes.of_laid hk hord tyP (by rw [Y.suppType]; exact fits_refV_object _ sen)) Y.objLocals hskip htr [] hd6
    (by simp only [List.length_cons, hlen]; omega) (by simp only [List.length_cons, hlen]; exact hRlocals)
  have hlt : a < ((W.setVm vm₁).setVm vm₂).heap.size := (Array.getElem?_eq_some_iff.mp hcell).1
  refine ⟨(W.setVm vm₁).setVm vm₂, _, _, X₂, fun y hy => ?_, hlt, rfl, rfl, fun target hwalk => st1 _ (fun acts => ?_)⟩
  · simp only [List.mem_cons, List.not_mem_nil, or_false] at hy
    rcases hy with rfl | rfl | rfl | rfl <;> rfl
  · rw [doInvoke_state]
    exact st2 _ hwalk
end VXK
section VXK2
variable {p : Program} {l : Launch} {e : Env} {R : Room} {s : State} {m : MethodId} {args : Array Value} {below : List Frame} {meth : Method} {c : Code} {H : Heap} {locs : List Loc} {cells slots : Nat} {Q : State → Prop}
variable {ls : Array Slot} {rest : List Value} {D : va_G} {cl : List vw_C} {tys : List (ClassId × FieldType)} {ws : va_W}
/-- 'new E("text")' that isn't thrown at once: the object goes on the stack -/
theorem vx_makeS {cc : ByteArray} {pc : Nat} (hexec : p.tables.exec = Jvm.exec) (hb : c.code = cc) (hl : l.stackTraces = false) {own cls text : String} {names : List String} {ik is ic sa ci : Nat} {A : Nat → Prop} {T0 : u_T}
    (hown : s.vm.findClass own = some m.cls) (hcls : Bundle.fit cls = true) (hnames : ∀ n ∈ names, Bundle.fit n = true)
    (hk : (Cond.classLink own ik cls).before args s = true) (hini : (Cond.initialized cls).before args s = true) (hstr : vk_R own is text sa s) (hat : ∀ w ∈ vx_atS own ic cls names, w.before args s = true)
    (hgood : ∀ w ∈ Cond.classLink own ik cls :: Cond.initialized cls :: vx_atS own ic cls names, vx_ot w = true)
    (hU : vx_Zq Bundle.tN "UNASSIGNED_STACK" Bundle.steD A s s.heap) (hN : vx_Zq Bundle.tN "SUPPRESSED_SENTINEL" Bundle.listD A s s.heap) (hS : va_S A s.heap H locs) (hsize : ls.size = c.maxLocals)
    (d0 : decode cc pc = .ok (.new ik, 3)) (d3 : decode cc (pc + 3) = .ok (.dup, 1)) (d4 : decode cc (pc + 4) = .ok (.ldc is, 2)) (d6 : decode cc (pc + 6) = .ok (.invokespecial ic, 3))
    (hK : va_K D cl tys s) (hP : va_P D cl ws H) (hD : va_D A ws) (hA : ∀ q, s.heap.size ≤ q → A q) (hc : cl[ci]? = some (cls, T0, 0))
    (hRframes : names.length + 3 < R.frames) (hRlocals : (rest.map fun v => v.category).sum + (13 * (names.length + 1) + 43) ≤ R.locals) (hRcells : cells + 1 ≤ R.cells) (hRslots : slots + 6 ≤ R.slots)
    (kk : ∀ (q : Nat) (H1 : Heap), va_P D cl (ws ++ [(q, .inr (ci, []))]) H1 → va_D A (ws ++ [(q, .inr (ci, []))]) → va_S A s.heap H1 locs → W p l e R s m args below meth c H1 locs (cells + 1) (slots + 6) Q (F0 m (pc + 9) ls (.ref q :: rest))) :
    W p l e R s m args below meth c H locs cells slots Q (F0 m pc ls rest) := by
  intro T hT X
  subst hT
  have htr : e.platform.stackTraces = false := (show e.platform.stackTraces = l.stackTraces by rw [X.admits.platform]).trans hl
  have Y := vx_rebase X (R' := { frames := R.frames, locals := R.locals, cells := 1, slots := 6 }) (Nat.le_refl _) (Nat.le_refl _) hRcells hRslots
  obtain ⟨s', hA'⟩ : ∃ z, z = (T.setVm s.vm).setFrames (.invoking m args :: below) := ⟨_, rfl⟩
  rw [← hA'] at Y
  have hvm : s'.vm = s.vm := by rw [hA']; rfl
  have hhp : s'.heap = T.heap := by rw [hA']; rfl
  have hW0 : s.WarmedH s'.vm := by rw [hvm]; exact State.WarmedH.refl s
  have hat' : ∀ w ∈ vx_atS own ic cls names, w.before args s' = true := fun w hw => vx_ot_at hW0 hvm.symm (hgood w (List.mem_cons_of_mem _ (List.mem_cons_of_mem _ hw))) (hat w hw)
  have hk' : (Cond.classLink own ik cls).before args s' = true := vx_ot_at hW0 hvm.symm (hgood _ List.mem_cons_self) hk
  have hini' : (Cond.initialized cls).before args s' = true := vx_ot_at hW0 hvm.symm (hgood _ (List.mem_cons_of_mem _ List.mem_cons_self)) hini
  have hU' : vx_Zq Bundle.tN "UNASSIGNED_STACK" Bundle.steD A s' s'.heap := by rw [hhp]; exact vx_Zq.moved hW0.alike (hU.kept hS.2.1)
  have hN' : vx_Zq Bundle.tN "SUPPRESSED_SENTINEL" Bundle.listD A s' s'.heap := by rw [hhp]; exact vx_Zq.moved hW0.alike (hN.kept hS.2.1)
  have h : ∀ w ∈ Bundle.ownAtoms own ic cls names, w.before args s' = true := vx_own hat' (vx_isRefq hU'.1) (vx_isRefq hN'.1) hU'.2.word hN'.2.word
  have hown' : s'.vm.findClass own = some m.cls := by rw [hvm]; exact hown
  have hins : (Cond.instantiable cls 6).before args s' = true := h _ (by simp [Bundle.ownAtoms])
  obtain ⟨vm₁, cX, kX, hfX, hkX, -, -, X₁, st1⟩ := Y.newCold hexec (own := own) (C := cls) (index := ik) (n := 6) hown' hk' hins hini'
    (g := F0 m pc ls rest) rfl (by rw [hb]; exact d0) (Nat.le_refl _) (Nat.le_refl _)
  generalize hT1 : (T.setVm vm₁).pushCell { cls := cX, slots := kX.instanceTypes.map defaultValue, vm := .none } = T1 at X₁ st1
  have hcat : (Value.ref T.heap.size).category = 1 := rfl
  have hcellA : T1.heap[T.heap.size]? = some (freshCell cX kX) := by rw [← hT1]; exact State.heap_pushCell_size _ _
  have d3' : decode c.code (pc + 3) = .ok (.dup, 1) := by rw [hb]; exact d3
  have d4' : decode c.code (pc + 4) = .ok (.ldc is, 2) := by rw [hb]; exact d4
  have hstr' : vk_R own is text sa s' := vk_R.warm hW0 hstr
  obtain ⟨V, ce, L, Z, hL, hlt, hcl9, hvm9, st⟩ := vx_ctorMadeS X₁ hexec htr (own := own) (cls := cls) (names := names) (ic := ic) hown' hcls hnames h (fun x hx => nomatch hx) hfX hkX hcellA (by rw [hhp]; exact Nat.le_refl _) (msg := .ref sa) rfl
    (g := { method := m, pc := pc + 6, locals := ls, stack := .ref sa :: .ref T.heap.size :: .ref T.heap.size :: rest, locked := none }) rfl hsize (rest := rest) rfl
    (by rw [hb]; exact d6) hRframes (by simp only [List.map_cons, List.sum_cons, hcat]; omega)
  have Z0 := Stand.forget (locs := []) Z (fun y hy => by rw [hL y hy, hhp]; exact Nat.le_refl _)
  obtain ⟨f1, f2⟩ := vx_frame Z0.same
  rw [hhp] at f1 f2
  have hcid : ce.cls = D.1 ci := by
    rw [hcl9]
    have h1 := (hK.1 ci _ hc).2.1
    rw [hvm] at hfX
    exact Option.some.inj (hfX.symm.trans h1)
  have hh : (V.setCell T.heap.size ce).heap[T.heap.size]? = some ce := heapAt_setCell_self (s := V) ce hlt
  subst hA'
  have X5 := vx_back9 X Y Z0
  have X6 : Stand p l e R s m args below meth c (V.setCell T.heap.size ce) locs (cells + 1) (slots + 6) := { X5 with same := X5.same.mono (by omega) (by omega) }
  have hk9 : ∀ (k : Nat) (x : Nat × va_E), ws[k]? = some x → (V.setCell T.heap.size ce).heap[x.1]? = T.heap[x.1]? := fun k x hx => f2 x.1 ((hP k x hx).lt) (fun z hz => nomatch hz)
  obtain ⟨t, a1, b1⟩ := kk T.heap.size (V.setCell T.heap.size ce).heap ((hP.kept hk9).app (fun k x hx => by
      have hz : k < 1 := (List.getElem?_eq_some_iff.mp hx).1
      rw [show k = 0 by omega] at hx
      cases hx
      exact ⟨_, hc, ce, hh, hcid, hvm9, fun k hk => absurd hk (Nat.not_lt_zero k)⟩)) (hD.push hP rfl (hA _ hS.1)) ⟨Nat.le_trans hS.1 f1, fun q h1 h2 => (f2 q (Nat.lt_of_lt_of_le h1 hS.1) (fun z hz => nomatch hz)).trans (hS.2.1 q h1 h2), hS.2.2⟩ _ rfl X6
  refine ⟨t, st1 _ ?_, b1⟩
  show Steps p.tables e below (T1.setTop { method := m, pc := pc + 3, locals := ls, stack := .ref T.heap.size :: rest, locked := none }) _
  jvm_step X₁.here [X₁.here.top, hexec, d3', Value.category]
  exact X₁.ldcString hexec (own := own) (text := text) (index := is) (a := sa) hown' hstr'.1 hstr'.2
    (g := { method := m, pc := pc + 4, locals := ls, stack := .ref T.heap.size :: .ref T.heap.size :: rest, locked := none }) rfl d4' _ (st _ a1)
/-- 'new E()' that isn't thrown at once: the object goes on the stack -/
theorem vx_make0 {cc : ByteArray} {pc : Nat} (hexec : p.tables.exec = Jvm.exec) (hb : c.code = cc) (hl : l.stackTraces = false) {own cls : String} {names : List String} {ik ic ci : Nat} {A : Nat → Prop} {T0 : u_T}
    (hown : s.vm.findClass own = some m.cls) (hcls : Bundle.fit cls = true) (hnames : ∀ n ∈ names, Bundle.fit n = true)
    (hk : (Cond.classLink own ik cls).before args s = true) (hini : (Cond.initialized cls).before args s = true) (hat : ∀ w ∈ vx_at0 own ic cls names, w.before args s = true)
    (hgood : ∀ w ∈ Cond.classLink own ik cls :: Cond.initialized cls :: vx_at0 own ic cls names, vx_ot w = true)
    (hU : vx_Zq Bundle.tN "UNASSIGNED_STACK" Bundle.steD A s s.heap) (hN : vx_Zq Bundle.tN "SUPPRESSED_SENTINEL" Bundle.listD A s s.heap) (hS : va_S A s.heap H locs) (hsize : ls.size = c.maxLocals)
    (d0 : decode cc pc = .ok (.new ik, 3)) (d3 : decode cc (pc + 3) = .ok (.dup, 1)) (d4 : decode cc (pc + 4) = .ok (.invokespecial ic, 3))
    (hK : va_K D cl tys s) (hP : va_P D cl ws H) (hD : va_D A ws) (hA : ∀ q, s.heap.size ≤ q → A q) (hc : cl[ci]? = some (cls, T0, 0))
    (hRframes : names.length + 3 < R.frames) (hRlocals : (rest.map fun v => v.category).sum + (13 * (names.length + 1) + 42) ≤ R.locals) (hRcells : cells + 1 ≤ R.cells) (hRslots : slots + 6 ≤ R.slots)
    (kk : ∀ (q : Nat) (H1 : Heap), va_P D cl (ws ++ [(q, .inr (ci, []))]) H1 → va_D A (ws ++ [(q, .inr (ci, []))]) → va_S A s.heap H1 locs → W p l e R s m args below meth c H1 locs (cells + 1) (slots + 6) Q (F0 m (pc + 7) ls (.ref q :: rest))) :
    W p l e R s m args below meth c H locs cells slots Q (F0 m pc ls rest) := by
  intro T hT X
  subst hT
  have htr : e.platform.stackTraces = false := (show e.platform.stackTraces = l.stackTraces by rw [X.admits.platform]).trans hl
  have Y := vx_rebase X (R' := { frames := R.frames, locals := R.locals, cells := 1, slots := 6 }) (Nat.le_refl _) (Nat.le_refl _) hRcells hRslots
  obtain ⟨s', hA'⟩ : ∃ z, z = (T.setVm s.vm).setFrames (.invoking m args :: below) := ⟨_, rfl⟩
  rw [← hA'] at Y
  have hvm : s'.vm = s.vm := by rw [hA']; rfl
  have hhp : s'.heap = T.heap := by rw [hA']; rfl
  have hW0 : s.WarmedH s'.vm := by rw [hvm]; exact State.WarmedH.refl s
  have hat' : ∀ w ∈ vx_at0 own ic cls names, w.before args s' = true := fun w hw => vx_ot_at hW0 hvm.symm (hgood w (List.mem_cons_of_mem _ (List.mem_cons_of_mem _ hw))) (hat w hw)
  have hk' : (Cond.classLink own ik cls).before args s' = true := vx_ot_at hW0 hvm.symm (hgood _ List.mem_cons_self) hk
  have hini' : (Cond.initialized cls).before args s' = true := vx_ot_at hW0 hvm.symm (hgood _ (List.mem_cons_of_mem _ List.mem_cons_self)) hini
  have hU' : vx_Zq Bundle.tN "UNASSIGNED_STACK" Bundle.steD A s' s'.heap := by rw [hhp]; exact vx_Zq.moved hW0.alike (hU.kept hS.2.1)
  have hN' : vx_Zq Bundle.tN "SUPPRESSED_SENTINEL" Bundle.listD A s' s'.heap := by rw [hhp]; exact vx_Zq.moved hW0.alike (hN.kept hS.2.1)
  have h : ∀ w ∈ Bundle.ownAtoms0 own ic cls names, w.before args s' = true := vx_own hat' (vx_isRefq hU'.1) (vx_isRefq hN'.1) hU'.2.word hN'.2.word
  have hown' : s'.vm.findClass own = some m.cls := by rw [hvm]; exact hown
  have hins : (Cond.instantiable cls 6).before args s' = true := h _ (by simp [Bundle.ownAtoms0])
  obtain ⟨vm₁, cX, kX, hfX, hkX, -, -, X₁, st1⟩ := Y.newCold hexec (own := own) (C := cls) (index := ik) (n := 6) hown' hk' hins hini'
    (g := F0 m pc ls rest) rfl (by rw [hb]; exact d0) (Nat.le_refl _) (Nat.le_refl _)
  generalize hT1 : (T.setVm vm₁).pushCell { cls := cX, slots := kX.instanceTypes.map defaultValue, vm := .none } = T1 at X₁ st1
  have hcat : (Value.ref T.heap.size).category = 1 := rfl
  have hcellA : T1.heap[T.heap.size]? = some (freshCell cX kX) := by rw [← hT1]; exact State.heap_pushCell_size _ _
  have d3' : decode c.code (pc + 3) = .ok (.dup, 1) := by rw [hb]; exact d3
  obtain ⟨V, ce, L, Z, hL, hlt, hcl9, hvm9, st⟩ := vx_ctorMade0 X₁ hexec htr (own := own) (cls := cls) (names := names) (ic := ic) hown' hcls hnames h (fun x hx => nomatch hx) hfX hkX hcellA (by rw [hhp]; exact Nat.le_refl _)
    (g := { method := m, pc := pc + 4, locals := ls, stack := .ref T.heap.size :: .ref T.heap.size :: rest, locked := none }) rfl hsize (rest := rest) rfl
    (by rw [hb]; exact d4) hRframes (by simp only [List.map_cons, List.sum_cons, hcat]; omega)
  have Z0 := Stand.forget (locs := []) Z (fun y hy => by rw [hL y hy, hhp]; exact Nat.le_refl _)
  obtain ⟨f1, f2⟩ := vx_frame Z0.same
  rw [hhp] at f1 f2
  have hcid : ce.cls = D.1 ci := by
    rw [hcl9]
    have h1 := (hK.1 ci _ hc).2.1
    rw [hvm] at hfX
    exact Option.some.inj (hfX.symm.trans h1)
  have hh : (V.setCell T.heap.size ce).heap[T.heap.size]? = some ce := heapAt_setCell_self (s := V) ce hlt
  subst hA'
  have X5 := vx_back9 X Y Z0
  have X6 : Stand p l e R s m args below meth c (V.setCell T.heap.size ce) locs (cells + 1) (slots + 6) := { X5 with same := X5.same.mono (by omega) (by omega) }
  have hk9 : ∀ (k : Nat) (x : Nat × va_E), ws[k]? = some x → (V.setCell T.heap.size ce).heap[x.1]? = T.heap[x.1]? := fun k x hx => f2 x.1 ((hP k x hx).lt) (fun z hz => nomatch hz)
  obtain ⟨t, a1, b1⟩ := kk T.heap.size (V.setCell T.heap.size ce).heap ((hP.kept hk9).app (fun k x hx => by
      have hz : k < 1 := (List.getElem?_eq_some_iff.mp hx).1
      rw [show k = 0 by omega] at hx
      cases hx
      exact ⟨_, hc, ce, hh, hcid, hvm9, fun k hk => absurd hk (Nat.not_lt_zero k)⟩)) (hD.push hP rfl (hA _ hS.1)) ⟨Nat.le_trans hS.1 f1, fun q h1 h2 => (f2 q (Nat.lt_of_lt_of_le h1 hS.1) (fun z hz => nomatch hz)).trans (hS.2.1 q h1 h2), hS.2.2⟩ _ rfl X6
  refine ⟨t, st1 _ ?_, b1⟩
  show Steps p.tables e below (T1.setTop { method := m, pc := pc + 3, locals := ls, stack := .ref T.heap.size :: rest, locked := none }) _
  jvm_step X₁.here [X₁.here.top, hexec, d3', Value.category]
  exact st _ a1
/-- 'throw x' of an object that was made before -/
theorem vx_athrow {cc : ByteArray} {pc : Nat} (hexec : p.tables.exec = Jvm.exec) (hb : c.code = cc) {q : Addr} (hdg : decode cc pc = .ok (.athrow, 1)) (k : vx_W p l e R s m args below meth c H locs cells slots Q (F0 m pc ls rest) q) : W p l e R s m args below meth c H locs cells slots Q (F0 m pc ls (.ref q :: rest)) := by
  intro T hT X
  obtain ⟨t, st, hq⟩ := k T hT X
  refine ⟨t, ?_, hq⟩
  have hdg' : decode c.code pc = .ok (.athrow, 1) := by rw [hb]; exact hdg
  jvm_step X.here [X.here.top, hexec, hdg', athrow.wp_sem]
  exact st
end VXK2
/-! ===== END ===== -/
/-! ===== BEGIN a constructor that throws (launches without stack traces) ===== -/
section VXIA
variable {p : Program} {l : Launch} {e : Env} {R : Room} {s : State} {m : MethodId} {args : Array Value} {below : List Frame} {meth : Method} {c : Code} {T : State} {locs : List Loc} {cells slots : Nat}
theorem vx_callI (X : Stand p l e R s m args below meth c T locs cells slots) (hexec : p.tables.exec = Jvm.exec) {own : String} {index : Nat} {y : MethodName} {bytes : ByteArray} {maxL : Nat}
    (hown : s.vm.findClass own = some m.cls) (hy1 : y.name = "<init>") (hlink : (Cond.methodLink own index y).before args s = true) (hinst : (Cond.instanceMethod y).before args s = true)
    (hcode : (Cond.code y bytes maxL none).before args s = true) (hy : y.cls ≠ "java/lang/invoke/MethodHandle" ∧ y.cls ≠ "java/lang/invoke/VarHandle")
    {W9 : Nat} {Pre : Pt → Array Value → Prop} {Post : Pt → Array Value → Option Value → Pt → Prop} {PostX : Pt → Array Value → Addr → Pt → Prop} (hK : vx_Back l R p e below s args y 3 W9 Pre Post PostX)
    {g : JFrame} (hg : g.method = m) (hsize : g.locals.size = c.maxLocals) {a : Addr} {argsL rest : List Value} (hlen : ∀ sig, parseMethodDescriptor y.desc = some sig → argsL.length = sig.parameters.length)
    (hstack : g.stack = argsL.reverse ++ .ref a :: rest) (hW : 2 * g.monitorRoom + (rest.map fun v => v.category).sum ≤ W9) (hdg : decode c.code g.pc = .ok (.invokespecial index, 3))
    (hpre : ∀ vm₁, s.WarmedH vm₁ → Pre ⟨T.setVm vm₁, locs, cells, slots⟩ (Value.ref a :: argsL).toArray) :
    (∃ (v : Option Value) (vm₁ : Vm) (B : Pt), s.WarmedH vm₁ ∧ Stand p l e R s m args below meth c B.U B.locs B.cells B.slots ∧ Post ⟨T.setVm vm₁, locs, cells, slots⟩ (Value.ref a :: argsL).toArray v B ∧
      ∀ target, Steps p.tables e below (B.U.setTop { g with pc := g.pc + 3, stack := v.toList ++ rest }) target → Steps p.tables e below (T.setTop g) target) ∨
    (∃ (q : Addr) (vm₁ : Vm) (B : Pt), s.WarmedH vm₁ ∧ Stand p l e R s m args below meth c B.U B.locs B.cells B.slots ∧ PostX ⟨T.setVm vm₁, locs, cells, slots⟩ (Value.ref a :: argsL).toArray q B ∧
      Steps p.tables e below (T.setTop g) ((B.U.setTop { g with stack := rest }).pushFrame (.throwing q))) := by
  subst hg
  have hpl : e.platform.magicAccessors = ({} : Platform).magicAccessors := by rw [X.admits.platform]
  obtain ⟨mk, methM, cM, kP, vm₁, hnamed, hmethM, hcodeM, -, hlocalsM, -, hkP, -, hW₁, hstep₁⟩ := Steps.initColdArgs (e := e) X.here hexec X.warmed hpl hown hy1 hy hlink hinst hcode (f := g) rfl hlen hstack hdg
  have X₁ := X.noted hW₁
  rcases hK g.method meth c ⟨T.setVm vm₁, locs, cells, slots⟩ { g with stack := rest } (.invokespecial index) mk (Value.ref a :: argsL).toArray X₁ rfl hsize hdg hW (X₁.named hnamed) (hpre vm₁ X₁.warmed) with ⟨v, B, X', hpost, hsteps⟩ | ⟨q, B, X', hpost, hsteps⟩
  · exact Or.inl ⟨v, vm₁, B, X₁.warmed, X', hpost, fun target h => hstep₁ _ fun acts => by rw [doInvoke_state]; exact hsteps.trans h⟩
  · exact Or.inr ⟨q, vm₁, B, X₁.warmed, X', hpost, hstep₁ _ fun acts => by rw [doInvoke_state]; exact hsteps⟩
end VXIA
section VXIB
variable {p : Program} {l : Launch} {e : Env} {R : Room} {s : State} {m : MethodId} {args : Array Value} {below : List Frame} {meth : Method} {c : Code} {H : Heap} {locs : List Loc} {cells slots : Nat}
variable {y : MethodName} {bytes cc : ByteArray} {maxL nL mc ms n index : Nat} {ret : Option FieldType} {ws : List Cond} {rm : Room} {Pc : Array Value → State → Prop} {Qc : Array Value → State → Outcome → State → Prop} {XC : String → State → State → Prop} {free : Addr → Prop} {Ts : List Cond} {own C : String} {b : Addr} {As rest : List Value} {g : JFrame}
theorem vx_runI (S : CallFix p m c cc nL s args Ts own) (hM : vx_Met l y ws rm Pc Qc XC mc ms free) (cw : CallB R s args own index y bytes maxL none ws rm mc ms n ∧ y.name = "<init>" ∧ (Cond.instanceMethod y).before args s = true) (hp : PreS s H Pc (.ref b :: As))
    (hg : g.method = m) (hn : As.length = n) (hsize : g.locals.size = nL) (hstack : g.stack = As.reverse ++ .ref b :: rest) (hW : 2 * g.monitorRoom + (rest.map fun v => v.category).sum ≤ 8) (hdg : decode cc g.pc = .ok (.invokespecial index, 3)) (hf : cells + mc ≤ R.cells ∧ slots + ms ≤ R.slots) :
    vx_Run p l e R s m args below meth c H locs cells slots mc ms g rest (Qc (Value.ref b :: As).toArray) XC free := by
  have hK : vx_Back l R p e below s args y 3 8 (PreOf R mc ms Pc) (PostOf Qc mc ms free) (vx_Post XC mc ms free) := vx_callBack cw.1 hM hp.1
  obtain ⟨⟨-, -, -, -, -, -, hcode, -, hy, hlen, hl⟩, hy1, hin⟩ := cw
  obtain ⟨hx, hb, hml, ho, -⟩ := S
  have hPc := hp.2
  intro T hT X
  rcases vx_callI X hx (bytes := bytes) (maxL := maxL) ho hy1 hl hin hcode hy hK hg (hsize.trans hml.symm) (a := b) (argsL := As) (rest := rest) (fun sig h => hn.trans (hlen sig h)) hstack hW (by rw [hb]; exact hdg)
    (fun vm₁ hW₁ => ⟨hf.1, hf.2, hPc (T.setVm vm₁) hT hW₁⟩) with ⟨v, vm₁, ⟨U', l2, c2, s2⟩, hW₁, X', ⟨g', mk, t, L, e1, e2, hq, h1, hL, h2, h3⟩, st⟩ | ⟨q, vm₁, ⟨U', l2, c2, s2⟩, hW₁, X', ⟨g', mk, t, L, E, ce, e1, e2, hq, hce, hcv, hcl, h1, hL, h2, h3⟩, st⟩
  · dsimp only [Pt.U, Pt.locs, Pt.cells, Pt.slots] at X' e1 e2 h1 h2 h3 st
    subst h1; subst h2; subst h3
    exact Or.inl ⟨v, (T.setVm vm₁).calling g' mk (Value.ref b :: As).toArray, t, U', L, hT, X', hL, e1, e2, hq, st⟩
  · dsimp only [Pt.U, Pt.locs, Pt.cells, Pt.slots] at X' e1 e2 h1 h2 h3 st hcl
    subst h1; subst h2; subst h3
    exact Or.inr ⟨q, (T.setVm vm₁).calling g' mk (Value.ref b :: As).toArray, t, U', L, E, ce, hT, X', hL, e1, e2, hq, hce, hcv, vx_cls hW₁ hcl, st⟩
end VXIB
/-! ===== END ===== -/
/-! ===== BEGIN a private constructor of a nest mate that throws ===== -/
section VXIC
variable {p : Program} {l : Launch} {e : Env} {R : Room} {s : State} {m : MethodId} {args : Array Value} {below : List Frame} {meth : Method} {c : Code} {T : State} {locs : List Loc} {cells slots : Nat}
theorem vx_callIN (X : Stand p l e R s m args below meth c T locs cells slots) (hexec : p.tables.exec = Jvm.exec) {own : String} {index : Nat} {host : String} {y : MethodName} {bytes : ByteArray} {maxL : Nat}
    (hown : s.vm.findClass own = some m.cls) (hy1 : y.name = "<init>") (hlink : (Cond.methodLinkNest own index y host).before args s = true) (hinst : (Cond.instanceMethod y).before args s = true)
    (hcode : (Cond.code y bytes maxL none).before args s = true) (hy : y.cls ≠ "java/lang/invoke/MethodHandle" ∧ y.cls ≠ "java/lang/invoke/VarHandle")
    {W9 : Nat} {Pre : Pt → Array Value → Prop} {Post : Pt → Array Value → Option Value → Pt → Prop} {PostX : Pt → Array Value → Addr → Pt → Prop} (hK : vx_Back l R p e below s args y 3 W9 Pre Post PostX)
    {g : JFrame} (hg : g.method = m) (hsize : g.locals.size = c.maxLocals) {a : Addr} {argsL rest : List Value} (hlen : ∀ sig, parseMethodDescriptor y.desc = some sig → argsL.length = sig.parameters.length)
    (hstack : g.stack = argsL.reverse ++ .ref a :: rest) (hW : 2 * g.monitorRoom + (rest.map fun v => v.category).sum ≤ W9) (hdg : decode c.code g.pc = .ok (.invokespecial index, 3))
    (hpre : ∀ vm₁, s.WarmedH vm₁ → Pre ⟨T.setVm vm₁, locs, cells, slots⟩ (Value.ref a :: argsL).toArray) :
    (∃ (v : Option Value) (vm₁ : Vm) (B : Pt), s.WarmedH vm₁ ∧ Stand p l e R s m args below meth c B.U B.locs B.cells B.slots ∧ Post ⟨T.setVm vm₁, locs, cells, slots⟩ (Value.ref a :: argsL).toArray v B ∧
      ∀ target, Steps p.tables e below (B.U.setTop { g with pc := g.pc + 3, stack := v.toList ++ rest }) target → Steps p.tables e below (T.setTop g) target) ∨
    (∃ (q : Addr) (vm₁ : Vm) (B : Pt), s.WarmedH vm₁ ∧ Stand p l e R s m args below meth c B.U B.locs B.cells B.slots ∧ PostX ⟨T.setVm vm₁, locs, cells, slots⟩ (Value.ref a :: argsL).toArray q B ∧
      Steps p.tables e below (T.setTop g) ((B.U.setTop { g with stack := rest }).pushFrame (.throwing q))) := by
  subst hg
  have hpl : e.platform.magicAccessors = ({} : Platform).magicAccessors := by rw [X.admits.platform]
  obtain ⟨mk, methM, cM, kP, vm₁, hnamed, hmethM, hcodeM, -, hlocalsM, -, hkP, -, hW₁, hstep₁⟩ := Steps.initColdArgsNest (e := e) X.here hexec X.warmed hpl hown hy1 hy hlink hinst hcode (f := g) rfl hlen hstack hdg
  have X₁ := X.noted hW₁
  rcases hK g.method meth c ⟨T.setVm vm₁, locs, cells, slots⟩ { g with stack := rest } (.invokespecial index) mk (Value.ref a :: argsL).toArray X₁ rfl hsize hdg hW (X₁.named hnamed) (hpre vm₁ X₁.warmed) with ⟨v, B, X', hpost, hsteps⟩ | ⟨q, B, X', hpost, hsteps⟩
  · exact Or.inl ⟨v, vm₁, B, X₁.warmed, X', hpost, fun target h => hstep₁ _ fun acts => by rw [doInvoke_state]; exact hsteps.trans h⟩
  · exact Or.inr ⟨q, vm₁, B, X₁.warmed, X', hpost, hstep₁ _ fun acts => by rw [doInvoke_state]; exact hsteps⟩
end VXIC
section VXID
variable {p : Program} {l : Launch} {e : Env} {R : Room} {s : State} {m : MethodId} {args : Array Value} {below : List Frame} {meth : Method} {c : Code} {H : Heap} {locs : List Loc} {cells slots : Nat}
theorem vx_runIN {y : MethodName} {bytes cc : ByteArray} {maxL nL mc ms n index : Nat} {ws : List Cond} {rm : Room} {Pc : Array Value → State → Prop} {Qc : Array Value → State → Outcome → State → Prop} {XC : String → State → State → Prop} {free : Addr → Prop} {Ts : List Cond} {own host : String} {b : Addr} {As rest : List Value} {g : JFrame}
    (S : CallFix p m c cc nL s args Ts own) (hM : vx_Met l y ws rm Pc Qc XC mc ms free) (cw : va_CN R s args own index y host bytes maxL none ws rm mc ms n ∧ y.name = "<init>" ∧ (Cond.instanceMethod y).before args s = true) (hp : PreS s H Pc (.ref b :: As))
    (hg : g.method = m) (hn : As.length = n) (hsize : g.locals.size = nL) (hstack : g.stack = As.reverse ++ .ref b :: rest) (hW : 2 * g.monitorRoom + (rest.map fun v => v.category).sum ≤ 8) (hdg : decode cc g.pc = .ok (.invokespecial index, 3)) (hf : cells + mc ≤ R.cells ∧ slots + ms ≤ R.slots) :
    vx_Run p l e R s m args below meth c H locs cells slots mc ms g rest (Qc (Value.ref b :: As).toArray) XC free := by
  obtain ⟨⟨⟨hrc, hrs, hfr, hlo, hws, hcw⟩, hcode, hini, hy, hlen, hl⟩, hx1, hx2⟩ := cw
  have hK : vx_Back l R p e below s args y 3 8 (PreOf R mc ms Pc) (PostOf Qc mc ms free) (vx_Post XC mc ms free) := vx_back (bytes := bytes) (maxL := maxL) (ret := none) hM hp.1 hrc hrs hfr hlo hws hcw (fun a' U hW => word_at hW (Or.inl (by first | rfl | simp [Cond.onTables, Cond.keeps, Cond.steady])) hini)
  obtain ⟨hx, hb, hml, ho, -⟩ := S
  have hPc := hp.2
  intro T hT X
  rcases vx_callIN X hx (bytes := bytes) (maxL := maxL) ho hx1 hl hx2 hcode hy hK hg (hsize.trans hml.symm) (a := b) (argsL := As) (rest := rest) (fun sig h => hn.trans (hlen sig h)) hstack hW (by rw [hb]; exact hdg)
    (fun vm₁ hW₁ => ⟨hf.1, hf.2, hPc (T.setVm vm₁) hT hW₁⟩) with ⟨v, vm₁, ⟨U', l2, c2, s2⟩, hW₁, X', ⟨g', mk, t, L, e1, e2, hq, h1, hL, h2, h3⟩, st⟩ | ⟨q, vm₁, ⟨U', l2, c2, s2⟩, hW₁, X', ⟨g', mk, t, L, E, ce, e1, e2, hq, hce, hcv, hcl, h1, hL, h2, h3⟩, st⟩
  · dsimp only [Pt.U, Pt.locs, Pt.cells, Pt.slots] at X' e1 e2 h1 h2 h3 st
    subst h1; subst h2; subst h3
    exact Or.inl ⟨v, (T.setVm vm₁).calling g' mk (Value.ref b :: As).toArray, t, U', L, hT, X', hL, e1, e2, hq, st⟩
  · dsimp only [Pt.U, Pt.locs, Pt.cells, Pt.slots] at X' e1 e2 h1 h2 h3 st hcl
    subst h1; subst h2; subst h3
    exact Or.inr ⟨q, (T.setVm vm₁).calling g' mk (Value.ref b :: As).toArray, t, U', L, E, ce, hT, X', hL, e1, e2, hq, hce, hcv, vx_cls hW₁ hcl, st⟩
end VXID
/-! ===== END ===== -/
/-! ===== BEGIN a method of a class above, found by the receiver, that may throw (follows va_callVU, va_runU of this kit) ===== -/
section
variable {p : Program} {l : Launch} {e : Env} {R : Room} {s : State} {m : MethodId} {args : Array Value} {below : List Frame} {meth : Method} {c : Code} {H : Heap} {locs : List Loc} {cells slots : Nat}
theorem vx_callVU {T : State} {locs : List Loc} {cells slots : Nat} (X : Stand p l e R s m args below meth c T locs cells slots) (hexec : p.tables.exec = Jvm.exec) {own C owner : String} {index : Nat} {x y : MethodName} {bytes : ByteArray} {maxL : Nat} {ret : Option FieldType}
    (hown : s.vm.findClass own = some m.cls) (hlink : (Cond.methodLink own index x).before args s = true) (hsame : (Cond.sameMethod x.cls owner x.name x.desc).before args s = true)
    (hd0 : va_Decl s ⟨owner, x.name, x.desc⟩) (howner : owner ≠ "java/lang/invoke/MethodHandle" ∧ owner ≠ "java/lang/invoke/VarHandle")
    (hsel : (Cond.selects C x y).before args s = true) (hinst : (Cond.instanceMethod y).before args s = true) (hcode : (Cond.code y bytes maxL ret).before args s = true)
    {W : Nat} {Pre : Pt → Array Value → Prop} {Post : Pt → Array Value → Option Value → Pt → Prop} {PostX : Pt → Array Value → Addr → Pt → Prop} (hK : vx_Back l R p e below s args y 3 W Pre Post PostX)
    {b : Addr} {cellB : Cell} (hcell : T.heap[b]? = some cellB) (hobj : cellB.vm.isStatics = false) (hcls : s.vm.findClass C = some cellB.cls)
    {g : JFrame} (hg : g.method = m) (hsize : g.locals.size = c.maxLocals) {argsL rest : List Value} (hlen : ∀ sig, parseMethodDescriptor x.desc = some sig → argsL.length = sig.parameters.length)
    (hstack : g.stack = argsL.reverse ++ .ref b :: rest) (hW : 2 * g.monitorRoom + (rest.map fun v => v.category).sum ≤ W) (hdg : decode c.code g.pc = .ok (.invokevirtual index, 3))
    (hpre : ∀ vm₁, s.WarmedH vm₁ → Pre ⟨T.setVm vm₁, locs, cells, slots⟩ (Value.ref b :: argsL).toArray) :
    (∃ (v : Option Value) (vm₁ : Vm) (B : Pt), s.WarmedH vm₁ ∧ Stand p l e R s m args below meth c B.U B.locs B.cells B.slots ∧ Post ⟨T.setVm vm₁, locs, cells, slots⟩ (Value.ref b :: argsL).toArray v B ∧
      ∀ target, Steps p.tables e below (B.U.setTop { g with pc := g.pc + 3, stack := v.toList ++ rest }) target → Steps p.tables e below (T.setTop g) target) ∨
    (∃ (q : Addr) (vm₁ : Vm) (B : Pt), s.WarmedH vm₁ ∧ Stand p l e R s m args below meth c B.U B.locs B.cells B.slots ∧ PostX ⟨T.setVm vm₁, locs, cells, slots⟩ (Value.ref b :: argsL).toArray q B ∧
      Steps p.tables e below (T.setTop g) ((B.U.setTop { g with stack := rest }).pushFrame (.throwing q))) := by
  obtain ⟨r0, r, hn, hrm, hstR, hsigR⟩ := hd0
  obtain ⟨cn, ck, r1, hcn, hck, hni, hf, hn1⟩ := Cond.sameMethod_found hsame
  cases hn.symm.trans hn1
  obtain ⟨mk, methM, hnamed, hmethM, -, habM⟩ := Cond.instanceMethod_spec hinst
  obtain ⟨c2, r2, m2, q1, q2, q3, q4, kP, hkP, hkPi⟩ := Cond.selects_spec hsel
  cases hcls.symm.trans q1
  cases hf.symm.trans q2
  cases hnamed.symm.trans q3
  have hselP : selectMethod e.platform s.vm cellB.cls r0 = .method mk := by rw [Launch.admits_selectMethod X.admits]; exact q4
  obtain ⟨vm₁, X₁, hstep₁⟩ := X.invokevirtualUp hexec hown hlink hsame howner hn hrm hstR (a := b) (cell := cellB) hcell
    (fun z h => by rw [h] at hobj; cases hobj) hselP hmethM habM hkP hkPi (g := g) hg (argsL := argsL) (rest := rest) (hlen _ hsigR) hstack hdg
  rcases hK m meth c ⟨T.setVm vm₁, locs, cells, slots⟩ { g with stack := rest } (.invokevirtual index) mk (Value.ref b :: argsL).toArray X₁ hg hsize hdg hW (X₁.named hnamed) (hpre vm₁ X₁.warmed) with ⟨v, B, X', hpost, hsteps⟩ | ⟨q, B, X', hpost, hsteps⟩
  · exact Or.inl ⟨v, vm₁, B, X₁.warmed, X', hpost, fun target h => hstep₁ _ fun acts => by rw [doInvoke_state]; exact hsteps.trans h⟩
  · exact Or.inr ⟨q, vm₁, B, X₁.warmed, X', hpost, hstep₁ _ fun acts => by rw [doInvoke_state]; exact hsteps⟩
theorem vx_runU {x y : MethodName} {bytes cc : ByteArray} {maxL nL mc ms n index : Nat} {ret : Option FieldType} {ws : List Cond} {rm : Room} {Pc : Array Value → State → Prop} {Qc : Array Value → State → Outcome → State → Prop} {XC : String → State → State → Prop} {free : Addr → Prop} {Ts : List Cond} {own C owner : String} {b : Addr} {As rest : List Value} {g : JFrame}
    (S : CallFix p m c cc nL s args Ts own) (hM : vx_Met l y ws rm Pc Qc XC mc ms free) (cw : va_CU R s args own C owner index x y bytes maxL ret ws rm mc ms n) (hp : PreV s H C b Pc As)
    (hg : g.method = m) (hn : As.length = n) (hsize : g.locals.size = nL) (hstack : g.stack = As.reverse ++ .ref b :: rest) (hW : 2 * g.monitorRoom + (rest.map fun v => v.category).sum ≤ 8) (hdg : decode cc g.pc = .ok (.invokevirtual index, 3)) (hf : cells + mc ≤ R.cells ∧ slots + ms ≤ R.slots) :
    vx_Run p l e R s m args below meth c H locs cells slots mc ms g rest (Qc (Value.ref b :: As).toArray) XC free := by
  obtain ⟨hrc, hrs, hfr, hlo, hws, hcw⟩ := cw.back
  have hini := cw.init
  have hK : vx_Back l R p e below s args y 3 8 (PreOf R mc ms Pc) (PostOf Qc mc ms free) (vx_Post XC mc ms free) := vx_back (bytes := bytes) (maxL := maxL) (ret := ret) hM hp.1 hrc hrs hfr hlo hws hcw (fun a' U hW => word_at hW (Or.inl (by first | rfl | simp [Cond.onTables, Cond.keeps, Cond.steady])) hini)
  obtain ⟨hx, hb, hml, ho, -⟩ := S
  obtain ⟨-, ⟨cellB, hcB, hoB, hclB⟩, hPc⟩ := hp
  intro T hT X
  rcases vx_callVU X hx (C := C) (owner := owner) (bytes := bytes) (maxL := maxL) (ret := ret) ho cw.link cw.same cw.decl cw.notMH cw.sel cw.inst cw.code hK (by rw [hT]; exact hcB) hoB hclB hg (hsize.trans hml.symm) (argsL := As) (rest := rest) (fun sig h => hn.trans (cw.len sig h)) hstack hW (by rw [hb]; exact hdg)
    (fun vm₁ hW₁ => ⟨hf.1, hf.2, hPc (T.setVm vm₁) hT hW₁⟩) with ⟨v, vm₁, ⟨U', l2, c2, s2⟩, hW₁, X', ⟨g', mk, t, L, e1, e2, hq, h1, hL, h2, h3⟩, st⟩ | ⟨q, vm₁, ⟨U', l2, c2, s2⟩, hW₁, X', ⟨g', mk, t, L, E, ce, e1, e2, hq, hce, hcv, hcl, h1, hL, h2, h3⟩, st⟩
  · dsimp only [Pt.U, Pt.locs, Pt.cells, Pt.slots] at X' e1 e2 h1 h2 h3 st
    subst h1; subst h2; subst h3
    exact Or.inl ⟨v, (T.setVm vm₁).calling g' mk (Value.ref b :: As).toArray, t, U', L, hT, X', hL, e1, e2, hq, st⟩
  · dsimp only [Pt.U, Pt.locs, Pt.cells, Pt.slots] at X' e1 e2 h1 h2 h3 st hcl
    subst h1; subst h2; subst h3
    exact Or.inr ⟨q, (T.setVm vm₁).calling g' mk (Value.ref b :: As).toArray, t, U', L, E, ce, hT, X', hL, e1, e2, hq, hce, hcv, vx_cls hW₁ hcl, st⟩
end
/-! ===== END ===== -/
/-! ===== BEGIN super.m(..) that may throw (follows va_callSU, va_runSU) ===== -/
section
variable {p : Program} {l : Launch} {e : Env} {R : Room} {s : State} {m : MethodId} {args : Array Value} {below : List Frame} {meth : Method} {c : Code} {H : Heap} {locs : List Loc} {cells slots : Nat}
theorem vx_callSU {T : State} {locs : List Loc} {cells slots : Nat} (X : Stand p l e R s m args below meth c T locs cells slots) (hexec : p.tables.exec = Jvm.exec) {own : String} {index : Nat} {y : MethodName} {bytes : ByteArray} {maxL : Nat} {ret : Option FieldType}
    (hown : s.vm.findClass own = some m.cls) (hlink : (Cond.methodLink own index y).before args s = true) (hsame : (Cond.sameMethod y.cls y.cls y.name y.desc).before args s = true) (hsup : (Cond.superclass own y.cls).before args s = true)
    (hinst : (Cond.instanceMethod y).before args s = true) (hcode : (Cond.code y bytes maxL ret).before args s = true) (hno : y.name ≠ "<init>")
    {W : Nat} {Pre : Pt → Array Value → Prop} {Post : Pt → Array Value → Option Value → Pt → Prop} {PostX : Pt → Array Value → Addr → Pt → Prop} (hK : vx_Back l R p e below s args y 3 W Pre Post PostX)
    {b : Addr} {cellB : Cell} {kB : Class} (hcell : T.heap[b]? = some cellB) (hobj : cellB.vm.isStatics = false) (hkB : s.vm.classes[cellB.cls]? = some kB)
    {g : JFrame} (hg : g.method = m) (hsize : g.locals.size = c.maxLocals) {argsL rest : List Value} (hlen : ∀ sig, parseMethodDescriptor y.desc = some sig → argsL.length = sig.parameters.length)
    (hstack : g.stack = argsL.reverse ++ .ref b :: rest) (hW : 2 * g.monitorRoom + (rest.map fun v => v.category).sum ≤ W) (hdg : decode c.code g.pc = .ok (.invokespecial index, 3))
    (hpre : ∀ vm₁, s.WarmedH vm₁ → Pre ⟨T.setVm vm₁, locs, cells, slots⟩ (Value.ref b :: argsL).toArray) :
    (∃ (v : Option Value) (vm₁ : Vm) (B : Pt), s.WarmedH vm₁ ∧ Stand p l e R s m args below meth c B.U B.locs B.cells B.slots ∧ Post ⟨T.setVm vm₁, locs, cells, slots⟩ (Value.ref b :: argsL).toArray v B ∧
      ∀ target, Steps p.tables e below (B.U.setTop { g with pc := g.pc + 3, stack := v.toList ++ rest }) target → Steps p.tables e below (T.setTop g) target) ∨
    (∃ (q : Addr) (vm₁ : Vm) (B : Pt), s.WarmedH vm₁ ∧ Stand p l e R s m args below meth c B.U B.locs B.cells B.slots ∧ PostX ⟨T.setVm vm₁, locs, cells, slots⟩ (Value.ref b :: argsL).toArray q B ∧
      Steps p.tables e below (T.setTop g) ((B.U.setTop { g with stack := rest }).pushFrame (.throwing q))) := by
  obtain ⟨mk, methM, hnamed, hmethM, hstM, habM⟩ := Cond.instanceMethod_spec hinst
  obtain ⟨methM', cM, hmethM', -, -, -, -, -, -, hsigM⟩ := Cond.code_spec hnamed hcode
  cases hmethM.symm.trans hmethM'
  obtain ⟨ps, dk, kp, hps, hdk, hkp, hsuper, -, -, hnid⟩ := Cond.superclass_spec hown hsup
  have hn : s.methodNamed? ⟨y.cls, y.name, y.desc⟩ = some mk := hnamed
  have hpm : ps = mk.cls := Option.some.inj (hps.symm.trans (findClass_of_methodNamed hnamed))
  have hsub : s.vm.isSubclass ps mk.cls = true := by rw [hpm]; simp [Vm.isSubclass, Vm.isSubclassAux]
  obtain ⟨vm₁, X₁, hstep₁⟩ := X.invokespecialUp hexec hown hlink hsame hn hmethM hstM habM hno hdk hnid hps hsuper hsub (a := b) (cell := cellB) hcell
    (fun z h => by rw [h] at hobj; cases hobj) hkB (g := g) hg (argsL := argsL) (rest := rest) (hlen _ hsigM) hstack hdg
  rcases hK m meth c ⟨T.setVm vm₁, locs, cells, slots⟩ { g with stack := rest } (.invokespecial index) mk (Value.ref b :: argsL).toArray X₁ hg hsize hdg hW (X₁.named hnamed) (hpre vm₁ X₁.warmed) with ⟨v, B, X', hpost, hsteps⟩ | ⟨q, B, X', hpost, hsteps⟩
  · exact Or.inl ⟨v, vm₁, B, X₁.warmed, X', hpost, fun target h => hstep₁ _ (by rw [doInvoke_state]; exact hsteps.trans h)⟩
  · exact Or.inr ⟨q, vm₁, B, X₁.warmed, X', hpost, hstep₁ _ (by rw [doInvoke_state]; exact hsteps)⟩
theorem vx_runSU {y : MethodName} {bytes cc : ByteArray} {maxL nL mc ms n index : Nat} {ret : Option FieldType} {ws : List Cond} {rm : Room} {Pc : Array Value → State → Prop} {Qc : Array Value → State → Outcome → State → Prop} {XC : String → State → State → Prop} {free : Addr → Prop} {Ts : List Cond} {own C : String} {cC : ClassId} {b : Addr} {As rest : List Value} {g : JFrame}
    (hat : ClassAt s C cC) (S : CallFix p m c cc nL s args Ts own) (hM : vx_Met l y ws rm Pc Qc XC mc ms free) (cw : va_CS R s args own index y bytes maxL ret ws rm mc ms n) (hp : PreV s H C b Pc As)
    (hg : g.method = m) (hn : As.length = n) (hsize : g.locals.size = nL) (hstack : g.stack = As.reverse ++ .ref b :: rest) (hW : 2 * g.monitorRoom + (rest.map fun v => v.category).sum ≤ 8) (hdg : decode cc g.pc = .ok (.invokespecial index, 3)) (hf : cells + mc ≤ R.cells ∧ slots + ms ≤ R.slots) :
    vx_Run p l e R s m args below meth c H locs cells slots mc ms g rest (Qc (Value.ref b :: As).toArray) XC free := by
  obtain ⟨⟨hrc, hrs, hfr, hlo, hws, hcw⟩, hl1, hl2, hl3, hl4, hini, hcode, hno, hlen⟩ := cw
  have hK : vx_Back l R p e below s args y 3 8 (PreOf R mc ms Pc) (PostOf Qc mc ms free) (vx_Post XC mc ms free) := vx_back (bytes := bytes) (maxL := maxL) (ret := ret) hM hp.1 hrc hrs hfr hlo hws hcw (fun a' U hW => word_at hW (Or.inl (by first | rfl | simp [Cond.onTables, Cond.keeps, Cond.steady])) hini)
  obtain ⟨hx, hb, hml, ho, -⟩ := S
  obtain ⟨-, ⟨cellB, hcB, hoB, hclB⟩, hPc⟩ := hp
  obtain ⟨hfc, kB, hkB, -⟩ := hat
  cases hfc.symm.trans hclB
  intro T hT X
  rcases vx_callSU X hx (bytes := bytes) (maxL := maxL) (ret := ret) ho hl1 hl2 hl3 hl4 hcode hno hK (by rw [hT]; exact hcB) hoB hkB hg (hsize.trans hml.symm) (argsL := As) (rest := rest) (fun sig h => hn.trans (hlen sig h)) hstack hW (by rw [hb]; exact hdg)
    (fun vm₁ hW₁ => ⟨hf.1, hf.2, hPc (T.setVm vm₁) hT hW₁⟩) with ⟨v, vm₁, ⟨U', l2, c2, s2⟩, hW₁, X', ⟨g', mk, t, L, e1, e2, hq, h1, hL, h2, h3⟩, st⟩ | ⟨q, vm₁, ⟨U', l2, c2, s2⟩, hW₁, X', ⟨g', mk, t, L, E, ce, e1, e2, hq, hce, hcv, hcl, h1, hL, h2, h3⟩, st⟩
  · dsimp only [Pt.U, Pt.locs, Pt.cells, Pt.slots] at X' e1 e2 h1 h2 h3 st
    subst h1; subst h2; subst h3
    exact Or.inl ⟨v, (T.setVm vm₁).calling g' mk (Value.ref b :: As).toArray, t, U', L, hT, X', hL, e1, e2, hq, st⟩
  · dsimp only [Pt.U, Pt.locs, Pt.cells, Pt.slots] at X' e1 e2 h1 h2 h3 st hcl
    subst h1; subst h2; subst h3
    exact Or.inr ⟨q, (T.setVm vm₁).calling g' mk (Value.ref b :: As).toArray, t, U', L, E, ce, hT, X', hL, e1, e2, hq, hce, hcv, vx_cls hW₁ hcl, st⟩
end
/-! ===== END ===== -/
/-! ===== BEGIN a private method of a nest mate that may throw (follows va_callVN, va_callSN, va_runVN, va_runSN) ===== -/
section
variable {p : Program} {l : Launch} {e : Env} {R : Room} {s : State} {m : MethodId} {args : Array Value} {below : List Frame} {meth : Method} {c : Code} {H : Heap} {locs : List Loc} {cells slots : Nat}
variable {T : State}
theorem vx_callVN (X : Stand p l e R s m args below meth c T locs cells slots) (hexec : p.tables.exec = Jvm.exec) {own C : String} {index : Nat} {host : String} {y : MethodName} {bytes : ByteArray} {maxL : Nat} {ret : Option FieldType}
    (hown : s.vm.findClass own = some m.cls) (hlink : (Cond.methodLinkNest own index y host).before args s = true) (hinst : (Cond.instanceMethod y).before args s = true) (hsel : (Cond.selects C y y).before args s = true)
    (hcode : (Cond.code y bytes maxL ret).before args s = true) (hy : y.cls ≠ "java/lang/invoke/MethodHandle" ∧ y.cls ≠ "java/lang/invoke/VarHandle")
    {W : Nat} {Pre : Pt → Array Value → Prop} {Post : Pt → Array Value → Option Value → Pt → Prop} {PostX : Pt → Array Value → Addr → Pt → Prop} (hK : vx_Back l R p e below s args y 3 W Pre Post PostX)
    {b : Addr} {cellB : Cell} (hcell : T.heap[b]? = some cellB) (hobj : cellB.vm.isStatics = false) (hcls : s.vm.findClass C = some cellB.cls)
    {g : JFrame} (hg : g.method = m) (hsize : g.locals.size = c.maxLocals) {argsL rest : List Value} (hlen : ∀ sig, parseMethodDescriptor y.desc = some sig → argsL.length = sig.parameters.length)
    (hstack : g.stack = argsL.reverse ++ .ref b :: rest) (hW : 2 * g.monitorRoom + (rest.map fun v => v.category).sum ≤ W) (hdg : decode c.code g.pc = .ok (.invokevirtual index, 3))
    (hpre : ∀ vm₁, s.WarmedH vm₁ → Pre ⟨T.setVm vm₁, locs, cells, slots⟩ (Value.ref b :: argsL).toArray) :
    (∃ (v : Option Value) (vm₁ : Vm) (B : Pt), s.WarmedH vm₁ ∧ Stand p l e R s m args below meth c B.U B.locs B.cells B.slots ∧ Post ⟨T.setVm vm₁, locs, cells, slots⟩ (Value.ref b :: argsL).toArray v B ∧
      ∀ target, Steps p.tables e below (B.U.setTop { g with pc := g.pc + 3, stack := v.toList ++ rest }) target → Steps p.tables e below (T.setTop g) target) ∨
    (∃ (q : Addr) (vm₁ : Vm) (B : Pt), s.WarmedH vm₁ ∧ Stand p l e R s m args below meth c B.U B.locs B.cells B.slots ∧ PostX ⟨T.setVm vm₁, locs, cells, slots⟩ (Value.ref b :: argsL).toArray q B ∧
      Steps p.tables e below (T.setTop g) ((B.U.setTop { g with stack := rest }).pushFrame (.throwing q))) := by
  obtain ⟨mk, methM, hnamed, hmethM, hstM, habM⟩ := Cond.instanceMethod_spec hinst
  obtain ⟨methM', cM, hmethM', -, -, -, -, -, -, hsigM⟩ := Cond.code_spec hnamed hcode
  cases hmethM.symm.trans hmethM'
  obtain ⟨c2, r2, m2, q1, q2, q3, q4, kP, hkP, hkPi⟩ := Cond.selects_spec hsel
  cases hcls.symm.trans q1
  cases (State.methodFound?_of_named hnamed hy).symm.trans q2
  cases hnamed.symm.trans q3
  have hselP : selectMethod e.platform s.vm cellB.cls mk = .method mk := by rw [Launch.admits_selectMethod X.admits]; exact q4
  obtain ⟨vm₁, X₁, hstep₁⟩ := X.invokevirtualNest hexec hown hlink hnamed hmethM hstM hkP hkPi hy (a := b) (cell := cellB) hcell
    (fun z h => by rw [h] at hobj; cases hobj) hselP hmethM habM hkP hkPi (g := g) hg (argsL := argsL) (rest := rest) (hlen _ hsigM) hstack hdg
  rcases hK m meth c ⟨T.setVm vm₁, locs, cells, slots⟩ { g with stack := rest } (.invokevirtual index) mk (Value.ref b :: argsL).toArray X₁ hg hsize hdg hW (X₁.named hnamed) (hpre vm₁ X₁.warmed) with ⟨v, B, X', hpost, hsteps⟩ | ⟨q, B, X', hpost, hsteps⟩
  · exact Or.inl ⟨v, vm₁, B, X₁.warmed, X', hpost, fun target h => hstep₁ _ fun acts => by rw [doInvoke_state]; exact hsteps.trans h⟩
  · exact Or.inr ⟨q, vm₁, B, X₁.warmed, X', hpost, hstep₁ _ fun acts => by rw [doInvoke_state]; exact hsteps⟩
theorem vx_callSN (X : Stand p l e R s m args below meth c T locs cells slots) (hexec : p.tables.exec = Jvm.exec) {own : String} {index : Nat} {host : String} {y : MethodName} {bytes : ByteArray} {maxL : Nat} {ret : Option FieldType}
    (hown : s.vm.findClass own = some m.cls) (hlink : (Cond.methodLinkNest own index y host).before args s = true) (hstat : (Cond.static y).before args s = true) (hinit : (Cond.initialized y.cls).before args s = true)
    (hcode : (Cond.code y bytes maxL ret).before args s = true) (hy : y.cls ≠ "java/lang/invoke/MethodHandle" ∧ y.cls ≠ "java/lang/invoke/VarHandle")
    {W : Nat} {Pre : Pt → Array Value → Prop} {Post : Pt → Array Value → Option Value → Pt → Prop} {PostX : Pt → Array Value → Addr → Pt → Prop} (hK : vx_Back l R p e below s args y 3 W Pre Post PostX)
    {g : JFrame} (hg : g.method = m) (hsize : g.locals.size = c.maxLocals) {argsL rest : List Value} (hlen : ∀ sig, parseMethodDescriptor y.desc = some sig → argsL.length = sig.parameters.length)
    (hstack : g.stack = argsL.reverse ++ rest) (hW : 2 * g.monitorRoom + (rest.map fun v => v.category).sum ≤ W) (hdg : decode c.code g.pc = .ok (.invokestatic index, 3))
    (hpre : ∀ vm₁, s.WarmedH vm₁ → Pre ⟨T.setVm vm₁, locs, cells, slots⟩ argsL.toArray) :
    (∃ (v : Option Value) (vm₁ : Vm) (B : Pt), s.WarmedH vm₁ ∧ Stand p l e R s m args below meth c B.U B.locs B.cells B.slots ∧ Post ⟨T.setVm vm₁, locs, cells, slots⟩ argsL.toArray v B ∧
      ∀ target, Steps p.tables e below (B.U.setTop { g with pc := g.pc + 3, stack := v.toList ++ rest }) target → Steps p.tables e below (T.setTop g) target) ∨
    (∃ (q : Addr) (vm₁ : Vm) (B : Pt), s.WarmedH vm₁ ∧ Stand p l e R s m args below meth c B.U B.locs B.cells B.slots ∧ PostX ⟨T.setVm vm₁, locs, cells, slots⟩ argsL.toArray q B ∧
      Steps p.tables e below (T.setTop g) ((B.U.setTop { g with stack := rest }).pushFrame (.throwing q))) := by
  obtain ⟨mk, hnamed⟩ := Cond.code_named hcode
  obtain ⟨methM, cM, hmethM, -, -, -, -, -, -, hsigM⟩ := Cond.code_spec hnamed hcode
  have hstatic : methM.isStatic = true := Cond.static_spec hnamed hmethM hstat
  obtain ⟨kP, hkP, -⟩ := className_of_methodNamed hnamed
  have hinitP : kP.init = .initialized := Cond.initialized_spec (findClass_of_methodNamed hnamed) hkP hinit
  obtain ⟨vm₁, X₁, hstep₁⟩ := X.invokestaticNest hexec hown hlink hnamed hmethM hstatic hkP hinitP hy (g := g) hg (argsL := argsL) (rest := rest) (hlen _ hsigM) hstack hdg
  rcases hK m meth c ⟨T.setVm vm₁, locs, cells, slots⟩ { g with stack := rest } (.invokestatic index) mk argsL.toArray X₁ hg hsize hdg hW (X₁.named hnamed) (hpre vm₁ X₁.warmed) with ⟨v, B, X', hpost, hsteps⟩ | ⟨q, B, X', hpost, hsteps⟩
  · exact Or.inl ⟨v, vm₁, B, X₁.warmed, X', hpost, fun target h => hstep₁ _ fun acts => by rw [doInvoke_state]; exact hsteps.trans h⟩
  · exact Or.inr ⟨q, vm₁, B, X₁.warmed, X', hpost, hstep₁ _ fun acts => by rw [doInvoke_state]; exact hsteps⟩
theorem vx_runVN {y : MethodName} {bytes cc : ByteArray} {maxL nL mc ms n index : Nat} {ret : Option FieldType} {ws : List Cond} {rm : Room} {Pc : Array Value → State → Prop} {Qc : Array Value → State → Outcome → State → Prop} {XC : String → State → State → Prop} {free : Addr → Prop} {Ts : List Cond} {own C host : String} {b : Addr} {As rest : List Value} {g : JFrame}
    (S : CallFix p m c cc nL s args Ts own) (hM : vx_Met l y ws rm Pc Qc XC mc ms free) (cw : va_CN R s args own index y host bytes maxL ret ws rm mc ms n ∧ (Cond.instanceMethod y).before args s = true ∧ (Cond.selects C y y).before args s = true) (hp : PreV s H C b Pc As)
    (hg : g.method = m) (hn : As.length = n) (hsize : g.locals.size = nL) (hstack : g.stack = As.reverse ++ .ref b :: rest) (hW : 2 * g.monitorRoom + (rest.map fun v => v.category).sum ≤ 8) (hdg : decode cc g.pc = .ok (.invokevirtual index, 3)) (hf : cells + mc ≤ R.cells ∧ slots + ms ≤ R.slots) :
    vx_Run p l e R s m args below meth c H locs cells slots mc ms g rest (Qc (Value.ref b :: As).toArray) XC free := by
  obtain ⟨⟨⟨hrc, hrs, hfr, hlo, hws, hcw⟩, hcode, hini, hy, hlen, hl⟩, hx1, hx2⟩ := cw
  have hK : vx_Back l R p e below s args y 3 8 (PreOf R mc ms Pc) (PostOf Qc mc ms free) (vx_Post XC mc ms free) := vx_back (bytes := bytes) (maxL := maxL) (ret := ret) hM hp.1 hrc hrs hfr hlo hws hcw (fun a' U hW => word_at hW (Or.inl (by first | rfl | simp [Cond.onTables, Cond.keeps, Cond.steady])) hini)
  obtain ⟨hx, hb, hml, ho, -⟩ := S
  obtain ⟨-, ⟨cellB, hcB, hoB, hclB⟩, hPc⟩ := hp
  intro T hT X
  rcases vx_callVN X hx (C := C) (bytes := bytes) (maxL := maxL) (ret := ret) ho hl hx1 hx2 hcode hy hK (by rw [hT]; exact hcB) hoB hclB hg (hsize.trans hml.symm) (argsL := As) (rest := rest) (fun sig h => hn.trans (hlen sig h)) hstack hW (by rw [hb]; exact hdg)
    (fun vm₁ hW₁ => ⟨hf.1, hf.2, hPc (T.setVm vm₁) hT hW₁⟩) with ⟨v, vm₁, ⟨U', l2, c2, s2⟩, hW₁, X', ⟨g', mk, t, L, e1, e2, hq, h1, hL, h2, h3⟩, st⟩ | ⟨q, vm₁, ⟨U', l2, c2, s2⟩, hW₁, X', ⟨g', mk, t, L, E, ce, e1, e2, hq, hce, hcv, hcl, h1, hL, h2, h3⟩, st⟩
  · dsimp only [Pt.U, Pt.locs, Pt.cells, Pt.slots] at X' e1 e2 h1 h2 h3 st
    subst h1; subst h2; subst h3
    exact Or.inl ⟨v, (T.setVm vm₁).calling g' mk (Value.ref b :: As).toArray, t, U', L, hT, X', hL, e1, e2, hq, st⟩
  · dsimp only [Pt.U, Pt.locs, Pt.cells, Pt.slots] at X' e1 e2 h1 h2 h3 st hcl
    subst h1; subst h2; subst h3
    exact Or.inr ⟨q, (T.setVm vm₁).calling g' mk (Value.ref b :: As).toArray, t, U', L, E, ce, hT, X', hL, e1, e2, hq, hce, hcv, vx_cls hW₁ hcl, st⟩
theorem vx_runSN {y : MethodName} {bytes cc : ByteArray} {maxL nL mc ms n index : Nat} {ret : Option FieldType} {ws : List Cond} {rm : Room} {Pc : Array Value → State → Prop} {Qc : Array Value → State → Outcome → State → Prop} {XC : String → State → State → Prop} {free : Addr → Prop} {Ts : List Cond} {own host : String} {As rest : List Value} {g : JFrame}
    (S : CallFix p m c cc nL s args Ts own) (hM : vx_Met l y ws rm Pc Qc XC mc ms free) (cw : va_CN R s args own index y host bytes maxL ret ws rm mc ms n ∧ (Cond.static y).before args s = true ∧ True) (hp : PreS s H Pc As)
    (hg : g.method = m) (hn : As.length = n) (hsize : g.locals.size = nL) (hstack : g.stack = As.reverse ++ rest) (hW : 2 * g.monitorRoom + (rest.map fun v => v.category).sum ≤ 8) (hdg : decode cc g.pc = .ok (.invokestatic index, 3)) (hf : cells + mc ≤ R.cells ∧ slots + ms ≤ R.slots) :
    vx_Run p l e R s m args below meth c H locs cells slots mc ms g rest (Qc As.toArray) XC free := by
  obtain ⟨⟨⟨hrc, hrs, hfr, hlo, hws, hcw⟩, hcode, hini, hy, hlen, hl⟩, hx1, hx2⟩ := cw
  have hK : vx_Back l R p e below s args y 3 8 (PreOf R mc ms Pc) (PostOf Qc mc ms free) (vx_Post XC mc ms free) := vx_back (bytes := bytes) (maxL := maxL) (ret := ret) hM hp.1 hrc hrs hfr hlo hws hcw (fun a' U hW => word_at hW (Or.inl (by first | rfl | simp [Cond.onTables, Cond.keeps, Cond.steady])) hini)
  obtain ⟨hx, hb, hml, ho, -⟩ := S
  have hPc := hp.2
  intro T hT X
  rcases vx_callSN X hx (bytes := bytes) (maxL := maxL) (ret := ret) ho hl hx1 hini hcode hy hK hg (hsize.trans hml.symm) (argsL := As) (rest := rest) (fun sig h => hn.trans (hlen sig h)) hstack hW (by rw [hb]; exact hdg)
    (fun vm₁ hW₁ => ⟨hf.1, hf.2, hPc (T.setVm vm₁) hT hW₁⟩) with ⟨v, vm₁, ⟨U', l2, c2, s2⟩, hW₁, X', ⟨g', mk, t, L, e1, e2, hq, h1, hL, h2, h3⟩, st⟩ | ⟨q, vm₁, ⟨U', l2, c2, s2⟩, hW₁, X', ⟨g', mk, t, L, E, ce, e1, e2, hq, hce, hcv, hcl, h1, hL, h2, h3⟩, st⟩
  · dsimp only [Pt.U, Pt.locs, Pt.cells, Pt.slots] at X' e1 e2 h1 h2 h3 st
    subst h1; subst h2; subst h3
    exact Or.inl ⟨v, (T.setVm vm₁).calling g' mk As.toArray, t, U', L, hT, X', hL, e1, e2, hq, st⟩
  · dsimp only [Pt.U, Pt.locs, Pt.cells, Pt.slots] at X' e1 e2 h1 h2 h3 st hcl
    subst h1; subst h2; subst h3
    exact Or.inr ⟨q, (T.setVm vm₁).calling g' mk As.toArray, t, U', L, E, ce, hT, X', hL, e1, e2, hq, hce, hcv, vx_cls hW₁ hcl, st⟩
end
/-! ===== END ===== -/
/-! ===== BEGIN calls by an interface of methods that may throw (vx_callIF, vx_runF follow va_callIF, va_runF of this kit) ===== -/
section
variable {p : Program} {l : Launch} {e : Env} {R : Room} {s : State} {m : MethodId} {args : Array Value} {below : List Frame} {meth : Method} {c : Code} {H : Heap} {locs : List Loc} {cells slots : Nat} {Q : State → Prop}
variable {mc ms : Nat} {free : Addr → Prop} {A0 A1 : Nat → Prop} {H0 : Heap} {a : Array Value} {pc : Nat} {ls : Array Slot} {st0 rest : List Value}
def vx_Run5 (p : Program) (l : Launch) (e : Env) (R : Room) (s : State) (m : MethodId) (args : Array Value) (below : List Frame) (meth : Method) (c : Code) (H : Heap) (locs : List Loc) (cells slots mc ms : Nat) (g : JFrame) (rest : List Value) (Qa : State → Outcome → State → Prop) (XC : String → State → State → Prop) (free : Addr → Prop) : Prop :=
  ∀ T : State, T.heap = H → Stand p l e R s m args below meth c T locs cells slots →
    (∃ (v : Option Value) (st₀ t T' : State) (L : List Loc), st₀.heap = H ∧ Stand p l e R s m args below meth c T' (locs ++ L) (cells + mc) (slots + ms) ∧ (∀ q ∈ L, free q.base) ∧ T'.heap = t.heap ∧ T'.vm = t.vm ∧ Qa st₀ (.returned v) t ∧
      Goes p e below T g T' { g with pc := g.pc + 5, stack := v.toList ++ rest }) ∨
    (∃ (q : Addr) (st₀ t T' : State) (L : List Loc) (E : String) (ce : Cell), st₀.heap = H ∧ Stand p l e R s m args below meth c T' (locs ++ L) (cells + mc) (slots + ms) ∧ (∀ z ∈ L, free z.base) ∧ T'.heap = t.heap ∧ T'.vm = t.vm ∧ XC E st₀ t ∧ t.heap[q]? = some ce ∧ ce.vm = .none ∧ s.vm.findClass E = some ce.cls ∧
      Steps p.tables e below (T.setTop g) ((T'.setTop { g with stack := rest }).pushFrame (.throwing q)))
theorem vx_callIF {T : State} (X : Stand p l e R s m args below meth c T locs cells slots) (hexec : p.tables.exec = Jvm.exec) {own C : String} {index count : Nat} {x y : MethodName} {bytes : ByteArray} {maxL : Nat} {ret : Option FieldType}
    (hown : s.vm.findClass own = some m.cls) (hlink : (Cond.methodLink own index x).before args s = true) (hdecl : (Cond.declares x).before args s = true) (hface : (Cond.interfaceMethod x.cls x.cls x.name x.desc).before args s = true)
    (hsel : (Cond.selects C x y).before args s = true) (hinst : (Cond.instanceMethod y).before args s = true) (hpub : (Cond.publicMethod y).before args s = true) (hunh : (Cond.unhidden C x.name x.desc).before args s = true)
    (hcast : (Cond.castable C x.cls).before args s = true) (hcode : (Cond.code y bytes maxL ret).before args s = true) (hx : x.cls ≠ "java/lang/invoke/MethodHandle" ∧ x.cls ≠ "java/lang/invoke/VarHandle")
    {W9 : Nat} {Pre : Pt → Array Value → Prop} {Post : Pt → Array Value → Option Value → Pt → Prop} {PostX : Pt → Array Value → Addr → Pt → Prop} (hK : vx_Back l R p e below s args y 5 W9 Pre Post PostX)
    {b : Addr} {cellB : Cell} {kB : Class} (hcell : T.heap[b]? = some cellB) (hobj : cellB.vm.isStatics = false) (hcls : s.vm.findClass C = some cellB.cls) (hkB : s.vm.classes[cellB.cls]? = some kB)
    {g : JFrame} (hg : g.method = m) (hsize : g.locals.size = c.maxLocals) {argsL rest : List Value} (hlen : ∀ sig, parseMethodDescriptor x.desc = some sig → argsL.length = sig.parameters.length)
    (hstack : g.stack = argsL.reverse ++ .ref b :: rest) (hW : 2 * g.monitorRoom + (rest.map fun v => v.category).sum ≤ W9) (hdg : decode c.code g.pc = .ok (.invokeinterface index count, 5))
    (hpre : ∀ vm₁, s.WarmedH vm₁ → Pre ⟨T.setVm vm₁, locs, cells, slots⟩ (Value.ref b :: argsL).toArray) :
    (∃ (v : Option Value) (vm₁ : Vm) (B : Pt), s.WarmedH vm₁ ∧ Stand p l e R s m args below meth c B.U B.locs B.cells B.slots ∧ Post ⟨T.setVm vm₁, locs, cells, slots⟩ (Value.ref b :: argsL).toArray v B ∧
      ∀ target, Steps p.tables e below (B.U.setTop { g with pc := g.pc + 5, stack := v.toList ++ rest }) target → Steps p.tables e below (T.setTop g) target) ∨
    (∃ (q : Addr) (vm₁ : Vm) (B : Pt), s.WarmedH vm₁ ∧ Stand p l e R s m args below meth c B.U B.locs B.cells B.slots ∧ PostX ⟨T.setVm vm₁, locs, cells, slots⟩ (Value.ref b :: argsL).toArray q B ∧
      Steps p.tables e below (T.setTop g) ((B.U.setTop { g with stack := rest }).pushFrame (.throwing q))) := by
  obtain ⟨r0, r, hn, hrm, hstR, hsigR⟩ := Cond.declares_spec hdecl
  obtain ⟨cL, kL, r1, hcL, hkL, hiL, hfoundL, hn1⟩ := Cond.interfaceMethod_spec hface
  cases hn.symm.trans hn1
  have hr0cls : r0.cls = cL := Option.some.inj ((findClass_of_methodNamed hn).symm.trans hcL)
  obtain ⟨hnameR, hdescR⟩ := name_of_methodNamed hn hrm
  obtain ⟨mk, methM, hnamed, hmethM, -, habM⟩ := Cond.instanceMethod_spec hinst
  obtain ⟨c2, r2, m2, q1, q2, q3, q4, -⟩ := Cond.selects_spec hsel
  cases hcls.symm.trans q1
  cases hfoundL.symm.trans q2
  cases hnamed.symm.trans q3
  have hselP : selectMethod e.platform s.vm cellB.cls r0 = .method mk := by rw [Launch.admits_selectMethod X.admits]; exact q4
  have hpubM : hasFlag methM.accessFlags Acc.public_ = true := Cond.publicMethod_spec hnamed hmethM hpub
  have hway : ((cellB.cls :: s.vm.superclasses cellB.cls).any fun k => (declaredIn s.vm r.name r.desc k).any fun (_, z) => z.isPrivate || z.isStatic) = false := by
    rw [hnameR, hdescR]; exact Cond.unhidden_spec hcls hunh
  obtain ⟨c3, t3, w1, w2, w3⟩ := Cond.castable_spec hcast
  cases hcls.symm.trans w1
  cases hcL.symm.trans w2
  obtain ⟨vm₁, X₁, hstep₁⟩ := X.invokeinterface hexec hown hlink hn hrm hstR (by rw [hr0cls]; exact hkL) hiL hx (a := b) (cell := cellB) (kcell := kB) hcell
    (fun z h => by rw [h] at hobj; cases hobj) hkB (by rw [hr0cls]; exact w3) hselP hmethM hway hpubM habM (g := g) hg (argsL := argsL) (rest := rest) (hlen _ hsigR) hstack hdg
  rcases hK m meth c ⟨T.setVm vm₁, locs, cells, slots⟩ { g with stack := rest } (.invokeinterface index count) mk (Value.ref b :: argsL).toArray X₁ hg hsize hdg hW (X₁.named hnamed) (hpre vm₁ X₁.warmed) with ⟨v, B, X', hpost, hsteps⟩ | ⟨q, B, X', hpost, hsteps⟩
  · exact Or.inl ⟨v, vm₁, B, X₁.warmed, X', hpost, fun target h => hstep₁ _ fun acts => by rw [doInvoke_state]; exact hsteps.trans h⟩
  · exact Or.inr ⟨q, vm₁, B, X₁.warmed, X', hpost, hstep₁ _ fun acts => by rw [doInvoke_state]; exact hsteps⟩
theorem vx_runF {x y : MethodName} {bytes cc : ByteArray} {maxL nL mc ms n index count : Nat} {ret : Option FieldType} {ws : List Cond} {rm : Room} {Pc : Array Value → State → Prop} {Qc : Array Value → State → Outcome → State → Prop} {XC : String → State → State → Prop} {free : Addr → Prop} {Ts : List Cond} {own C : String} {cC : ClassId} {b : Addr} {As rest : List Value} {g : JFrame}
    (hat : ClassAt s C cC) (S : CallFix p m c cc nL s args Ts own) (hM : vx_Met l y ws rm Pc Qc XC mc ms free) (cw : va_CI R s args own C index x y bytes maxL ret ws rm mc ms n) (hp : PreV s H C b Pc As)
    (hg : g.method = m) (hn : As.length = n) (hsize : g.locals.size = nL) (hstack : g.stack = As.reverse ++ .ref b :: rest) (hW : 2 * g.monitorRoom + (rest.map fun v => v.category).sum ≤ 8) (hdg : decode cc g.pc = .ok (.invokeinterface index count, 5)) (hf : cells + mc ≤ R.cells ∧ slots + ms ≤ R.slots) :
    vx_Run5 p l e R s m args below meth c H locs cells slots mc ms g rest (Qc (Value.ref b :: As).toArray) XC free := by
  obtain ⟨hrc, hrs, hfr, hlo, hws, hcw⟩ := cw.back
  have hini := cw.init
  have hK : vx_Back l R p e below s args y 5 8 (PreOf R mc ms Pc) (PostOf Qc mc ms free) (vx_Post XC mc ms free) := vx_back (bytes := bytes) (maxL := maxL) (ret := ret) hM hp.1 hrc hrs hfr hlo hws hcw (fun a' U hW => word_at hW (Or.inl (by first | rfl | simp [Cond.onTables, Cond.keeps, Cond.steady])) hini)
  obtain ⟨hx, hb, hml, ho, -⟩ := S
  obtain ⟨-, ⟨cellB, hcB, hoB, hclB⟩, hPc⟩ := hp
  obtain ⟨hfc, kB, hkB, -⟩ := hat
  cases hfc.symm.trans hclB
  intro T hT X
  rcases vx_callIF X hx (C := C) (bytes := bytes) (maxL := maxL) (ret := ret) ho cw.link cw.decl cw.face cw.sel cw.inst cw.pub cw.unh cw.cast cw.code cw.notMH hK (by rw [hT]; exact hcB) hoB hclB hkB hg (hsize.trans hml.symm) (argsL := As) (rest := rest) (fun sig h => hn.trans (cw.len sig h)) hstack hW (by rw [hb]; exact hdg)
    (fun vm₁ hW₁ => ⟨hf.1, hf.2, hPc (T.setVm vm₁) hT hW₁⟩) with ⟨v, vm₁, ⟨U', l2, c2, s2⟩, hW₁, X', ⟨g', mk, t, L, e1, e2, hq, h1, hL, h2, h3⟩, st⟩ | ⟨q, vm₁, ⟨U', l2, c2, s2⟩, hW₁, X', ⟨g', mk, t, L, E, ce, e1, e2, hq, hce, hcv, hcl, h1, hL, h2, h3⟩, st⟩
  · dsimp only [Pt.U, Pt.locs, Pt.cells, Pt.slots] at X' e1 e2 h1 h2 h3 st
    subst h1; subst h2; subst h3
    exact Or.inl ⟨v, (T.setVm vm₁).calling g' mk (Value.ref b :: As).toArray, t, U', L, hT, X', hL, e1, e2, hq, st⟩
  · dsimp only [Pt.U, Pt.locs, Pt.cells, Pt.slots] at X' e1 e2 h1 h2 h3 st hcl
    subst h1; subst h2; subst h3
    exact Or.inr ⟨q, (T.setVm vm₁).calling g' mk (Value.ref b :: As).toArray, t, U', L, E, ce, hT, X', hL, e1, e2, hq, hce, hcv, vx_cls hW₁ hcl, st⟩
theorem vx_callFv {S SX : Type} {post : S → Prop} {px : SX → Prop} {B : S → State → Prop} {BX : String → SX → State → Prop} {AX : Nat → Prop} (hr : vx_Run5 p l e R s m args below meth c H locs cells slots mc ms (F0 m pc ls st0) rest (va_Qv post B A1 a) (vx_X px BX AX) free) (hS : va_S A0 H0 H locs) (hA : ∀ q, q < H.size → A1 q → A0 q) (hf : ∀ q, free q → A0 q) (hAX : ∀ q, q < H.size → AX q → A0 q)
    (kx : ∀ (E : String) (ce : Cell) (q9 : Addr) (u : SX) (t : State) (H1 : Heap) (locs1 : List Loc), t.heap = H1 → s.vm.Alike t.vm → px u → BX E u t → H.size ≤ H1.size → (∀ q : Nat, q < H.size → ¬ AX q → H1[q]? = H[q]?) → va_S A0 H0 H1 locs1 → H1[q9]? = some ce → ce.vm = .none → s.vm.findClass E = some ce.cls → vx_W p l e R s m args below meth c H1 locs1 (cells + mc) (slots + ms) Q (F0 m pc ls rest) q9)
    (kk : ∀ (u : S) (t : State) (H1 : Heap) (locs1 : List Loc), t.heap = H1 → s.vm.Alike t.vm → post u → B u t → H.size ≤ H1.size → (∀ q : Nat, q < H.size → ¬ A1 q → H1[q]? = H[q]?) → va_S A0 H0 H1 locs1 → W p l e R s m args below meth c H1 locs1 (cells + mc) (slots + ms) Q (F0 m (pc + 5) ls (rest))) : W p l e R s m args below meth c H locs cells slots Q (F0 m pc ls st0) := by
  intro T hT X
  rcases hr T hT X with ⟨v, st₀, t, T', L, h0, X', hL, e1, e2, ⟨⟨u, hv, hp, hb⟩, hF⟩, st⟩ | ⟨q, st₀, t, T', L, E, ce, h0, X', hL, e1, e2, ⟨u, hp, hb, hF⟩, hce, hcv, hcl, st⟩
  · cases hv
    obtain ⟨k1, k2, k3⟩ := vx_keep h0 e1 hS hA hf hL hF
    obtain ⟨t2, a1, b1⟩ := kk u t T'.heap (locs ++ L) e1.symm (by rw [← e2]; exact X'.warmed.alike) hp hb k1 k2 k3 T' rfl X'
    exact ⟨t2, st t2 a1, b1⟩
  · obtain ⟨k1, k2, k3⟩ := vx_keep h0 e1 hS hAX hf hL hF
    obtain ⟨t2, a1, b1⟩ := kx E ce q u t T'.heap (locs ++ L) e1.symm (by rw [← e2]; exact X'.warmed.alike) hp hb k1 k2 k3 (by rw [e1]; exact hce) hcv hcl T' rfl X'
    exact ⟨t2, st.trans a1, b1⟩
theorem vx_callFi {S SX : Type} {post : Int32 → S → Prop} {px : SX → Prop} {B : S → State → Prop} {BX : String → SX → State → Prop} {AX : Nat → Prop} (hr : vx_Run5 p l e R s m args below meth c H locs cells slots mc ms (F0 m pc ls st0) rest (va_Qi post B A1 a) (vx_X px BX AX) free) (hS : va_S A0 H0 H locs) (hA : ∀ q, q < H.size → A1 q → A0 q) (hf : ∀ q, free q → A0 q) (hAX : ∀ q, q < H.size → AX q → A0 q)
    (kx : ∀ (E : String) (ce : Cell) (q9 : Addr) (u : SX) (t : State) (H1 : Heap) (locs1 : List Loc), t.heap = H1 → s.vm.Alike t.vm → px u → BX E u t → H.size ≤ H1.size → (∀ q : Nat, q < H.size → ¬ AX q → H1[q]? = H[q]?) → va_S A0 H0 H1 locs1 → H1[q9]? = some ce → ce.vm = .none → s.vm.findClass E = some ce.cls → vx_W p l e R s m args below meth c H1 locs1 (cells + mc) (slots + ms) Q (F0 m pc ls rest) q9)
    (kk : ∀ (r : Int32) (u : S) (t : State) (H1 : Heap) (locs1 : List Loc), t.heap = H1 → s.vm.Alike t.vm → post r u → B u t → H.size ≤ H1.size → (∀ q : Nat, q < H.size → ¬ A1 q → H1[q]? = H[q]?) → va_S A0 H0 H1 locs1 → W p l e R s m args below meth c H1 locs1 (cells + mc) (slots + ms) Q (F0 m (pc + 5) ls (.int r :: rest))) : W p l e R s m args below meth c H locs cells slots Q (F0 m pc ls st0) := by
  intro T hT X
  rcases hr T hT X with ⟨v, st₀, t, T', L, h0, X', hL, e1, e2, ⟨⟨r, u, hv, hp, hb⟩, hF⟩, st⟩ | ⟨q, st₀, t, T', L, E, ce, h0, X', hL, e1, e2, ⟨u, hp, hb, hF⟩, hce, hcv, hcl, st⟩
  · cases hv
    obtain ⟨k1, k2, k3⟩ := vx_keep h0 e1 hS hA hf hL hF
    obtain ⟨t2, a1, b1⟩ := kk r u t T'.heap (locs ++ L) e1.symm (by rw [← e2]; exact X'.warmed.alike) hp hb k1 k2 k3 T' rfl X'
    exact ⟨t2, st t2 a1, b1⟩
  · obtain ⟨k1, k2, k3⟩ := vx_keep h0 e1 hS hAX hf hL hF
    obtain ⟨t2, a1, b1⟩ := kx E ce q u t T'.heap (locs ++ L) e1.symm (by rw [← e2]; exact X'.warmed.alike) hp hb k1 k2 k3 (by rw [e1]; exact hce) hcv hcl T' rfl X'
    exact ⟨t2, st.trans a1, b1⟩
theorem vx_callFl {S SX : Type} {post : Int64 → S → Prop} {px : SX → Prop} {B : S → State → Prop} {BX : String → SX → State → Prop} {AX : Nat → Prop} (hr : vx_Run5 p l e R s m args below meth c H locs cells slots mc ms (F0 m pc ls st0) rest (va_Ql post B A1 a) (vx_X px BX AX) free) (hS : va_S A0 H0 H locs) (hA : ∀ q, q < H.size → A1 q → A0 q) (hf : ∀ q, free q → A0 q) (hAX : ∀ q, q < H.size → AX q → A0 q)
    (kx : ∀ (E : String) (ce : Cell) (q9 : Addr) (u : SX) (t : State) (H1 : Heap) (locs1 : List Loc), t.heap = H1 → s.vm.Alike t.vm → px u → BX E u t → H.size ≤ H1.size → (∀ q : Nat, q < H.size → ¬ AX q → H1[q]? = H[q]?) → va_S A0 H0 H1 locs1 → H1[q9]? = some ce → ce.vm = .none → s.vm.findClass E = some ce.cls → vx_W p l e R s m args below meth c H1 locs1 (cells + mc) (slots + ms) Q (F0 m pc ls rest) q9)
    (kk : ∀ (r : Int64) (u : S) (t : State) (H1 : Heap) (locs1 : List Loc), t.heap = H1 → s.vm.Alike t.vm → post r u → B u t → H.size ≤ H1.size → (∀ q : Nat, q < H.size → ¬ A1 q → H1[q]? = H[q]?) → va_S A0 H0 H1 locs1 → W p l e R s m args below meth c H1 locs1 (cells + mc) (slots + ms) Q (F0 m (pc + 5) ls (.long r :: rest))) : W p l e R s m args below meth c H locs cells slots Q (F0 m pc ls st0) := by
  intro T hT X
  rcases hr T hT X with ⟨v, st₀, t, T', L, h0, X', hL, e1, e2, ⟨⟨r, u, hv, hp, hb⟩, hF⟩, st⟩ | ⟨q, st₀, t, T', L, E, ce, h0, X', hL, e1, e2, ⟨u, hp, hb, hF⟩, hce, hcv, hcl, st⟩
  · cases hv
    obtain ⟨k1, k2, k3⟩ := vx_keep h0 e1 hS hA hf hL hF
    obtain ⟨t2, a1, b1⟩ := kk r u t T'.heap (locs ++ L) e1.symm (by rw [← e2]; exact X'.warmed.alike) hp hb k1 k2 k3 T' rfl X'
    exact ⟨t2, st t2 a1, b1⟩
  · obtain ⟨k1, k2, k3⟩ := vx_keep h0 e1 hS hAX hf hL hF
    obtain ⟨t2, a1, b1⟩ := kx E ce q u t T'.heap (locs ++ L) e1.symm (by rw [← e2]; exact X'.warmed.alike) hp hb k1 k2 k3 (by rw [e1]; exact hce) hcv hcl T' rfl X'
    exact ⟨t2, st.trans a1, b1⟩
theorem vx_callFf {S SX : Type} {post : UInt32 → S → Prop} {px : SX → Prop} {B : S → State → Prop} {BX : String → SX → State → Prop} {AX : Nat → Prop} (hr : vx_Run5 p l e R s m args below meth c H locs cells slots mc ms (F0 m pc ls st0) rest (va_Qf post B A1 a) (vx_X px BX AX) free) (hS : va_S A0 H0 H locs) (hA : ∀ q, q < H.size → A1 q → A0 q) (hf : ∀ q, free q → A0 q) (hAX : ∀ q, q < H.size → AX q → A0 q)
    (kx : ∀ (E : String) (ce : Cell) (q9 : Addr) (u : SX) (t : State) (H1 : Heap) (locs1 : List Loc), t.heap = H1 → s.vm.Alike t.vm → px u → BX E u t → H.size ≤ H1.size → (∀ q : Nat, q < H.size → ¬ AX q → H1[q]? = H[q]?) → va_S A0 H0 H1 locs1 → H1[q9]? = some ce → ce.vm = .none → s.vm.findClass E = some ce.cls → vx_W p l e R s m args below meth c H1 locs1 (cells + mc) (slots + ms) Q (F0 m pc ls rest) q9)
    (kk : ∀ (r : UInt32) (u : S) (t : State) (H1 : Heap) (locs1 : List Loc), t.heap = H1 → s.vm.Alike t.vm → post r u → B u t → H.size ≤ H1.size → (∀ q : Nat, q < H.size → ¬ A1 q → H1[q]? = H[q]?) → va_S A0 H0 H1 locs1 → W p l e R s m args below meth c H1 locs1 (cells + mc) (slots + ms) Q (F0 m (pc + 5) ls (.float r :: rest))) : W p l e R s m args below meth c H locs cells slots Q (F0 m pc ls st0) := by
  intro T hT X
  rcases hr T hT X with ⟨v, st₀, t, T', L, h0, X', hL, e1, e2, ⟨⟨r, u, hv, hp, hb⟩, hF⟩, st⟩ | ⟨q, st₀, t, T', L, E, ce, h0, X', hL, e1, e2, ⟨u, hp, hb, hF⟩, hce, hcv, hcl, st⟩
  · cases hv
    obtain ⟨k1, k2, k3⟩ := vx_keep h0 e1 hS hA hf hL hF
    obtain ⟨t2, a1, b1⟩ := kk r u t T'.heap (locs ++ L) e1.symm (by rw [← e2]; exact X'.warmed.alike) hp hb k1 k2 k3 T' rfl X'
    exact ⟨t2, st t2 a1, b1⟩
  · obtain ⟨k1, k2, k3⟩ := vx_keep h0 e1 hS hAX hf hL hF
    obtain ⟨t2, a1, b1⟩ := kx E ce q u t T'.heap (locs ++ L) e1.symm (by rw [← e2]; exact X'.warmed.alike) hp hb k1 k2 k3 (by rw [e1]; exact hce) hcv hcl T' rfl X'
    exact ⟨t2, st.trans a1, b1⟩
theorem vx_callFd {S SX : Type} {post : UInt64 → S → Prop} {px : SX → Prop} {B : S → State → Prop} {BX : String → SX → State → Prop} {AX : Nat → Prop} (hr : vx_Run5 p l e R s m args below meth c H locs cells slots mc ms (F0 m pc ls st0) rest (va_Qd post B A1 a) (vx_X px BX AX) free) (hS : va_S A0 H0 H locs) (hA : ∀ q, q < H.size → A1 q → A0 q) (hf : ∀ q, free q → A0 q) (hAX : ∀ q, q < H.size → AX q → A0 q)
    (kx : ∀ (E : String) (ce : Cell) (q9 : Addr) (u : SX) (t : State) (H1 : Heap) (locs1 : List Loc), t.heap = H1 → s.vm.Alike t.vm → px u → BX E u t → H.size ≤ H1.size → (∀ q : Nat, q < H.size → ¬ AX q → H1[q]? = H[q]?) → va_S A0 H0 H1 locs1 → H1[q9]? = some ce → ce.vm = .none → s.vm.findClass E = some ce.cls → vx_W p l e R s m args below meth c H1 locs1 (cells + mc) (slots + ms) Q (F0 m pc ls rest) q9)
    (kk : ∀ (r : UInt64) (u : S) (t : State) (H1 : Heap) (locs1 : List Loc), t.heap = H1 → s.vm.Alike t.vm → post r u → B u t → H.size ≤ H1.size → (∀ q : Nat, q < H.size → ¬ A1 q → H1[q]? = H[q]?) → va_S A0 H0 H1 locs1 → W p l e R s m args below meth c H1 locs1 (cells + mc) (slots + ms) Q (F0 m (pc + 5) ls (.double r :: rest))) : W p l e R s m args below meth c H locs cells slots Q (F0 m pc ls st0) := by
  intro T hT X
  rcases hr T hT X with ⟨v, st₀, t, T', L, h0, X', hL, e1, e2, ⟨⟨r, u, hv, hp, hb⟩, hF⟩, st⟩ | ⟨q, st₀, t, T', L, E, ce, h0, X', hL, e1, e2, ⟨u, hp, hb, hF⟩, hce, hcv, hcl, st⟩
  · cases hv
    obtain ⟨k1, k2, k3⟩ := vx_keep h0 e1 hS hA hf hL hF
    obtain ⟨t2, a1, b1⟩ := kk r u t T'.heap (locs ++ L) e1.symm (by rw [← e2]; exact X'.warmed.alike) hp hb k1 k2 k3 T' rfl X'
    exact ⟨t2, st t2 a1, b1⟩
  · obtain ⟨k1, k2, k3⟩ := vx_keep h0 e1 hS hAX hf hL hF
    obtain ⟨t2, a1, b1⟩ := kx E ce q u t T'.heap (locs ++ L) e1.symm (by rw [← e2]; exact X'.warmed.alike) hp hb k1 k2 k3 (by rw [e1]; exact hce) hcv hcl T' rfl X'
    exact ⟨t2, st.trans a1, b1⟩
end
/-! ===== END ===== -/
/-! ===== BEGIN by an interface, a method with a table of its own that may throw (follows va_callIFW, va_runFW) ===== -/
section
variable {p : Program} {l : Launch} {e : Env} {R : Room} {s : State} {m : MethodId} {args : Array Value} {below : List Frame} {meth : Method} {c : Code} {H : Heap} {locs : List Loc} {cells slots : Nat}
theorem vx_callIFW {T : State} (X : Stand p l e R s m args below meth c T locs cells slots) (hexec : p.tables.exec = Jvm.exec) {own C : String} {index count : Nat} {x y : MethodName} {bytes : ByteArray} {maxL : Nat} {ret : Option FieldType} {hh : List (Nat × Nat × Nat × Nat)}
    (hown : s.vm.findClass own = some m.cls) (hlink : (Cond.methodLink own index x).before args s = true) (hdecl : (Cond.declares x).before args s = true) (hface : (Cond.interfaceMethod x.cls x.cls x.name x.desc).before args s = true)
    (hsel : (Cond.selects C x y).before args s = true) (hinst : (Cond.instanceMethod y).before args s = true) (hpub : (Cond.publicMethod y).before args s = true) (hunh : (Cond.unhidden C x.name x.desc).before args s = true)
    (hcast : (Cond.castable C x.cls).before args s = true) (hcode : (Cond.codeWith y bytes maxL ret hh).before args s = true) (hx : x.cls ≠ "java/lang/invoke/MethodHandle" ∧ x.cls ≠ "java/lang/invoke/VarHandle")
    {W : Nat} {Pre : Pt → Array Value → Prop} {Post : Pt → Array Value → Option Value → Pt → Prop} {PostX : Pt → Array Value → Addr → Pt → Prop} (hK : vx_Back l R p e below s args y 5 W Pre Post PostX)
    {b : Addr} {cellB : Cell} {kB : Class} (hcell : T.heap[b]? = some cellB) (hobj : cellB.vm.isStatics = false) (hcls : s.vm.findClass C = some cellB.cls) (hkB : s.vm.classes[cellB.cls]? = some kB)
    {g : JFrame} (hg : g.method = m) (hsize : g.locals.size = c.maxLocals) {argsL rest : List Value} (hlen : ∀ sig, parseMethodDescriptor x.desc = some sig → argsL.length = sig.parameters.length)
    (hstack : g.stack = argsL.reverse ++ .ref b :: rest) (hW : 2 * g.monitorRoom + (rest.map fun v => v.category).sum ≤ W) (hdg : decode c.code g.pc = .ok (.invokeinterface index count, 5))
    (hpre : ∀ vm₁, s.WarmedH vm₁ → Pre ⟨T.setVm vm₁, locs, cells, slots⟩ (Value.ref b :: argsL).toArray) :
    (∃ (v : Option Value) (vm₁ : Vm) (B : Pt), s.WarmedH vm₁ ∧ Stand p l e R s m args below meth c B.U B.locs B.cells B.slots ∧ Post ⟨T.setVm vm₁, locs, cells, slots⟩ (Value.ref b :: argsL).toArray v B ∧
      ∀ target, Steps p.tables e below (B.U.setTop { g with pc := g.pc + 5, stack := v.toList ++ rest }) target → Steps p.tables e below (T.setTop g) target) ∨
    (∃ (q : Addr) (vm₁ : Vm) (B : Pt), s.WarmedH vm₁ ∧ Stand p l e R s m args below meth c B.U B.locs B.cells B.slots ∧ PostX ⟨T.setVm vm₁, locs, cells, slots⟩ (Value.ref b :: argsL).toArray q B ∧
      Steps p.tables e below (T.setTop g) ((B.U.setTop { g with stack := rest }).pushFrame (.throwing q))) := by
  obtain ⟨r0, r, hn, hrm, hstR, hsigR⟩ := Cond.declares_spec hdecl
  obtain ⟨cL, kL, r1, hcL, hkL, hiL, hfoundL, hn1⟩ := Cond.interfaceMethod_spec hface
  cases hn.symm.trans hn1
  have hr0cls : r0.cls = cL := Option.some.inj ((findClass_of_methodNamed hn).symm.trans hcL)
  obtain ⟨hnameR, hdescR⟩ := name_of_methodNamed hn hrm
  obtain ⟨mk, methM, hnamed, hmethM, -, habM⟩ := Cond.instanceMethod_spec hinst
  obtain ⟨c2, r2, m2, q1, q2, q3, q4, -⟩ := Cond.selects_spec hsel
  cases hcls.symm.trans q1
  cases hfoundL.symm.trans q2
  cases hnamed.symm.trans q3
  have hselP : selectMethod e.platform s.vm cellB.cls r0 = .method mk := by rw [Launch.admits_selectMethod X.admits]; exact q4
  have hpubM : hasFlag methM.accessFlags Acc.public_ = true := Cond.publicMethod_spec hnamed hmethM hpub
  have hway : ((cellB.cls :: s.vm.superclasses cellB.cls).any fun k => (declaredIn s.vm r.name r.desc k).any fun (_, z) => z.isPrivate || z.isStatic) = false := by
    rw [hnameR, hdescR]; exact Cond.unhidden_spec hcls hunh
  obtain ⟨c3, t3, w1, w2, w3⟩ := Cond.castable_spec hcast
  cases hcls.symm.trans w1
  cases hcL.symm.trans w2
  obtain ⟨vm₁, X₁, hstep₁⟩ := X.invokeinterface hexec hown hlink hn hrm hstR (by rw [hr0cls]; exact hkL) hiL hx (a := b) (cell := cellB) (kcell := kB) hcell
    (fun z h => by rw [h] at hobj; cases hobj) hkB (by rw [hr0cls]; exact w3) hselP hmethM hway hpubM habM (g := g) hg (argsL := argsL) (rest := rest) (hlen _ hsigR) hstack hdg
  rcases hK m meth c ⟨T.setVm vm₁, locs, cells, slots⟩ { g with stack := rest } (.invokeinterface index count) mk (Value.ref b :: argsL).toArray X₁ hg hsize hdg hW (X₁.named hnamed) (hpre vm₁ X₁.warmed) with ⟨v, B, X', hpost, hsteps⟩ | ⟨q, B, X', hpost, hsteps⟩
  · exact Or.inl ⟨v, vm₁, B, X₁.warmed, X', hpost, fun target h => hstep₁ _ fun acts => by rw [doInvoke_state]; exact hsteps.trans h⟩
  · exact Or.inr ⟨q, vm₁, B, X₁.warmed, X', hpost, hstep₁ _ fun acts => by rw [doInvoke_state]; exact hsteps⟩
theorem vx_runFW {x y : MethodName} {bytes cc : ByteArray} {maxL nL mc ms n index count : Nat} {ret : Option FieldType} {hh : List (Nat × Nat × Nat × Nat)} {ws : List Cond} {rm : Room} {Pc : Array Value → State → Prop} {Qc : Array Value → State → Outcome → State → Prop} {XC : String → State → State → Prop} {free : Addr → Prop} {Ts : List Cond} {own C : String} {cC : ClassId} {b : Addr} {As rest : List Value} {g : JFrame}
    (hat : ClassAt s C cC) (S : CallFix p m c cc nL s args Ts own) (hM : vx_Met l y ws rm Pc Qc XC mc ms free) (cw : va_CIW R s args own C index x y bytes maxL ret hh ws rm mc ms n) (hp : PreV s H C b Pc As)
    (hg : g.method = m) (hn : As.length = n) (hsize : g.locals.size = nL) (hstack : g.stack = As.reverse ++ .ref b :: rest) (hW : 2 * g.monitorRoom + (rest.map fun v => v.category).sum ≤ 8) (hdg : decode cc g.pc = .ok (.invokeinterface index count, 5)) (hf : cells + mc ≤ R.cells ∧ slots + ms ≤ R.slots) :
    vx_Run5 p l e R s m args below meth c H locs cells slots mc ms g rest (Qc (Value.ref b :: As).toArray) XC free := by
  obtain ⟨hrc, hrs, hfr, hlo, hws, hcw⟩ := cw.back
  have hini := cw.init
  have hK : vx_Back l R p e below s args y 5 8 (PreOf R mc ms Pc) (PostOf Qc mc ms free) (vx_Post XC mc ms free) := vx_backW (hh := hh) (bytes := bytes) (maxL := maxL) (ret := ret) hM hp.1 hrc hrs hfr hlo hws hcw (fun a' U hW => word_at hW (Or.inl (by first | rfl | simp [Cond.onTables, Cond.keeps, Cond.steady])) hini)
  obtain ⟨hx, hb, hml, ho, -⟩ := S
  obtain ⟨-, ⟨cellB, hcB, hoB, hclB⟩, hPc⟩ := hp
  obtain ⟨hfc, kB, hkB, -⟩ := hat
  cases hfc.symm.trans hclB
  intro T hT X
  rcases vx_callIFW X hx (C := C) (hh := hh) (bytes := bytes) (maxL := maxL) (ret := ret) ho cw.link cw.decl cw.face cw.sel cw.inst cw.pub cw.unh cw.cast cw.code cw.notMH hK (by rw [hT]; exact hcB) hoB hclB hkB hg (hsize.trans hml.symm) (argsL := As) (rest := rest) (fun sig h => hn.trans (cw.len sig h)) hstack hW (by rw [hb]; exact hdg)
    (fun vm₁ hW₁ => ⟨hf.1, hf.2, hPc (T.setVm vm₁) hT hW₁⟩) with ⟨v, vm₁, ⟨U', l2, c2, s2⟩, hW₁, X', ⟨g', mk, t, L, e1, e2, hq, h1, hL, h2, h3⟩, st⟩ | ⟨q, vm₁, ⟨U', l2, c2, s2⟩, hW₁, X', ⟨g', mk, t, L, E, ce, e1, e2, hq, hce, hcv, hcl, h1, hL, h2, h3⟩, st⟩
  · dsimp only [Pt.U, Pt.locs, Pt.cells, Pt.slots] at X' e1 e2 h1 h2 h3 st
    subst h1; subst h2; subst h3
    exact Or.inl ⟨v, (T.setVm vm₁).calling g' mk (Value.ref b :: As).toArray, t, U', L, hT, X', hL, e1, e2, hq, st⟩
  · dsimp only [Pt.U, Pt.locs, Pt.cells, Pt.slots] at X' e1 e2 h1 h2 h3 st hcl
    subst h1; subst h2; subst h3
    exact Or.inr ⟨q, (T.setVm vm₁).calling g' mk (Value.ref b :: As).toArray, t, U', L, E, ce, hT, X', hL, e1, e2, hq, hce, hcv, vx_cls hW₁ hcl, st⟩
end
/-! ===== END ===== -/
/-! ===== BEGIN .. of methods that hand back an object of the pool ===== -/
section
variable {p : Program} {l : Launch} {e : Env} {R : Room} {s : State} {m : MethodId} {args : Array Value} {below : List Frame} {meth : Method} {c : Code} {H : Heap} {locs : List Loc} {cells slots : Nat} {Q : State → Prop}
variable {mc ms : Nat} {free : Addr → Prop} {A0 A1 : Nat → Prop} {H0 : Heap} {a : Array Value} {pc : Nat} {ls : Array Slot} {st0 rest : List Value}
theorem vx_callq {S SX : Type} {post : Option Nat → S → Prop} {px : SX → Prop} {B : S → State → Prop} {BX : String → SX → State → Prop} {AX : Nat → Prop} (hr : vx_Run p l e R s m args below meth c H locs cells slots mc ms (F0 m pc ls st0) rest (va_Qq post B A1 a) (vx_X px BX AX) free) (hS : va_S A0 H0 H locs) (hA : ∀ q, q < H.size → A1 q → A0 q) (hf : ∀ q, free q → A0 q) (hAX : ∀ q, q < H.size → AX q → A0 q)
    (kx : ∀ (E : String) (ce : Cell) (q9 : Addr) (u : SX) (t : State) (H1 : Heap) (locs1 : List Loc), t.heap = H1 → s.vm.Alike t.vm → px u → BX E u t → H.size ≤ H1.size → (∀ q : Nat, q < H.size → ¬ AX q → H1[q]? = H[q]?) → va_S A0 H0 H1 locs1 → H1[q9]? = some ce → ce.vm = .none → s.vm.findClass E = some ce.cls → vx_W p l e R s m args below meth c H1 locs1 (cells + mc) (slots + ms) Q (F0 m pc ls rest) q9)
    (kk : ∀ (r : Option Nat) (u : S) (t : State) (H1 : Heap) (locs1 : List Loc), t.heap = H1 → s.vm.Alike t.vm → post r u → B u t → H.size ≤ H1.size → (∀ q : Nat, q < H.size → ¬ A1 q → H1[q]? = H[q]?) → va_S A0 H0 H1 locs1 → W p l e R s m args below meth c H1 locs1 (cells + mc) (slots + ms) Q (F0 m (pc + 3) ls (va_rf r :: rest))) : W p l e R s m args below meth c H locs cells slots Q (F0 m pc ls st0) := by
  intro T hT X
  rcases hr T hT X with ⟨v, st₀, t, T', L, h0, X', hL, e1, e2, ⟨⟨r, u, hv, hp, hb⟩, hF⟩, st⟩ | ⟨q, st₀, t, T', L, E, ce, h0, X', hL, e1, e2, ⟨u, hp, hb, hF⟩, hce, hcv, hcl, st⟩
  · cases hv
    obtain ⟨k1, k2, k3⟩ := vx_keep h0 e1 hS hA hf hL hF
    obtain ⟨t2, a1, b1⟩ := kk r u t T'.heap (locs ++ L) e1.symm (by rw [← e2]; exact X'.warmed.alike) hp hb k1 k2 k3 T' rfl X'
    exact ⟨t2, st t2 a1, b1⟩
  · obtain ⟨k1, k2, k3⟩ := vx_keep h0 e1 hS hAX hf hL hF
    obtain ⟨t2, a1, b1⟩ := kx E ce q u t T'.heap (locs ++ L) e1.symm (by rw [← e2]; exact X'.warmed.alike) hp hb k1 k2 k3 (by rw [e1]; exact hce) hcv hcl T' rfl X'
    exact ⟨t2, st.trans a1, b1⟩
end
/-! ===== END ===== -/
/-! ===== BEGIN .. a constant ===== -/
section
variable {p : Program} {l : Launch} {e : Env} {R : Room} {s : State} {m : MethodId} {args : Array Value} {below : List Frame} {meth : Method} {c : Code} {H : Heap} {locs : List Loc} {cells slots : Nat} {Q : State → Prop}
variable {mc ms : Nat} {free : Addr → Prop} {A0 A1 : Nat → Prop} {H0 : Heap} {a : Array Value} {pc : Nat} {ls : Array Slot} {st0 rest : List Value}
theorem vx_calle {ad : Nat → Nat} {S SX : Type} {post : Option Nat → S → Prop} {px : SX → Prop} {B : S → State → Prop} {BX : String → SX → State → Prop} {AX : Nat → Prop} (hr : vx_Run p l e R s m args below meth c H locs cells slots mc ms (F0 m pc ls st0) rest (va_Qe ad post B A1 a) (vx_X px BX AX) free) (hS : va_S A0 H0 H locs) (hA : ∀ q, q < H.size → A1 q → A0 q) (hf : ∀ q, free q → A0 q) (hAX : ∀ q, q < H.size → AX q → A0 q)
    (kx : ∀ (E : String) (ce : Cell) (q9 : Addr) (u : SX) (t : State) (H1 : Heap) (locs1 : List Loc), t.heap = H1 → s.vm.Alike t.vm → px u → BX E u t → H.size ≤ H1.size → (∀ q : Nat, q < H.size → ¬ AX q → H1[q]? = H[q]?) → va_S A0 H0 H1 locs1 → H1[q9]? = some ce → ce.vm = .none → s.vm.findClass E = some ce.cls → vx_W p l e R s m args below meth c H1 locs1 (cells + mc) (slots + ms) Q (F0 m pc ls rest) q9)
    (kk : ∀ (r : Option Nat) (u : S) (t : State) (H1 : Heap) (locs1 : List Loc), t.heap = H1 → s.vm.Alike t.vm → post r u → B u t → H.size ≤ H1.size → (∀ q : Nat, q < H.size → ¬ A1 q → H1[q]? = H[q]?) → va_S A0 H0 H1 locs1 → W p l e R s m args below meth c H1 locs1 (cells + mc) (slots + ms) Q (F0 m (pc + 3) ls (va_re ad r :: rest))) : W p l e R s m args below meth c H locs cells slots Q (F0 m pc ls st0) := by
  intro T hT X
  rcases hr T hT X with ⟨v, st₀, t, T', L, h0, X', hL, e1, e2, ⟨⟨r, u, hv, hp, hb⟩, hF⟩, st⟩ | ⟨q, st₀, t, T', L, E, ce, h0, X', hL, e1, e2, ⟨u, hp, hb, hF⟩, hce, hcv, hcl, st⟩
  · cases hv
    obtain ⟨k1, k2, k3⟩ := vx_keep h0 e1 hS hA hf hL hF
    obtain ⟨t2, a1, b1⟩ := kk r u t T'.heap (locs ++ L) e1.symm (by rw [← e2]; exact X'.warmed.alike) hp hb k1 k2 k3 T' rfl X'
    exact ⟨t2, st t2 a1, b1⟩
  · obtain ⟨k1, k2, k3⟩ := vx_keep h0 e1 hS hAX hf hL hF
    obtain ⟨t2, a1, b1⟩ := kx E ce q u t T'.heap (locs ++ L) e1.symm (by rw [← e2]; exact X'.warmed.alike) hp hb k1 k2 k3 (by rw [e1]; exact hce) hcv hcl T' rfl X'
    exact ⟨t2, st.trans a1, b1⟩
end
/-! ===== END ===== -/
/-! ===== BEGIN .. by an interface, an object ===== -/
section
variable {p : Program} {l : Launch} {e : Env} {R : Room} {s : State} {m : MethodId} {args : Array Value} {below : List Frame} {meth : Method} {c : Code} {H : Heap} {locs : List Loc} {cells slots : Nat} {Q : State → Prop}
variable {mc ms : Nat} {free : Addr → Prop} {A0 A1 : Nat → Prop} {H0 : Heap} {a : Array Value} {pc : Nat} {ls : Array Slot} {st0 rest : List Value}
theorem vx_callFq {S SX : Type} {post : Option Nat → S → Prop} {px : SX → Prop} {B : S → State → Prop} {BX : String → SX → State → Prop} {AX : Nat → Prop} (hr : vx_Run5 p l e R s m args below meth c H locs cells slots mc ms (F0 m pc ls st0) rest (va_Qq post B A1 a) (vx_X px BX AX) free) (hS : va_S A0 H0 H locs) (hA : ∀ q, q < H.size → A1 q → A0 q) (hf : ∀ q, free q → A0 q) (hAX : ∀ q, q < H.size → AX q → A0 q)
    (kx : ∀ (E : String) (ce : Cell) (q9 : Addr) (u : SX) (t : State) (H1 : Heap) (locs1 : List Loc), t.heap = H1 → s.vm.Alike t.vm → px u → BX E u t → H.size ≤ H1.size → (∀ q : Nat, q < H.size → ¬ AX q → H1[q]? = H[q]?) → va_S A0 H0 H1 locs1 → H1[q9]? = some ce → ce.vm = .none → s.vm.findClass E = some ce.cls → vx_W p l e R s m args below meth c H1 locs1 (cells + mc) (slots + ms) Q (F0 m pc ls rest) q9)
    (kk : ∀ (r : Option Nat) (u : S) (t : State) (H1 : Heap) (locs1 : List Loc), t.heap = H1 → s.vm.Alike t.vm → post r u → B u t → H.size ≤ H1.size → (∀ q : Nat, q < H.size → ¬ A1 q → H1[q]? = H[q]?) → va_S A0 H0 H1 locs1 → W p l e R s m args below meth c H1 locs1 (cells + mc) (slots + ms) Q (F0 m (pc + 5) ls (va_rf r :: rest))) : W p l e R s m args below meth c H locs cells slots Q (F0 m pc ls st0) := by
  intro T hT X
  rcases hr T hT X with ⟨v, st₀, t, T', L, h0, X', hL, e1, e2, ⟨⟨r, u, hv, hp, hb⟩, hF⟩, st⟩ | ⟨q, st₀, t, T', L, E, ce, h0, X', hL, e1, e2, ⟨u, hp, hb, hF⟩, hce, hcv, hcl, st⟩
  · cases hv
    obtain ⟨k1, k2, k3⟩ := vx_keep h0 e1 hS hA hf hL hF
    obtain ⟨t2, a1, b1⟩ := kk r u t T'.heap (locs ++ L) e1.symm (by rw [← e2]; exact X'.warmed.alike) hp hb k1 k2 k3 T' rfl X'
    exact ⟨t2, st t2 a1, b1⟩
  · obtain ⟨k1, k2, k3⟩ := vx_keep h0 e1 hS hAX hf hL hF
    obtain ⟨t2, a1, b1⟩ := kx E ce q u t T'.heap (locs ++ L) e1.symm (by rw [← e2]; exact X'.warmed.alike) hp hb k1 k2 k3 (by rw [e1]; exact hce) hcv hcl T' rfl X'
    exact ⟨t2, st.trans a1, b1⟩
end
/-! ===== END ===== -/
/-! ===== BEGIN .. by an interface, a constant ===== -/
section
variable {p : Program} {l : Launch} {e : Env} {R : Room} {s : State} {m : MethodId} {args : Array Value} {below : List Frame} {meth : Method} {c : Code} {H : Heap} {locs : List Loc} {cells slots : Nat} {Q : State → Prop}
variable {mc ms : Nat} {free : Addr → Prop} {A0 A1 : Nat → Prop} {H0 : Heap} {a : Array Value} {pc : Nat} {ls : Array Slot} {st0 rest : List Value}
theorem vx_callFe {ad : Nat → Nat} {S SX : Type} {post : Option Nat → S → Prop} {px : SX → Prop} {B : S → State → Prop} {BX : String → SX → State → Prop} {AX : Nat → Prop} (hr : vx_Run5 p l e R s m args below meth c H locs cells slots mc ms (F0 m pc ls st0) rest (va_Qe ad post B A1 a) (vx_X px BX AX) free) (hS : va_S A0 H0 H locs) (hA : ∀ q, q < H.size → A1 q → A0 q) (hf : ∀ q, free q → A0 q) (hAX : ∀ q, q < H.size → AX q → A0 q)
    (kx : ∀ (E : String) (ce : Cell) (q9 : Addr) (u : SX) (t : State) (H1 : Heap) (locs1 : List Loc), t.heap = H1 → s.vm.Alike t.vm → px u → BX E u t → H.size ≤ H1.size → (∀ q : Nat, q < H.size → ¬ AX q → H1[q]? = H[q]?) → va_S A0 H0 H1 locs1 → H1[q9]? = some ce → ce.vm = .none → s.vm.findClass E = some ce.cls → vx_W p l e R s m args below meth c H1 locs1 (cells + mc) (slots + ms) Q (F0 m pc ls rest) q9)
    (kk : ∀ (r : Option Nat) (u : S) (t : State) (H1 : Heap) (locs1 : List Loc), t.heap = H1 → s.vm.Alike t.vm → post r u → B u t → H.size ≤ H1.size → (∀ q : Nat, q < H.size → ¬ A1 q → H1[q]? = H[q]?) → va_S A0 H0 H1 locs1 → W p l e R s m args below meth c H1 locs1 (cells + mc) (slots + ms) Q (F0 m (pc + 5) ls (va_re ad r :: rest))) : W p l e R s m args below meth c H locs cells slots Q (F0 m pc ls st0) := by
  intro T hT X
  rcases hr T hT X with ⟨v, st₀, t, T', L, h0, X', hL, e1, e2, ⟨⟨r, u, hv, hp, hb⟩, hF⟩, st⟩ | ⟨q, st₀, t, T', L, E, ce, h0, X', hL, e1, e2, ⟨u, hp, hb, hF⟩, hce, hcv, hcl, st⟩
  · cases hv
    obtain ⟨k1, k2, k3⟩ := vx_keep h0 e1 hS hA hf hL hF
    obtain ⟨t2, a1, b1⟩ := kk r u t T'.heap (locs ++ L) e1.symm (by rw [← e2]; exact X'.warmed.alike) hp hb k1 k2 k3 T' rfl X'
    exact ⟨t2, st t2 a1, b1⟩
  · obtain ⟨k1, k2, k3⟩ := vx_keep h0 e1 hS hAX hf hL hF
    obtain ⟨t2, a1, b1⟩ := kx E ce q u t T'.heap (locs ++ L) e1.symm (by rw [← e2]; exact X'.warmed.alike) hp hb k1 k2 k3 (by rw [e1]; exact hce) hcv hcl T' rfl X'
    exact ⟨t2, st.trans a1, b1⟩
end
/-! ===== END ===== -/
/-! ===== BEGIN what the machine throws by itself: null at a field, at athrow ===== -/
section VXM2
variable {p : Program} {l : Launch} {e : Env} {R : Room} {s : State} {m : MethodId} {args : Array Value} {below : List Frame} {meth : Method} {c : Code} {H : Heap} {locs : List Loc} {cells slots : Nat}
variable {Q : State → Prop} {cc : ByteArray} {pc : Nat} {ls : Array Slot} {rest : List Value}
theorem vx_getfN {D cl tys} {own ref C : String} {T : u_T} {N ci index : Nat} {Ts : List Cond} (hexec : p.tables.exec = Jvm.exec) (hb : c.code = cc) (hts : ∀ w ∈ Ts, w.before args s = true) (hin : ∀ w ∈ u_ws C T N, w ∈ Ts) (hown : s.vm.findClass own = some m.cls) (hK : va_K D cl tys s) (hc : cl[ci]? = some (C, T, N)) (k : Nat) (hk : k < N) (hlink : (Cond.fieldLink own index ref (T k).2.1 (T k).2.2.1).before args s = true) (hsame : ∀ x, s.fieldFound? (T k).1 (T k).2.1 (T k).2.2.1 = some x → s.fieldFound? ref (T k).2.1 (T k).2.2.1 = some x) (hdg : decode cc pc = .ok (.getfield index, 3)) (kk : vx_NoteN p l e R s m args below meth c H locs cells slots Q (F0 m pc ls rest)) : W p l e R s m args below meth c H locs cells slots Q (F0 m pc ls (.null :: rest)) := by
  obtain ⟨hS, hfc, kC, hkC, -⟩ := hK.1 ci _ hc
  obtain ⟨cf, kf, fi, f, hi, -⟩ := hS k hk
  intro U hU X
  obtain ⟨vm', X1, st1⟩ := X.getfieldNull hexec hown hlink (hsame _ hi) (u_facts hfc hkC (u_lays hts hin hk) hi).1 (g := F0 m pc ls (.null :: rest)) rfl (rest := rest) rfl (by rw [hb]; exact hdg)
  obtain ⟨t, st, q⟩ := kk (U.setVm vm') hU X1
  exact ⟨t, st1 t st, q⟩
theorem vx_getfNN {D cl tys} {own ref C host : String} {T : u_T} {N ci index : Nat} {Ts : List Cond} (hexec : p.tables.exec = Jvm.exec) (hb : c.code = cc) (hts : ∀ w ∈ Ts, w.before args s = true) (hin : ∀ w ∈ u_ws C T N, w ∈ Ts) (hown : s.vm.findClass own = some m.cls) (hK : va_K D cl tys s) (hc : cl[ci]? = some (C, T, N)) (k : Nat) (hk : k < N) (hlink : (Cond.fieldLinkNest own index ref (T k).2.1 (T k).2.2.1 host).before args s = true) (hsame : ∀ x, s.fieldFound? (T k).1 (T k).2.1 (T k).2.2.1 = some x → s.fieldFound? ref (T k).2.1 (T k).2.2.1 = some x) (hdg : decode cc pc = .ok (.getfield index, 3)) (kk : vx_NoteN p l e R s m args below meth c H locs cells slots Q (F0 m pc ls rest)) : W p l e R s m args below meth c H locs cells slots Q (F0 m pc ls (.null :: rest)) := by
  obtain ⟨hS, hfc, kC, hkC, -⟩ := hK.1 ci _ hc
  obtain ⟨cf, kf, fi, f, hi, -⟩ := hS k hk
  intro U hU X
  obtain ⟨vm', X1, st1⟩ := X.getfieldNullNest hexec hown hlink (hsame _ hi) (u_facts hfc hkC (u_lays hts hin hk) hi).1 (g := F0 m pc ls (.null :: rest)) rfl (rest := rest) rfl (by rw [hb]; exact hdg)
  obtain ⟨t, st, q⟩ := kk (U.setVm vm') hU X1
  exact ⟨t, st1 t st, q⟩
theorem vx_putfN {D cl tys} {own ref C : String} {T : u_T} {N ci index : Nat} {Ts : List Cond} (hexec : p.tables.exec = Jvm.exec) (hb : c.code = cc) (hts : ∀ w ∈ Ts, w.before args s = true) (hin : ∀ w ∈ u_ws C T N, w ∈ Ts) (hown : s.vm.findClass own = some m.cls) (hK : va_K D cl tys s) (hc : cl[ci]? = some (C, T, N)) (k : Nat) (hk : k < N) (hlink : (Cond.fieldLink own index ref (T k).2.1 (T k).2.2.1).before args s = true) (hsame : ∀ x, s.fieldFound? (T k).1 (T k).2.1 (T k).2.2.1 = some x → s.fieldFound? ref (T k).2.1 (T k).2.2.1 = some x) (hfin : (T k).2.2.2 = false) {v : Value} (hdg : decode cc pc = .ok (.putfield index, 3)) (kk : vx_NoteN p l e R s m args below meth c H locs cells slots Q (F0 m pc ls rest)) : W p l e R s m args below meth c H locs cells slots Q (F0 m pc ls (v :: .null :: rest)) := by
  obtain ⟨hS, hfc, kC, hkC, -⟩ := hK.1 ci _ hc
  obtain ⟨cf, kf, fi, f, hi, -⟩ := hS k hk
  have hlay := hts _ (hin _ (u_in_lay hk))
  unfold u_lay at hlay
  rw [if_neg (by rw [hfin]; decide)] at hlay
  obtain ⟨c9, k9, cf9, kf9, fi9, f9, -, -, hi9, hst9, hnf9, -⟩ := Cond.lays_spec hlay
  cases hi.symm.trans hi9
  intro U hU X
  obtain ⟨vm', X1, st1⟩ := X.putfieldNull hexec hown hlink (hsame _ hi) hst9 hnf9 (g := F0 m pc ls (v :: .null :: rest)) rfl (v := v) (rest := rest) rfl (by rw [hb]; exact hdg)
  obtain ⟨t, st, q⟩ := kk (U.setVm vm') hU X1
  exact ⟨t, st1 t st, q⟩
theorem vx_putfNN {D cl tys} {own ref C host : String} {T : u_T} {N ci index : Nat} {Ts : List Cond} (hexec : p.tables.exec = Jvm.exec) (hb : c.code = cc) (hts : ∀ w ∈ Ts, w.before args s = true) (hin : ∀ w ∈ u_ws C T N, w ∈ Ts) (hown : s.vm.findClass own = some m.cls) (hK : va_K D cl tys s) (hc : cl[ci]? = some (C, T, N)) (k : Nat) (hk : k < N) (hlink : (Cond.fieldLinkNest own index ref (T k).2.1 (T k).2.2.1 host).before args s = true) (hsame : ∀ x, s.fieldFound? (T k).1 (T k).2.1 (T k).2.2.1 = some x → s.fieldFound? ref (T k).2.1 (T k).2.2.1 = some x) (hfin : (T k).2.2.2 = false) {v : Value} (hdg : decode cc pc = .ok (.putfield index, 3)) (kk : vx_NoteN p l e R s m args below meth c H locs cells slots Q (F0 m pc ls rest)) : W p l e R s m args below meth c H locs cells slots Q (F0 m pc ls (v :: .null :: rest)) := by
  obtain ⟨hS, hfc, kC, hkC, -⟩ := hK.1 ci _ hc
  obtain ⟨cf, kf, fi, f, hi, -⟩ := hS k hk
  have hlay := hts _ (hin _ (u_in_lay hk))
  unfold u_lay at hlay
  rw [if_neg (by rw [hfin]; decide)] at hlay
  obtain ⟨c9, k9, cf9, kf9, fi9, f9, -, -, hi9, hst9, hnf9, -⟩ := Cond.lays_spec hlay
  cases hi.symm.trans hi9
  intro U hU X
  obtain ⟨vm', X1, st1⟩ := X.putfieldNullNest hexec hown hlink (hsame _ hi) hst9 hnf9 (g := F0 m pc ls (v :: .null :: rest)) rfl (v := v) (rest := rest) rfl (by rw [hb]; exact hdg)
  obtain ⟨t, st, q⟩ := kk (U.setVm vm') hU X1
  exact ⟨t, st1 t st, q⟩
theorem vx_athrowN (hexec : p.tables.exec = Jvm.exec) (hb : c.code = cc) (hdg : decode cc pc = .ok (.athrow, 1)) (k : vx_NoteN p l e R s m args below meth c H locs cells slots Q (F0 m pc ls rest)) : W p l e R s m args below meth c H locs cells slots Q (F0 m pc ls (.null :: rest)) := by
  intro T hT X
  obtain ⟨t, st, q⟩ := k T hT X
  exact ⟨t, X.athrowNull hexec (g := F0 m pc ls (.null :: rest)) rfl (rest := rest) rfl (by rw [hb]; exact hdg) t st, q⟩
end VXM2
/-! ===== END ===== -/
end
section
section SGA
/-! A small machine of its own: abstract cells by abstract numbers, steps as functions, and each step's soundness over the kit's rows. -/
abbrev sg_E : Type := (Nat × vp_A) ⊕ (Nat × List Value)
abbrev sg_M : Type := (Nat → Option sg_E) × Nat
abbrev sg_L : Type := List (Nat × Value)
abbrev sg_O : Type := (Nat × sg_L × List Value × sg_M × Nat × Nat) ⊕ ((Nat × List Value × List Value) ⊕ ((Option Value) ⊕ Nat))
abbrev sg_F : Type := sg_L → List Value → sg_M → Option sg_O
abbrev sg_R : Type := (Option Value ⊕ Nat) × sg_M × Nat × Nat
def sg_up (f : Nat → Option sg_E) (a : Nat) (e : sg_E) : Nat → Option sg_E := fun q => if q = a then some e else f q
def sg_at (L : sg_L) (i : Nat) : Option Value := match L with
  | [] => none
  | q :: L => if q.1 = i then some q.2 else sg_at L i
def sg_ins (L : sg_L) (i : Nat) (v : Value) : sg_L := match L with
  | [] => [(i, v)]
  | q :: L => bif q.1 == i then (i, v) :: L.filter (fun q => !(q.1 == i)) else q :: sg_ins L i v
def sg_st1 (L : sg_L) (i : Nat) (v : Value) : sg_L := sg_ins (L.filter (fun q => !(q.1 + 1 == i && q.2.category == 2))) i v
def sg_st2 (L : sg_L) (i : Nat) (v : Value) : sg_L := sg_ins (L.filter (fun q => !(q.1 == i + 1) && !(q.1 + 1 == i && q.2.category == 2))) i v
def sg_go (pc : Nat) (L : sg_L) (st : List Value) (M : sg_M) : Option sg_O := some (.inl (pc, L, st, M, 0, 0))
def sg_in (i : Int32) (n : Nat) : Bool := !(decide (i < 0) || decide (n ≤ i.toNatClampNeg))
theorem sg_in_ok {i : Int32} {n : Nat} (h : sg_in i n = true) : vp_in i n := by
  simpa [sg_in, vp_in] using h
/-- the machine: at most n steps -/
def sg_ev (tab : Nat → Nat → Option sg_F) (hd : Nat → Nat → Nat → Option (Option Nat)) : Nat → Nat → Nat → sg_L → List Value → sg_M → Option sg_R
  | 0, _, _, _, _, _ => none
  | n + 1, k, pc, L, st, M =>
    match tab k pc with
    | none => none
    | some f => match f L st M with
      | none => none
      | some (.inl (pc1, L1, st1, M1, dc, ds)) => match sg_ev tab hd n k pc1 L1 st1 M1 with
        | none => none
        | some (r, M2, c, s) => some (r, M2, dc + c, ds + s)
      | some (.inr (.inl (j, av, rest))) => match sg_ev tab hd n j 0 (lv_args 0 av) [] M with
        | none => none
        | some (.inl v, M1, c1, s1) => match sg_ev tab hd n k (pc + 3) L (v.toList ++ rest) M1 with
          | none => none
          | some (r, M2, c, s) => some (r, M2, c1 + c, s1 + s)
        | some (.inr E, M1, c1, s1) => match hd k pc E with
          | none => none
          | some none => some (.inr E, M1, c1, s1)
          | some (some h) => match sg_ev tab hd n k h L [.ref M1.2] (M1.1, M1.2 + 1) with
            | none => none
            | some (r, M2, c, s) => some (r, M2, c1 + c, s1 + s)
      | some (.inr (.inr (.inl v))) => some (.inl v, M, 0, 0)
      | some (.inr (.inr (.inr E))) => some (.inr E, M, 1, 6)
/-! abstract numbers to addresses -/
/-- the int that a number stands for -/
def sg_iv (n : Nat) : Int32 := (UInt32.ofNat n).toInt32
theorem sg_iv_of (x : Int32) : sg_iv x.toUInt32.toNat = x := by
  unfold sg_iv
  rw [UInt32.ofNat_toNat]
  rfl
/-- so many numbers are bound: 0 the script, 1 the reference's empty row, 8 and on the script's ints, each by its kind -/
def sg_pn : Nat := 128
def sg_v (μ : Nat → Nat) (v : Value) : Value := match v with
  | .ref a => .ref (μ a)
  | .retAddr a => .int (sg_iv (μ a))
  | v => v
def sg_a (μ : Nat → Nat) (x : vp_A) : vp_A := match x with
  | (n, .inr (.inr (.inr (.inr f)))) => (n, .inr (.inr (.inr (.inr (fun j => (f j).map μ)))))
  | x => x
def sg_tc (tys : List (ClassId × FieldType)) (t : Nat) : ClassId := ((tys[t]?).map (fun q => q.1)).getD 0
def sg_c (tys : List (ClassId × FieldType)) (μ : Nat → Nat) (e : sg_E) : va_E := match e with
  | .inl (t, x) => .inl (sg_tc tys t, sg_a μ x)
  | .inr (ci, fs) => .inr (ci, fs.map (sg_v μ))
def sg_wV (n : Nat) (v : Value) : Prop := ∀ a, (v = .ref a ∨ v = .retAddr a) → a < n
def sg_wA (n : Nat) (x : vp_A) : Prop := ∀ k f, x = (k, .inr (.inr (.inr (.inr f)))) → ∀ j a, f j = some a → a < n
def sg_wE (n : Nat) (e : sg_E) : Prop := (∀ t x, e = .inl (t, x) → sg_wA n x) ∧ ∀ ci fs, e = .inr (ci, fs) → ∀ v ∈ fs, sg_wV n v
def sg_X (μ μ' : Nat → Nat) (n : Nat) : Prop := ∀ a, a < n → μ' a = μ a
theorem sg_X.rf {μ : Nat → Nat} {n : Nat} : sg_X μ μ n := fun _ _ => rfl
theorem sg_X.tr {μ μ1 μ2 : Nat → Nat} {n k : Nat} (h1 : sg_X μ μ1 n) (h2 : sg_X μ1 μ2 k) (h : n ≤ k) : sg_X μ μ2 n := fun a ha => (h2 a (Nat.lt_of_lt_of_le ha h)).trans (h1 a ha)
theorem sg_wV.mono {n k : Nat} {v : Value} (h : sg_wV n v) (hk : n ≤ k) : sg_wV k v := fun a e => Nat.lt_of_lt_of_le (h a e) hk
theorem sg_wA.mono {n k : Nat} {x : vp_A} (h : sg_wA n x) (hk : n ≤ k) : sg_wA k x := fun q f e j a ha => Nat.lt_of_lt_of_le (h q f e j a ha) hk
theorem sg_wE.mono {n k : Nat} {e : sg_E} (h : sg_wE n e) (hk : n ≤ k) : sg_wE k e := ⟨fun t x q => (h.1 t x q).mono hk, fun ci fs q v hv => (h.2 ci fs q v hv).mono hk⟩
theorem sg_wi {n : Nat} {x : Int32} : sg_wV n (.int x) := fun _ e => by rcases e with e | e <;> cases e
theorem sg_wl {n : Nat} {x : Int64} : sg_wV n (.long x) := fun _ e => by rcases e with e | e <;> cases e
theorem sg_wnull {n : Nat} : sg_wV n .null := fun _ e => by rcases e with e | e <;> cases e
theorem sg_v_x {μ μ' : Nat → Nat} {n : Nat} {v : Value} (h : sg_wV n v) (hX : sg_X μ μ' n) : sg_v μ' v = sg_v μ v := by
  cases v <;> first | rfl | exact congrArg Value.ref (hX _ (h _ (Or.inl rfl))) | exact congrArg (fun z => Value.int (sg_iv z)) (hX _ (h _ (Or.inr rfl)))
theorem sg_vs_x {μ μ' : Nat → Nat} {n : Nat} {st : List Value} (h : ∀ v ∈ st, sg_wV n v) (hX : sg_X μ μ' n) : st.map (sg_v μ') = st.map (sg_v μ) := List.map_congr_left fun v hv => sg_v_x (h v hv) hX
theorem sg_ls_x {μ μ' : Nat → Nat} {n : Nat} {L : sg_L} (h : ∀ q ∈ L, sg_wV n q.2) (hX : sg_X μ μ' n) : L.map (fun q => (q.1, sg_v μ' q.2)) = L.map (fun q => (q.1, sg_v μ q.2)) := List.map_congr_left fun q hq => by rw [sg_v_x (h q hq) hX]
theorem sg_a_x {μ μ' : Nat → Nat} {n : Nat} {x : vp_A} (h : sg_wA n x) (hX : sg_X μ μ' n) : sg_a μ' x = sg_a μ x := by
  obtain ⟨k, f | f | f | f | f⟩ := x
  · rfl
  · rfl
  · rfl
  · rfl
  · show ((k, _) : vp_A) = (k, _)
    congr 5
    funext j
    cases hj : f j with
    | none => rfl
    | some a => exact congrArg some (hX a (h k f rfl j a hj))
theorem sg_c_x {tys : List (ClassId × FieldType)} {μ μ' : Nat → Nat} {n : Nat} {e : sg_E} (h : sg_wE n e) (hX : sg_X μ μ' n) : sg_c tys μ' e = sg_c tys μ e := by
  obtain ⟨t, x⟩ | ⟨ci, fs⟩ := e
  · exact congrArg (fun z => Sum.inl (sg_tc tys t, z)) (sg_a_x (h.1 t x rfl) hX)
  · exact congrArg (fun z => Sum.inr (ci, z)) (sg_vs_x (h.2 ci fs rfl) hX)
theorem sg_cat {μ : Nat → Nat} {v : Value} : (sg_v μ v).category = v.category := by cases v <;> rfl
theorem sg_cats {μ : Nat → Nat} {st : List Value} : ((st.map (sg_v μ)).map fun v => v.category) = st.map fun v => v.category := by
  rw [List.map_map]
  exact List.map_congr_left fun v _ => sg_cat
/-- the abstract memory is the heap's, by the addresses μ; number 0 is the script's -/
def sg_I (D : va_G) (cl : List vw_C) (tys : List (ClassId × FieldType)) (B : Nat) (b : Nat → Nat) (μ : Nat → Nat) (M : sg_M) (H : Heap) : Prop :=
  (∀ a e, M.1 a = some e → a < M.2 ∧ sg_wE M.2 e ∧ va_at D cl (μ a, sg_c tys μ e) H ∧ B ≤ μ a) ∧ (∀ a a' e e', M.1 a = some e → M.1 a' = some e' → μ a = μ a' → a = a') ∧ (∀ i, i < sg_pn → M.1 i = none) ∧ sg_pn ≤ M.2 ∧ ∀ i, i < sg_pn → μ i = b i
def sg_A (B : Nat) : Nat → Prop := fun q => B ≤ q
/-- one cell of it as a world of the kit -/
theorem sg_I.one {D : va_G} {cl : List vw_C} {tys : List (ClassId × FieldType)} {B : Nat} {b : Nat → Nat} {μ : Nat → Nat} {M : sg_M} {H : Heap} (h : sg_I D cl tys B b μ M H) {a : Nat} {e : sg_E} (he : M.1 a = some e) : va_P D cl [(μ a, sg_c tys μ e)] H ∧ va_D (sg_A B) [(μ a, sg_c tys μ e)] := by
  obtain ⟨h1, h2, h3, h4⟩ := h.1 a e he
  refine ⟨fun k q hk => ?_, fun i j p q hi hj _ => ?_, fun k q hk => ?_⟩
  · cases k with
    | zero => cases hk; exact h3
    | succ k => simp at hk
  · cases i with
    | zero => cases j with
      | zero => rfl
      | succ j => simp at hj
    | succ i => simp at hi
  · cases k with
    | zero => cases hk; exact h4
    | succ k => simp at hk
theorem sg_I.lt {D : va_G} {cl : List vw_C} {tys : List (ClassId × FieldType)} {B : Nat} {b : Nat → Nat} {μ : Nat → Nat} {M : sg_M} {H : Heap} (h : sg_I D cl tys B b μ M H) {a : Nat} {e : sg_E} (he : M.1 a = some e) : a < M.2 ∧ sg_pn ≤ a := by
  refine ⟨(h.1 a e he).1, Nat.not_lt.mp fun z => ?_⟩
  rw [h.2.2.1 a z] at he
  cases he
/-- a cell changed, the others as they were -/
theorem sg_I.put {D : va_G} {cl : List vw_C} {tys : List (ClassId × FieldType)} {B : Nat} {b : Nat → Nat} {μ : Nat → Nat} {M : sg_M} {H H1 : Heap} (h : sg_I D cl tys B b μ M H) {a : Nat} {e0 e : sg_E} (he : M.1 a = some e0) (hw : sg_wE M.2 e) (hP : va_at D cl (μ a, sg_c tys μ e) H1) (hq : ∀ q : Nat, q ≠ μ a → q < H.size → H1[q]? = H[q]?) : sg_I D cl tys B b μ (sg_up M.1 a e, M.2) H1 := by
  have ha0 := (h.lt he).2
  refine ⟨fun a' e' he' => ?_, fun x y ex ey hx hy hxy => ?_, ?_, h.2.2.2.1, h.2.2.2.2⟩
  · have he' : (if a' = a then some e else M.1 a') = some e' := he'
    by_cases hz : a' = a
    · subst hz
      rw [if_pos rfl] at he'
      cases he'
      exact ⟨(h.1 a' e0 he).1, hw, hP, (h.1 a' e0 he).2.2.2⟩
    · rw [if_neg hz] at he'
      obtain ⟨k1, k2, k3, k4⟩ := h.1 a' e' he'
      exact ⟨k1, k2, k3.kept (hq _ (fun z => hz (h.2.1 _ _ _ _ he' he z)) k3.lt), k4⟩
  · have key : ∀ z ez, (if z = a then some e else M.1 z) = some ez → ∃ e9, M.1 z = some e9 := by
      intro z ez hz
      by_cases hza : z = a
      · exact ⟨e0, by rw [hza]; exact he⟩
      · rw [if_neg hza] at hz
        exact ⟨ez, hz⟩
    obtain ⟨e1, g1⟩ := key x ex hx
    obtain ⟨e2, g2⟩ := key y ey hy
    exact h.2.1 x y e1 e2 g1 g2 hxy
  · intro i hi
    show (if i = a then some e else M.1 i) = none
    rw [if_neg (fun z => absurd hi (Nat.not_lt.mpr (by rw [z]; exact ha0)))]
    exact h.2.2.1 i hi
/-- a new cell, at the address q -/
theorem sg_I.new {D : va_G} {cl : List vw_C} {tys : List (ClassId × FieldType)} {B : Nat} {b : Nat → Nat} {μ : Nat → Nat} {M : sg_M} {H H1 : Heap} (h : sg_I D cl tys B b μ M H) {q : Nat} {e : sg_E} (hw : sg_wE M.2 e) (hP : va_at D cl (q, sg_c tys μ e) H1) (hq : ∀ x : Nat, x < H.size → H1[x]? = H[x]?) (hf : H.size ≤ q) (hB : B ≤ q) :
    sg_I D cl tys B b (fun x => if x = M.2 then q else μ x) (sg_up M.1 M.2 e, M.2 + 1) H1 ∧ sg_X μ (fun x => if x = M.2 then q else μ x) M.2 := by
  have hX : sg_X μ (fun x => if x = M.2 then q else μ x) M.2 := fun a ha => if_neg (Nat.ne_of_lt ha)
  refine ⟨⟨fun a' e' he' => ?_, fun x y ex ey hx hy hxy => ?_, ?_, Nat.le_succ_of_le h.2.2.2.1, ?_⟩, hX⟩
  · have he' : (if a' = M.2 then some e else M.1 a') = some e' := he'
    show a' < M.2 + 1 ∧ _
    by_cases hz : a' = M.2
    · rw [if_pos hz] at he'
      cases he'
      subst hz
      refine ⟨Nat.lt_succ_self _, hw.mono (Nat.le_succ _), ?_, ?_⟩
      · show va_at D cl (if M.2 = M.2 then q else μ M.2, _) H1
        rw [if_pos rfl, sg_c_x hw hX]
        exact hP
      · show B ≤ (if M.2 = M.2 then q else μ M.2)
        rw [if_pos rfl]; exact hB
    · rw [if_neg hz] at he'
      obtain ⟨k1, k2, k3, k4⟩ := h.1 a' e' he'
      refine ⟨Nat.lt_succ_of_lt k1, k2.mono (Nat.le_succ _), ?_, ?_⟩
      · show va_at D cl (if a' = M.2 then q else μ a', _) H1
        rw [if_neg hz, sg_c_x k2 hX]
        exact k3.kept (hq _ k3.lt)
      · show B ≤ (if a' = M.2 then q else μ a')
        rw [if_neg hz]; exact k4
  · have key : ∀ z ez, (if z = M.2 then some e else M.1 z) = some ez → (z = M.2 ∨ ∃ e9, M.1 z = some e9 ∧ z ≠ M.2 ∧ μ z < H.size) := by
      intro z ez hz
      by_cases hza : z = M.2
      · exact Or.inl hza
      · rw [if_neg hza] at hz
        exact Or.inr ⟨ez, hz, hza, (h.1 z ez hz).2.2.1.lt⟩
    have hxy : (if x = M.2 then q else μ x) = (if y = M.2 then q else μ y) := hxy
    rcases key x ex hx with g1 | ⟨e1, g1, n1, l1⟩ <;> rcases key y ey hy with g2 | ⟨e2, g2, n2, l2⟩
    · exact g1.trans g2.symm
    · rw [if_pos g1, if_neg n2] at hxy; omega
    · rw [if_neg n1, if_pos g2] at hxy; omega
    · rw [if_neg n1, if_neg n2] at hxy; exact h.2.1 x y e1 e2 g1 g2 hxy
  · intro i hi
    show (if i = M.2 then some e else M.1 i) = none
    rw [if_neg (Nat.ne_of_lt (Nat.lt_of_lt_of_le hi h.2.2.2.1))]
    exact h.2.2.1 i hi
  · intro i hi
    show (if i = M.2 then q else μ i) = b i
    rw [if_neg (Nat.ne_of_lt (Nat.lt_of_lt_of_le hi h.2.2.2.1))]
    exact h.2.2.2.2 i hi
/-- a number for a thing that the memory doesn't hold -/
theorem sg_I.skip {D : va_G} {cl : List vw_C} {tys : List (ClassId × FieldType)} {B : Nat} {b : Nat → Nat} {μ : Nat → Nat} {M : sg_M} {H : Heap} (h : sg_I D cl tys B b μ M H) (q : Nat) :
    sg_I D cl tys B b (fun x => if x = M.2 then q else μ x) (M.1, M.2 + 1) H ∧ sg_X μ (fun x => if x = M.2 then q else μ x) M.2 := by
  have hX : sg_X μ (fun x => if x = M.2 then q else μ x) M.2 := fun a ha => if_neg (Nat.ne_of_lt ha)
  refine ⟨⟨fun a' e' he' => ?_, fun x y ex ey hx hy hxy => ?_, h.2.2.1, Nat.le_succ_of_le h.2.2.2.1, ?_⟩, hX⟩
  · obtain ⟨k1, k2, k3, k4⟩ := h.1 a' e' he'
    show a' < M.2 + 1 ∧ sg_wE (M.2 + 1) e' ∧ va_at D cl (if a' = M.2 then q else μ a', _) H ∧ B ≤ (if a' = M.2 then q else μ a')
    rw [if_neg (Nat.ne_of_lt k1), sg_c_x k2 hX]
    exact ⟨Nat.lt_succ_of_lt k1, k2.mono (Nat.le_succ _), k3, k4⟩
  · have hxy : (if x = M.2 then q else μ x) = (if y = M.2 then q else μ y) := hxy
    rw [if_neg (Nat.ne_of_lt (h.1 x ex hx).1), if_neg (Nat.ne_of_lt (h.1 y ey hy).1)] at hxy
    exact h.2.1 x y ex ey hx hy hxy
  · intro i hi
    show (if i = M.2 then q else μ i) = b i
    rw [if_neg (Nat.ne_of_lt (Nat.lt_of_lt_of_le hi h.2.2.2.1))]
    exact h.2.2.2.2 i hi
theorem sg_at_mem {L : sg_L} {i : Nat} {v : Value} (h : sg_at L i = some v) : (i, v) ∈ L := by
  induction L with
  | nil => cases h
  | cons q L ih =>
    unfold sg_at at h
    by_cases hq : q.1 = i
    · rw [if_pos hq] at h
      obtain ⟨a, b⟩ := q
      cases h
      cases hq
      exact List.mem_cons_self
    · rw [if_neg hq] at h
      exact List.mem_cons_of_mem _ (ih h)
theorem sg_at_ls {ls : Array Slot} {nL : Nat} {μ : Nat → Nat} {L : sg_L} (hl : lv_has ls nL (L.map (fun q => (q.1, sg_v μ q.2)))) {i : Nat} {v : Value} (h : sg_at L i = some v) : ls[i]? = some (.val (sg_v μ v)) :=
  hl.2.2 (i, sg_v μ v) (List.mem_map.mpr ⟨(i, v), sg_at_mem h, rfl⟩)
theorem sg_ins_mem {L : sg_L} {i : Nat} {v : Value} : ∀ q ∈ sg_ins L i v, q = (i, v) ∨ (q ∈ L ∧ (q.1 == i) = false) := by
  induction L with
  | nil => intro q hq; exact Or.inl (List.mem_singleton.mp hq)
  | cons x L ih =>
    intro q hq
    unfold sg_ins at hq
    cases hx : x.1 == i with
    | true =>
      rw [hx] at hq
      rcases List.mem_cons.mp hq with h | h
      · exact Or.inl h
      · obtain ⟨h1, h2⟩ := List.mem_filter.mp h
        exact Or.inr ⟨List.mem_cons_of_mem _ h1, by simpa using h2⟩
    | false =>
      rw [hx] at hq
      rcases List.mem_cons.mp hq with h | h
      · exact Or.inr ⟨by rw [h]; exact List.mem_cons_self, by rw [h]; exact hx⟩
      · rcases ih q h with h1 | ⟨h1, h2⟩
        · exact Or.inl h1
        · exact Or.inr ⟨List.mem_cons_of_mem _ h1, h2⟩
theorem sg_st1_map {μ : Nat → Nat} {L : sg_L} {i : Nat} {v : Value} : ∀ q ∈ (sg_st1 L i v).map (fun q => (q.1, sg_v μ q.2)), q ∈ (i, sg_v μ v) :: (L.map (fun q => (q.1, sg_v μ q.2))).filter (fun q => !(q.1 == i) && !(q.1 + 1 == i && q.2.category == 2)) := by
  intro q hq
  obtain ⟨z, hz, rfl⟩ := List.mem_map.mp hq
  rcases sg_ins_mem z hz with h | ⟨h, h2⟩
  · rw [h]; exact List.mem_cons_self
  · obtain ⟨h3, h4⟩ := List.mem_filter.mp h
    refine List.mem_cons_of_mem _ (List.mem_filter.mpr ⟨List.mem_map.mpr ⟨z, h3, rfl⟩, ?_⟩)
    show (!(z.1 == i) && !(z.1 + 1 == i && (sg_v μ z.2).category == 2)) = true
    rw [sg_cat, h2, h4]; rfl
theorem sg_st2_map {μ : Nat → Nat} {L : sg_L} {i : Nat} {v : Value} : ∀ q ∈ (sg_st2 L i v).map (fun q => (q.1, sg_v μ q.2)), q ∈ (i, sg_v μ v) :: (L.map (fun q => (q.1, sg_v μ q.2))).filter (fun q => !(q.1 == i) && (!(q.1 == i + 1) && !(q.1 + 1 == i && q.2.category == 2))) := by
  intro q hq
  obtain ⟨z, hz, rfl⟩ := List.mem_map.mp hq
  rcases sg_ins_mem z hz with h | ⟨h, h2⟩
  · rw [h]; exact List.mem_cons_self
  · obtain ⟨h3, h4⟩ := List.mem_filter.mp h
    refine List.mem_cons_of_mem _ (List.mem_filter.mpr ⟨List.mem_map.mpr ⟨z, h3, rfl⟩, ?_⟩)
    show (!(z.1 == i) && (!(z.1 == i + 1) && !(z.1 + 1 == i && (sg_v μ z.2).category == 2))) = true
    rw [sg_cat, h2, h4]; rfl
theorem sg_st1_w {n : Nat} {L : sg_L} {i : Nat} {v : Value} (hL : ∀ q ∈ L, sg_wV n q.2) (hv : sg_wV n v) : ∀ q ∈ sg_st1 L i v, sg_wV n q.2 := by
  intro q hq
  rcases sg_ins_mem q hq with rfl | ⟨h, -⟩
  · exact hv
  · exact hL q (List.mem_filter.mp h).1
theorem sg_st2_w {n : Nat} {L : sg_L} {i : Nat} {v : Value} (hL : ∀ q ∈ L, sg_wV n q.2) (hv : sg_wV n v) : ∀ q ∈ sg_st2 L i v, sg_wV n q.2 := by
  intro q hq
  rcases sg_ins_mem q hq with rfl | ⟨h, -⟩
  · exact hv
  · exact hL q (List.mem_filter.mp h).1
theorem sg_sub {ls : Array Slot} {nL : Nat} {l l' : List (Nat × Value)} (h : lv_has ls nL l) (hs : ∀ q ∈ l', q ∈ l) : lv_has ls nL l' := ⟨h.1, h.2.1, fun q hq => h.2.2 q (hs q hq)⟩
theorem sg_c1 {n : Nat} {v : Value} {st : List Value} (h : ∀ x ∈ v :: st, sg_wV n x) : sg_wV n v ∧ ∀ x ∈ st, sg_wV n x := List.forall_mem_cons.mp h
theorem sg_cc {n : Nat} {v : Value} {st : List Value} (h1 : sg_wV n v) (h2 : ∀ x ∈ st, sg_wV n x) : ∀ x ∈ v :: st, sg_wV n x := List.forall_mem_cons.mpr ⟨h1, h2⟩
/-- a word that stays as links are resolved -/
def sg_okw (w : Cond) : Bool := goodWord w || (match w with | .castable _ _ => true | .declares _ => true | .fieldLinkNest _ _ _ _ _ _ => true | .methodLinkNest _ _ _ _ => true | _ => false)
theorem sg_okw_at {w : Cond} (hw : sg_okw w = true) {s U : State} {a a' : Array Value} (hW : s.WarmedH U.vm) (h : w.before a s = true) : w.before a' U = true := by
  unfold sg_okw at hw
  rcases Bool.or_eq_true _ _ ▸ hw with h1 | h1
  · exact word_at hW (good_of_word h1) h
  · cases w <;> first | exact va_Nw.use rfl (va_Nw.warmF hW (va_Nw.of rfl h)) | exact va_Nw.use rfl (va_Nw.warmM hW (va_Nw.of rfl h)) | exact va_Nw.use rfl (va_Nw.warmC hW (va_Nw.of rfl h)) | exact va_Nw.use rfl (va_Nw.warmD hW (va_Nw.of rfl h)) | cases h1
end SGA
end
section
section SGB
/-! Steps. The program's tables: names, codes, locals, what is returned, frames and words of room, handlers. -/
abbrev sg_P : Type := (Nat → MethodName) × (Nat → ByteArray) × (Nat → Nat) × (Nat → Option FieldType) × (Nat → Nat) × (Nat → Nat) × (Nat → List (Nat × Nat × Nat × Nat))
abbrev sg_Y (P : sg_P) (k : Nat) : MethodName := P.1 k
abbrev sg_C (P : sg_P) (k : Nat) : ByteArray := P.2.1 k
abbrev sg_N (P : sg_P) (k : Nat) : Nat := P.2.2.1 k
abbrev sg_T (P : sg_P) (k : Nat) : Option FieldType := P.2.2.2.1 k
abbrev sg_fr (P : sg_P) (k : Nat) : Nat := P.2.2.2.2.1 k
abbrev sg_lo (P : sg_P) (k : Nat) : Nat := P.2.2.2.2.2.1 k
abbrev sg_hh (P : sg_P) (k : Nat) : List (Nat × Nat × Nat × Nat) := P.2.2.2.2.2.2 k
def sg_hw (P : sg_P) (k : Nat) : Cond := match sg_hh P k with
  | [] => .code (sg_Y P k) (sg_C P k) (sg_N P k) (sg_T P k)
  | h :: hs => .codeWith (sg_Y P k) (sg_C P k) (sg_N P k) (sg_T P k) (h :: hs)
/-- the exceptions that the class throws, by their places -/
def sg_nm (E : Nat) : String := match E with
  | 0 => "java/lang/IndexOutOfBoundsException"
  | 1 => "java/lang/IllegalArgumentException"
  | _ => "java/lang/IllegalStateException"
/-- the reference's empty row: a static that holds a row of ints, and is never written -/
def sg_Em (B : Nat) (b : Nat → Nat) (U : State) (H : Heap) : Prop := va_Z "StrataRepoModel" "EMPTY" "[I" (.ref (b 1)) (sg_A B) U H ∧ b 1 < B ∧ ∃ cell : Cell, H[b 1]? = some cell ∧ cell.vm.isStatics = false ∧ U.vm.findClass "[I" = some cell.cls
theorem sg_Em.moved {B : Nat} {b : Nat → Nat} {s U : State} {H0 H : Heap} (h : sg_Em B b s H0) (hvm : s.vm.Alike U.vm) (hq : ∀ q : Nat, q < H0.size → ¬ sg_A B q → H[q]? = H0[q]?) : sg_Em B b U H := by
  obtain ⟨h1, h2, cell, h3, h4, h5⟩ := h
  exact ⟨va_Z.moved hvm (h1.kept hq), h2, cell, by rw [hq (b 1) (Array.getElem?_eq_some_iff.mp h3).1 (Nat.not_le.mpr h2)]; exact h3, h4, by rw [hvm.findClass]; exact h5⟩
theorem sg_AAmoved {t : FieldType} {u U : State} (hvm : u.vm.Alike U.vm) (h : (Cond.arrayOver (.array t)).before #[] u = true) : (Cond.arrayOver (.array t)).before #[] U = true := by
  obtain ⟨comp, c, k, h1, h2, h3, h4, h5⟩ := arrayOverA_spec h
  obtain ⟨k', hk', he⟩ := hvm.2.2 _ _ h3
  have hi : (U.vm.classes.findIdx? fun (x : Class) => match x.kind with | .array component _ => component == comp | _ => false) = some c := by
    have hb9 : U.vm.bare = u.vm.bare := by first | exact hvm.bare_eq | exact hvm.bare_eq.symm
    have e9 := va_idx_bare U.vm comp
    rw [hb9] at e9
    exact e9.symm.trans ((va_idx_bare u.vm comp).trans h2)
  have hkind : k'.kind = .array comp (.array t) := by rw [he]; exact h4
  have f1 : U.vm.findClass (FieldType.array t).toString = some comp := by rw [hvm.findClass]; exact h1
  have f2 : U.vm.findClass ("[" ++ (FieldType.array t).toString) = some c := by rw [hvm.findClass]; exact h5
  unfold Cond.before Cond.holds
  simp only [Cond.value]
  rw [f1, Option.bind_some]
  refine (congrArg (fun o : Option Nat => (o.bind (fun c => (U.vm.classes[c]?).map fun (k : Class) => match k.kind with | .array _ ty => decide (ty = FieldType.array t) && decide (U.vm.findClass ("[" ++ (FieldType.array t).toString) = some c) | _ => false) == some true)) hi).trans ?_
  simp [hk', hkind, f2]
/-- what holds of the world all along: the tables, the script, Throwable's statics, the texts -/
def sg_Cx (D : va_G) (cl : List vw_C) (tys : List (ClassId × FieldType)) (B : Nat) (b : Nat → Nat) (Ls : Nat) (xs : Nat → Int32) (Sx : List (String × Nat × String)) (Ax : List String) (U : State) (H : Heap) : Prop :=
  va_K D cl tys U ∧ va_X (b 0) Ls xs U H ∧ b 0 < B ∧ B ≤ H.size ∧ vx_Zq Bundle.tN "UNASSIGNED_STACK" Bundle.steD (sg_A B) U H ∧ vx_Zq Bundle.tN "SUPPRESSED_SENTINEL" Bundle.listD (sg_A B) U H ∧ (∀ z ∈ Sx, ∃ sa, vk_R z.1 z.2.1 z.2.2 sa U) ∧ (∀ C ∈ Ax, va_AO C U) ∧ sg_Em B b U H ∧ (Cond.arrayOver (.array .int)).before #[] U = true ∧ (Cond.arrayOver (.array (.array .int))).before #[] U = true
theorem sg_Cx.moved {D : va_G} {cl : List vw_C} {tys : List (ClassId × FieldType)} {B : Nat} {b : Nat → Nat} {Ls : Nat} {xs : Nat → Int32} {Sx : List (String × Nat × String)} {Ax : List String} {s U : State} {H0 H : Heap} (h : sg_Cx D cl tys B b Ls xs Sx Ax s H0) (hW : s.WarmedH U.vm) (hz : H0.size ≤ H.size) (hq : ∀ q : Nat, q < H0.size → ¬ sg_A B q → H[q]? = H0[q]?) : sg_Cx D cl tys B b Ls xs Sx Ax U H := by
  obtain ⟨h1, h2, h3, h4, h5, h6, h7, h8, h9, h10, h11⟩ := h
  have hbl : b 0 < H0.size := by
    obtain ⟨scr, g, -⟩ := h2
    exact (Array.getElem?_eq_some_iff.mp g).1
  exact ⟨va_K.moved hW.alike h1, va_X.moved hW.alike (h2.kept (hq (b 0) hbl (Nat.not_le.mpr h3))), h3, Nat.le_trans h4 hz, vx_Zq.moved hW.alike (h5.kept hq), vx_Zq.moved hW.alike (h6.kept hq), fun z hz9 => by obtain ⟨sa, g⟩ := h7 z hz9; exact ⟨sa, vk_R.warm hW g⟩, fun C hC => va_AO.moved hW.alike (h8 C hC), h9.moved hW.alike hq, sg_AAmoved hW.alike h10, sg_AAmoved hW.alike h11⟩
theorem sg_Cx.same {D : va_G} {cl : List vw_C} {tys : List (ClassId × FieldType)} {B : Nat} {b : Nat → Nat} {Ls : Nat} {xs : Nat → Int32} {Sx : List (String × Nat × String)} {Ax : List String} {s U : State} {H : Heap} (h : sg_Cx D cl tys B b Ls xs Sx Ax s H) (hv : U.vm = s.vm) : sg_Cx D cl tys B b Ls xs Sx Ax U H := by
  have hW : s.WarmedH U.vm := by rw [hv]; exact State.WarmedH.refl s
  exact h.moved hW (Nat.le_refl _) (fun _ _ _ => rfl)
/-- a method's frame -/
def sg_Fr (P : sg_P) (Tw : List Cond) (k : Nat) (p : Program) (l : Launch) (R : Room) (s : State) (m : MethodId) (args : Array Value) (meth : Method) (c : Code) : Prop :=
  p.tables.exec = Jvm.exec ∧ c.code = sg_C P k ∧ c.maxLocals = sg_N P k ∧ s.vm.findClass (sg_Y P k).cls = some m.cls ∧ (∀ w ∈ Tw, w.before args s = true) ∧ meth.sig.returnType = sg_T P k ∧ meth.locks = false ∧ R.frames = sg_fr P k ∧ R.locals = sg_lo P k ∧ meth.name = (sg_Y P k).name ∧ l.stackTraces = false ∧ c.exceptionTable.toList = tableOf (sg_hh P k)
/-- a point of a walk -/
def sg_J (D : va_G) (cl : List vw_C) (tys : List (ClassId × FieldType)) (B : Nat) (b : Nat → Nat) (nL : Nat) (s : State) (μ : Nat → Nat) (M : sg_M) (H : Heap) (ls : Array Slot) (L : sg_L) (st : List Value) (locs : List Loc) : Prop :=
  sg_I D cl tys B b μ M H ∧ (∀ q ∈ L, sg_wV M.2 q.2) ∧ (∀ v ∈ st, sg_wV M.2 v) ∧ lv_has ls nL (L.map (fun q => (q.1, sg_v μ q.2))) ∧ va_S (sg_A B) s.heap H locs
/-- what a step's outcome says of the walk -/
def sg_Res (D : va_G) (cl : List vw_C) (tys : List (ClassId × FieldType)) (B : Nat) (b : Nat → Nat) (P : sg_P) (Tw : List Cond) (k : Nat) (p : Program) (l : Launch) (e : Env) (R : Room) (s : State) (m : MethodId) (args : Array Value) (below : List Frame) (meth : Method) (c : Code) (μ : Nat → Nat) (M : sg_M) (H : Heap) (locs : List Loc) (cells slots pc : Nat) (ls : Array Slot) (st : List Value) (o : Option sg_O) : Prop := match o with
  | none => True
  | some (.inl (pc1, L1, st1, M1, dc, ds)) => M.2 ≤ M1.2 ∧ ∀ Q : State → Prop, cells + dc ≤ R.cells → slots + ds ≤ R.slots →
      (∀ (μ1 : Nat → Nat) (H1 : Heap) (locs1 : List Loc) (ls1 : Array Slot), sg_X μ μ1 M.2 → sg_J D cl tys B b (sg_N P k) s μ1 M1 H1 ls1 L1 st1 locs1 → W p l e R s m args below meth c H1 locs1 (cells + dc) (slots + ds) Q (F0 m pc1 ls1 (st1.map (sg_v μ1)))) →
      W p l e R s m args below meth c H locs cells slots Q (F0 m pc ls (st.map (sg_v μ)))
  | some (.inr (.inl (j, av, rest))) => (∀ v ∈ av, sg_wV M.2 v) ∧ (∀ v ∈ rest, sg_wV M.2 v) ∧ (lg_sl av).length ≤ sg_N P j ∧
      ∀ (Pc : Array Value → State → Prop) (Qc : Array Value → State → Outcome → State → Prop) (XC : String → State → State → Prop) (mc ms : Nat), vx_Met l (sg_Y P j) (sg_hw P j :: Tw) ⟨sg_fr P j, mc, ms, sg_lo P j⟩ Pc Qc XC mc ms (sg_A B) → FrameBlind Pc → (∀ U : State, U.heap = H → s.WarmedH U.vm → Pc (av.map (sg_v μ)).toArray U) → cells + mc ≤ R.cells → slots + ms ≤ R.slots →
        vx_Run p l e R s m args below meth c H locs cells slots mc ms (F0 m pc ls (st.map (sg_v μ))) (rest.map (sg_v μ)) (Qc (av.map (sg_v μ)).toArray) XC (sg_A B)
  | some (.inr (.inr (.inl v))) => (∀ x, v = some x → sg_wV M.2 x) ∧ ∀ (Qc : Array Value → State → Outcome → State → Prop) (XC : String → State → State → Prop) (free : Addr → Prop), (∀ t : State, t.heap = H → s.WarmedH t.vm → Qc args s (.returned (v.map (sg_v μ))) t) → (∀ q ∈ locs, free q.base) →
      W p l e R s m args below meth c H locs cells slots (vx_MQ below Qc XC args s cells slots free) (F0 m pc ls (st.map (sg_v μ)))
  | some (.inr (.inr (.inr E))) => ∀ (Qc : Array Value → State → Outcome → State → Prop) (XC : String → State → State → Prop) (free : Addr → Prop) (mc ms : Nat), (∀ t : State, s.vm.Alike t.vm → H.size ≤ t.heap.size → (∀ q : Nat, q < H.size → t.heap[q]? = H[q]?) → XC (sg_nm E) s t) → (∀ z ∈ locs, free z.base) → cells + 1 ≤ mc → slots + 6 ≤ ms → cells + 1 ≤ R.cells → slots + 6 ≤ R.slots →
      W p l e R s m args below meth c H locs cells slots (vx_MQ below Qc XC args s mc ms free) (F0 m pc ls (st.map (sg_v μ)))
/-- a step is sound where it stands -/
def sg_Ok (D : va_G) (cl : List vw_C) (tys : List (ClassId × FieldType)) (B : Nat) (b : Nat → Nat) (Ls : Nat) (xs : Nat → Int32) (Sx : List (String × Nat × String)) (Ax : List String) (P : sg_P) (Tw : List Cond) (k pc : Nat) (f : sg_F) : Prop :=
  ∀ (p : Program) (l : Launch) (e : Env) (R : Room) (s : State) (m : MethodId) (args : Array Value) (below : List Frame) (meth : Method) (c : Code), sg_Fr P Tw k p l R s m args meth c → sg_Cx D cl tys B b Ls xs Sx Ax s s.heap →
    ∀ (L : sg_L) (st : List Value) (M : sg_M) (μ : Nat → Nat) (H : Heap) (locs : List Loc) (cells slots : Nat) (ls : Array Slot), sg_J D cl tys B b (sg_N P k) s μ M H ls L st locs →
      sg_Res D cl tys B b P Tw k p l e R s m args below meth c μ M H locs cells slots pc ls st (f L st M)
section
variable {D : va_G} {cl : List vw_C} {tys : List (ClassId × FieldType)} {B : Nat} {b : Nat → Nat} {Ls : Nat} {xs : Nat → Int32} {Sx : List (String × Nat × String)} {Ax : List String} {P : sg_P} {Tw : List Cond} {k pc : Nat}
/-- a step that changes no cell -/
theorem sg_pure {p : Program} {l : Launch} {e : Env} {R : Room} {s : State} {m : MethodId} {args : Array Value} {below : List Frame} {meth : Method} {c : Code} {L L1 : sg_L} {st st1 : List Value} {M : sg_M} {μ : Nat → Nat} {H : Heap} {locs : List Loc} {cells slots pc1 : Nat} {ls : Array Slot} (hJ : sg_J D cl tys B b (sg_N P k) s μ M H ls L st locs)
    (hL : ∀ q ∈ L1, sg_wV M.2 q.2) (hst : ∀ v ∈ st1, sg_wV M.2 v) (h : ∀ Q : State → Prop, (∀ ls1 : Array Slot, lv_has ls1 (sg_N P k) (L1.map (fun q => (q.1, sg_v μ q.2))) → W p l e R s m args below meth c H locs cells slots Q (F0 m pc1 ls1 (st1.map (sg_v μ)))) → W p l e R s m args below meth c H locs cells slots Q (F0 m pc ls (st.map (sg_v μ)))) :
    sg_Res D cl tys B b P Tw k p l e R s m args below meth c μ M H locs cells slots pc ls st (sg_go pc1 L1 st1 M) :=
  ⟨Nat.le_refl _, fun Q _ _ kk => h Q (fun ls1 hl => kk μ H locs ls1 sg_X.rf ⟨hJ.1, hL, hst, hl, hJ.2.2.2.2⟩)⟩

def sg_k (pc n : Nat) (v : Value) : sg_F := fun L st M => sg_go (pc + n) L (v :: st) M
theorem sg_ok_iconst {n : Int} {v : Int32} (hd : decode (sg_C P k) pc = .ok (.iconst n, 1)) (hv : Int32.ofInt n = v) : sg_Ok D cl tys B b Ls xs Sx Ax P Tw k pc (sg_k pc 1 (.int v)) := by
  intro p l e R s m args below meth c hF hC L st M μ H locs cells slots ls hJ
  obtain ⟨hx, hb, hml, hown, hts, hret, hlk, hfr, hlo, hnm, htr, htb⟩ := hF
  exact sg_pure hJ hJ.2.1 (sg_cc sg_wi hJ.2.2.1) (fun Q kk => lv_iconst hx hb hd hv (kk ls hJ.2.2.2.1))
theorem sg_ok_bipush {n : Int} {v : Int32} (hd : decode (sg_C P k) pc = .ok (.bipush n, 2)) (hv : (Int8.ofInt n).toInt32 = v) : sg_Ok D cl tys B b Ls xs Sx Ax P Tw k pc (sg_k pc 2 (.int v)) := by
  intro p l e R s m args below meth c hF hC L st M μ H locs cells slots ls hJ
  obtain ⟨hx, hb, hml, hown, hts, hret, hlk, hfr, hlo, hnm, htr, htb⟩ := hF
  exact sg_pure hJ hJ.2.1 (sg_cc sg_wi hJ.2.2.1) (fun Q kk => lv_bipush hx hb hd hv (kk ls hJ.2.2.2.1))
theorem sg_ok_sipush {n : Int} {v : Int32} (hd : decode (sg_C P k) pc = .ok (.sipush n, 3)) (hv : (Int16.ofInt n).toInt32 = v) : sg_Ok D cl tys B b Ls xs Sx Ax P Tw k pc (sg_k pc 3 (.int v)) := by
  intro p l e R s m args below meth c hF hC L st M μ H locs cells slots ls hJ
  obtain ⟨hx, hb, hml, hown, hts, hret, hlk, hfr, hlo, hnm, htr, htb⟩ := hF
  exact sg_pure hJ hJ.2.1 (sg_cc sg_wi hJ.2.2.1) (fun Q kk => lv_sipush hx hb hd hv (kk ls hJ.2.2.2.1))
theorem sg_ok_lconst {n : Fin 2} {v : Int64} (hd : decode (sg_C P k) pc = .ok (.lconst n, 1)) (hv : Int64.ofNat (n : Nat) = v) : sg_Ok D cl tys B b Ls xs Sx Ax P Tw k pc (sg_k pc 1 (.long v)) := by
  intro p l e R s m args below meth c hF hC L st M μ H locs cells slots ls hJ
  obtain ⟨hx, hb, hml, hown, hts, hret, hlk, hfr, hlo, hnm, htr, htb⟩ := hF
  exact sg_pure hJ hJ.2.1 (sg_cc sg_wl hJ.2.2.1) (fun Q kk => lv_lconst hx hb hd hv (kk ls hJ.2.2.2.1))
theorem sg_ok_null  (hd : decode (sg_C P k) pc = .ok (.aconst_null, 1))  : sg_Ok D cl tys B b Ls xs Sx Ax P Tw k pc (sg_k pc 1 .null) := by
  intro p l e R s m args below meth c hF hC L st M μ H locs cells slots ls hJ
  obtain ⟨hx, hb, hml, hown, hts, hret, hlk, hfr, hlo, hnm, htr, htb⟩ := hF
  exact sg_pure hJ hJ.2.1 (sg_cc sg_wnull hJ.2.2.1) (fun Q kk => lv_null hx hb hd (kk ls hJ.2.2.2.1))
theorem sg_ok_ldc2 {i : Nat} {v : Int64} (hd : decode (sg_C P k) pc = .ok (.ldc2_w i, 3)) (hw : Cond.constantLong (sg_Y P k).cls i v ∈ Tw) : sg_Ok D cl tys B b Ls xs Sx Ax P Tw k pc (sg_k pc 3 (.long v)) := by
  intro p l e R s m args below meth c hF hC L st M μ H locs cells slots ls hJ
  obtain ⟨hx, hb, hml, hown, hts, hret, hlk, hfr, hlo, hnm, htr, htb⟩ := hF
  exact sg_pure hJ hJ.2.1 (sg_cc sg_wl hJ.2.2.1) (fun Q kk => lv_ldc2 hx hb hown (hts _ hw) hd (kk ls hJ.2.2.2.1))
theorem sg_ok_ldc {i : Nat} {v : Int32} (hd : decode (sg_C P k) pc = .ok (.ldc i, 2)) (hw : Cond.constant (sg_Y P k).cls i v ∈ Tw) : sg_Ok D cl tys B b Ls xs Sx Ax P Tw k pc (sg_k pc 2 (.int v)) := by
  intro p l e R s m args below meth c hF hC L st M μ H locs cells slots ls hJ
  obtain ⟨hx, hb, hml, hown, hts, hret, hlk, hfr, hlo, hnm, htr, htb⟩ := hF
  exact sg_pure hJ hJ.2.1 (sg_cc sg_wi hJ.2.2.1) (fun Q kk => lv_ldc hx hb hown (hts _ hw) hd (kk ls hJ.2.2.2.1))
theorem sg_ok_ldcw {i : Nat} {v : Int32} (hd : decode (sg_C P k) pc = .ok (.ldc_w i, 3)) (hw : Cond.constant (sg_Y P k).cls i v ∈ Tw) : sg_Ok D cl tys B b Ls xs Sx Ax P Tw k pc (sg_k pc 3 (.int v)) := by
  intro p l e R s m args below meth c hF hC L st M μ H locs cells slots ls hJ
  obtain ⟨hx, hb, hml, hown, hts, hret, hlk, hfr, hlo, hnm, htr, htb⟩ := hF
  exact sg_pure hJ hJ.2.1 (sg_cc sg_wi hJ.2.2.1) (fun Q kk => lv_ldcw hx hb hown (hts _ hw) hd (kk ls hJ.2.2.2.1))
def sg_iload (pc n i : Nat) : sg_F := fun L st M => match sg_at L i with
  | some (.int x) => sg_go (pc + n) L (.int x :: st) M
  | some (.retAddr x) => sg_go (pc + n) L (.retAddr x :: st) M
  | _ => none
theorem sg_ok_iload_n {i : Nat} {j : Fin 4} (hi : (j : Nat) = i) (hd : decode (sg_C P k) pc = .ok (.iload_n j, 1)) : sg_Ok D cl tys B b Ls xs Sx Ax P Tw k pc (sg_iload pc 1 i) := by
  intro p l e R s m args below meth c hF hC L st M μ H locs cells slots ls hJ
  obtain ⟨hx, hb, hml, hown, hts, hret, hlk, hfr, hlo, hnm, htr, htb⟩ := hF
  unfold sg_iload
  split
  · rename_i x hg
    exact sg_pure hJ hJ.2.1 (sg_cc sg_wi hJ.2.2.1) (fun Q kk => lv_iload_n hx hb hd hi (sg_at_ls hJ.2.2.2.1 hg) (kk ls hJ.2.2.2.1))
  · rename_i x hg
    exact sg_pure hJ hJ.2.1 (sg_cc (hJ.2.1 _ (sg_at_mem hg)) hJ.2.2.1) (fun Q kk => lv_iload_n hx hb hd hi (sg_at_ls hJ.2.2.2.1 hg) (kk ls hJ.2.2.2.1))
  · trivial
theorem sg_ok_iload {i : Nat} (hd : decode (sg_C P k) pc = .ok (.iload i, 2)) : sg_Ok D cl tys B b Ls xs Sx Ax P Tw k pc (sg_iload pc 2 i) := by
  intro p l e R s m args below meth c hF hC L st M μ H locs cells slots ls hJ
  obtain ⟨hx, hb, hml, hown, hts, hret, hlk, hfr, hlo, hnm, htr, htb⟩ := hF
  unfold sg_iload
  split
  · rename_i x hg
    exact sg_pure hJ hJ.2.1 (sg_cc sg_wi hJ.2.2.1) (fun Q kk => lv_iload hx hb hd (sg_at_ls hJ.2.2.2.1 hg) (kk ls hJ.2.2.2.1))
  · rename_i x hg
    exact sg_pure hJ hJ.2.1 (sg_cc (hJ.2.1 _ (sg_at_mem hg)) hJ.2.2.1) (fun Q kk => lv_iload hx hb hd (sg_at_ls hJ.2.2.2.1 hg) (kk ls hJ.2.2.2.1))
  · trivial
def sg_lload (pc n i : Nat) : sg_F := fun L st M => match sg_at L i with
  | some (.long x) => sg_go (pc + n) L (.long x :: st) M
  | _ => none
theorem sg_ok_lload_n {i : Nat} {j : Fin 4} (hi : (j : Nat) = i) (hd : decode (sg_C P k) pc = .ok (.lload_n j, 1)) : sg_Ok D cl tys B b Ls xs Sx Ax P Tw k pc (sg_lload pc 1 i) := by
  intro p l e R s m args below meth c hF hC L st M μ H locs cells slots ls hJ
  obtain ⟨hx, hb, hml, hown, hts, hret, hlk, hfr, hlo, hnm, htr, htb⟩ := hF
  unfold sg_lload
  split
  · rename_i x hg
    exact sg_pure hJ hJ.2.1 (sg_cc sg_wl hJ.2.2.1) (fun Q kk => lv_lload_n hx hb hd hi (sg_at_ls hJ.2.2.2.1 hg) (kk ls hJ.2.2.2.1))
  · trivial
theorem sg_ok_lload {i : Nat} (hd : decode (sg_C P k) pc = .ok (.lload i, 2)) : sg_Ok D cl tys B b Ls xs Sx Ax P Tw k pc (sg_lload pc 2 i) := by
  intro p l e R s m args below meth c hF hC L st M μ H locs cells slots ls hJ
  obtain ⟨hx, hb, hml, hown, hts, hret, hlk, hfr, hlo, hnm, htr, htb⟩ := hF
  unfold sg_lload
  split
  · rename_i x hg
    exact sg_pure hJ hJ.2.1 (sg_cc sg_wl hJ.2.2.1) (fun Q kk => lv_lload hx hb hd (sg_at_ls hJ.2.2.2.1 hg) (kk ls hJ.2.2.2.1))
  · trivial
def sg_aload (pc n i : Nat) : sg_F := fun L st M => match sg_at L i with
  | some (.ref x) => sg_go (pc + n) L (.ref x :: st) M
  | some .null => sg_go (pc + n) L (.null :: st) M
  | _ => none
theorem sg_ok_aload_n {i : Nat} {j : Fin 4} (hi : (j : Nat) = i) (hd : decode (sg_C P k) pc = .ok (.aload_n j, 1)) : sg_Ok D cl tys B b Ls xs Sx Ax P Tw k pc (sg_aload pc 1 i) := by
  intro p l e R s m args below meth c hF hC L st M μ H locs cells slots ls hJ
  obtain ⟨hx, hb, hml, hown, hts, hret, hlk, hfr, hlo, hnm, htr, htb⟩ := hF
  unfold sg_aload
  split
  · rename_i x hg
    exact sg_pure hJ hJ.2.1 (sg_cc (hJ.2.1 _ (sg_at_mem hg)) hJ.2.2.1) (fun Q kk => lv_aload_n hx hb hd hi (sg_at_ls hJ.2.2.2.1 hg) (kk ls hJ.2.2.2.1))
  · rename_i hg
    exact sg_pure hJ hJ.2.1 (sg_cc sg_wnull hJ.2.2.1) (fun Q kk => lv_aload_nN hx hb hd hi (sg_at_ls hJ.2.2.2.1 hg) (kk ls hJ.2.2.2.1))
  · trivial
theorem sg_ok_aload {i : Nat} (hd : decode (sg_C P k) pc = .ok (.aload i, 2)) : sg_Ok D cl tys B b Ls xs Sx Ax P Tw k pc (sg_aload pc 2 i) := by
  intro p l e R s m args below meth c hF hC L st M μ H locs cells slots ls hJ
  obtain ⟨hx, hb, hml, hown, hts, hret, hlk, hfr, hlo, hnm, htr, htb⟩ := hF
  unfold sg_aload
  split
  · rename_i x hg
    exact sg_pure hJ hJ.2.1 (sg_cc (hJ.2.1 _ (sg_at_mem hg)) hJ.2.2.1) (fun Q kk => lv_aload hx hb hd (sg_at_ls hJ.2.2.2.1 hg) (kk ls hJ.2.2.2.1))
  · rename_i hg
    exact sg_pure hJ hJ.2.1 (sg_cc sg_wnull hJ.2.2.1) (fun Q kk => lv_aloadN hx hb hd (sg_at_ls hJ.2.2.2.1 hg) (kk ls hJ.2.2.2.1))
  · trivial
def sg_istore (pc n i : Nat) : sg_F := fun L st M => match st with
  | .int x :: r => sg_go (pc + n) (sg_st1 L i (.int x)) r M
  | _ => none
def sg_lstore (pc n i : Nat) : sg_F := fun L st M => match st with
  | .long x :: r => sg_go (pc + n) (sg_st2 L i (.long x)) r M
  | _ => none
def sg_astore (pc n i : Nat) : sg_F := fun L st M => match st with
  | .ref x :: r => sg_go (pc + n) (sg_st1 L i (.ref x)) r M
  | .null :: r => sg_go (pc + n) (sg_st1 L i .null) r M
  | _ => none
theorem sg_ok_istore_n {i : Nat} {j : Fin 4} (hi : (j : Nat) = i) (hn : i < sg_N P k) (hd : decode (sg_C P k) pc = .ok (.istore_n j, 1)) : sg_Ok D cl tys B b Ls xs Sx Ax P Tw k pc (sg_istore pc 1 i) := by
  intro p l e R s m args below meth c hF hC L st M μ H locs cells slots ls hJ
  obtain ⟨hx, hb, hml, hown, hts, hret, hlk, hfr, hlo, hnm, htr, htb⟩ := hF
  unfold sg_istore
  split
  · rename_i x r
    exact sg_pure hJ (sg_st1_w hJ.2.1 (sg_c1 hJ.2.2.1).1) (sg_c1 hJ.2.2.1).2 (fun Q kk => lv_istore_n hx hb hd hi hJ.2.2.2.1 hn rfl (fun ls1 hl1 => kk ls1 (sg_sub hl1 (sg_st1_map (μ := μ) (v := .int x)))))
  · trivial
theorem sg_ok_istore {i : Nat} (hn : i < sg_N P k) (hd : decode (sg_C P k) pc = .ok (.istore i, 2)) : sg_Ok D cl tys B b Ls xs Sx Ax P Tw k pc (sg_istore pc 2 i) := by
  intro p l e R s m args below meth c hF hC L st M μ H locs cells slots ls hJ
  obtain ⟨hx, hb, hml, hown, hts, hret, hlk, hfr, hlo, hnm, htr, htb⟩ := hF
  unfold sg_istore
  split
  · rename_i x r
    exact sg_pure hJ (sg_st1_w hJ.2.1 (sg_c1 hJ.2.2.1).1) (sg_c1 hJ.2.2.1).2 (fun Q kk => lv_istore hx hb hd hJ.2.2.2.1 hn rfl (fun ls1 hl1 => kk ls1 (sg_sub hl1 (sg_st1_map (μ := μ) (v := .int x)))))
  · trivial
theorem sg_ok_lstore_n {i : Nat} {j : Fin 4} (hi : (j : Nat) = i) (hn : i + 1 < sg_N P k) (hd : decode (sg_C P k) pc = .ok (.lstore_n j, 1)) : sg_Ok D cl tys B b Ls xs Sx Ax P Tw k pc (sg_lstore pc 1 i) := by
  intro p l e R s m args below meth c hF hC L st M μ H locs cells slots ls hJ
  obtain ⟨hx, hb, hml, hown, hts, hret, hlk, hfr, hlo, hnm, htr, htb⟩ := hF
  unfold sg_lstore
  split
  · rename_i x r
    exact sg_pure hJ (sg_st2_w hJ.2.1 (sg_c1 hJ.2.2.1).1) (sg_c1 hJ.2.2.1).2 (fun Q kk => lv_lstore_n hx hb hd hi hJ.2.2.2.1 hn rfl (fun ls1 hl1 => kk ls1 (sg_sub hl1 (sg_st2_map (μ := μ) (v := .long x)))))
  · trivial
theorem sg_ok_lstore {i : Nat} (hn : i + 1 < sg_N P k) (hd : decode (sg_C P k) pc = .ok (.lstore i, 2)) : sg_Ok D cl tys B b Ls xs Sx Ax P Tw k pc (sg_lstore pc 2 i) := by
  intro p l e R s m args below meth c hF hC L st M μ H locs cells slots ls hJ
  obtain ⟨hx, hb, hml, hown, hts, hret, hlk, hfr, hlo, hnm, htr, htb⟩ := hF
  unfold sg_lstore
  split
  · rename_i x r
    exact sg_pure hJ (sg_st2_w hJ.2.1 (sg_c1 hJ.2.2.1).1) (sg_c1 hJ.2.2.1).2 (fun Q kk => lv_lstore hx hb hd hJ.2.2.2.1 hn rfl (fun ls1 hl1 => kk ls1 (sg_sub hl1 (sg_st2_map (μ := μ) (v := .long x)))))
  · trivial
theorem sg_ok_astore_n {i : Nat} {j : Fin 4} (hi : (j : Nat) = i) (hn : i < sg_N P k) (hd : decode (sg_C P k) pc = .ok (.astore_n j, 1)) : sg_Ok D cl tys B b Ls xs Sx Ax P Tw k pc (sg_astore pc 1 i) := by
  intro p l e R s m args below meth c hF hC L st M μ H locs cells slots ls hJ
  obtain ⟨hx, hb, hml, hown, hts, hret, hlk, hfr, hlo, hnm, htr, htb⟩ := hF
  unfold sg_astore
  split
  · rename_i x r
    exact sg_pure hJ (sg_st1_w hJ.2.1 (sg_c1 hJ.2.2.1).1) (sg_c1 hJ.2.2.1).2 (fun Q kk => lv_astore_n hx hb hd hi hJ.2.2.2.1 hn rfl (fun ls1 hl1 => kk ls1 (sg_sub hl1 (sg_st1_map (μ := μ) (v := .ref x)))))
  · exact sg_pure hJ (sg_st1_w hJ.2.1 (sg_c1 hJ.2.2.1).1) (sg_c1 hJ.2.2.1).2 (fun Q kk => lv_astore_nN hx hb hd hi hJ.2.2.2.1 hn rfl (fun ls1 hl1 => kk ls1 (sg_sub hl1 (sg_st1_map (μ := μ) (v := .null)))))
  · trivial
theorem sg_ok_astore {i : Nat} (hn : i < sg_N P k) (hd : decode (sg_C P k) pc = .ok (.astore i, 2)) : sg_Ok D cl tys B b Ls xs Sx Ax P Tw k pc (sg_astore pc 2 i) := by
  intro p l e R s m args below meth c hF hC L st M μ H locs cells slots ls hJ
  obtain ⟨hx, hb, hml, hown, hts, hret, hlk, hfr, hlo, hnm, htr, htb⟩ := hF
  unfold sg_astore
  split
  · rename_i x r
    exact sg_pure hJ (sg_st1_w hJ.2.1 (sg_c1 hJ.2.2.1).1) (sg_c1 hJ.2.2.1).2 (fun Q kk => lv_astore hx hb hd hJ.2.2.2.1 hn rfl (fun ls1 hl1 => kk ls1 (sg_sub hl1 (sg_st1_map (μ := μ) (v := .ref x)))))
  · exact sg_pure hJ (sg_st1_w hJ.2.1 (sg_c1 hJ.2.2.1).1) (sg_c1 hJ.2.2.1).2 (fun Q kk => lv_astoreN hx hb hd hJ.2.2.2.1 hn rfl (fun ls1 hl1 => kk ls1 (sg_sub hl1 (sg_st1_map (μ := μ) (v := .null)))))
  · trivial
def sg_iinc (pc i : Nat) (n : Int) : sg_F := fun L st M => match sg_at L i with
  | some (.int x) => sg_go (pc + 3) (sg_st1 L i (.int (x + Int32.ofInt n))) st M
  | _ => none
theorem sg_ok_iinc {i : Nat} {n : Int} (hn : i < sg_N P k) (hd : decode (sg_C P k) pc = .ok (.iinc i n, 3)) : sg_Ok D cl tys B b Ls xs Sx Ax P Tw k pc (sg_iinc pc i n) := by
  intro p l e R s m args below meth c hF hC L st M μ H locs cells slots ls hJ
  obtain ⟨hx, hb, hml, hown, hts, hret, hlk, hfr, hlo, hnm, htr, htb⟩ := hF
  unfold sg_iinc
  split
  · rename_i x hg
    obtain ⟨q, hq⟩ := List.getElem?_of_mem (List.mem_map.mpr ⟨(i, .int x), sg_at_mem hg, rfl⟩ : (i, Value.int x) ∈ L.map (fun q => (q.1, sg_v μ q.2)))
    exact sg_pure hJ (sg_st1_w hJ.2.1 sg_wi) hJ.2.2.1 (fun Q kk => lv_iinc hx hb hd hJ.2.2.2.1 hq rfl hn rfl (fun ls1 hl1 => kk ls1 (sg_sub hl1 (sg_st1_map (μ := μ) (v := .int (x + Int32.ofInt n))))))
  · trivial
def sg_iadd (pc : Nat) : sg_F := fun L st M => match st with
  | .int y :: .int x :: r => sg_go (pc + 1) L (.int (x + y) :: r) M
  | _ => none
theorem sg_ok_iadd (hd : decode (sg_C P k) pc = .ok (.iadd, 1)) : sg_Ok D cl tys B b Ls xs Sx Ax P Tw k pc (sg_iadd pc) := by
  intro p l e R s m args below meth c hF hC L st M μ H locs cells slots ls hJ
  obtain ⟨hx, hb, hml, hown, hts, hret, hlk, hfr, hlo, hnm, htr, htb⟩ := hF
  unfold sg_iadd
  split
  · exact sg_pure hJ hJ.2.1 (sg_cc sg_wi (sg_c1 (sg_c1 hJ.2.2.1).2).2) (fun Q kk => lv_iadd hx hb hd  (kk ls hJ.2.2.2.1))
  · trivial
def sg_isub (pc : Nat) : sg_F := fun L st M => match st with
  | .int y :: .int x :: r => sg_go (pc + 1) L (.int (x - y) :: r) M
  | _ => none
theorem sg_ok_isub (hd : decode (sg_C P k) pc = .ok (.isub, 1)) : sg_Ok D cl tys B b Ls xs Sx Ax P Tw k pc (sg_isub pc) := by
  intro p l e R s m args below meth c hF hC L st M μ H locs cells slots ls hJ
  obtain ⟨hx, hb, hml, hown, hts, hret, hlk, hfr, hlo, hnm, htr, htb⟩ := hF
  unfold sg_isub
  split
  · exact sg_pure hJ hJ.2.1 (sg_cc sg_wi (sg_c1 (sg_c1 hJ.2.2.1).2).2) (fun Q kk => lv_isub hx hb hd  (kk ls hJ.2.2.2.1))
  · trivial
def sg_imul (pc : Nat) : sg_F := fun L st M => match st with
  | .int y :: .int x :: r => sg_go (pc + 1) L (.int (x * y) :: r) M
  | _ => none
theorem sg_ok_imul (hd : decode (sg_C P k) pc = .ok (.imul, 1)) : sg_Ok D cl tys B b Ls xs Sx Ax P Tw k pc (sg_imul pc) := by
  intro p l e R s m args below meth c hF hC L st M μ H locs cells slots ls hJ
  obtain ⟨hx, hb, hml, hown, hts, hret, hlk, hfr, hlo, hnm, htr, htb⟩ := hF
  unfold sg_imul
  split
  · exact sg_pure hJ hJ.2.1 (sg_cc sg_wi (sg_c1 (sg_c1 hJ.2.2.1).2).2) (fun Q kk => lv_imul hx hb hd  (kk ls hJ.2.2.2.1))
  · trivial
def sg_iand (pc : Nat) : sg_F := fun L st M => match st with
  | .int y :: .int x :: r => sg_go (pc + 1) L (.int (x &&& y) :: r) M
  | _ => none
theorem sg_ok_iand (hd : decode (sg_C P k) pc = .ok (.iand, 1)) : sg_Ok D cl tys B b Ls xs Sx Ax P Tw k pc (sg_iand pc) := by
  intro p l e R s m args below meth c hF hC L st M μ H locs cells slots ls hJ
  obtain ⟨hx, hb, hml, hown, hts, hret, hlk, hfr, hlo, hnm, htr, htb⟩ := hF
  unfold sg_iand
  split
  · exact sg_pure hJ hJ.2.1 (sg_cc sg_wi (sg_c1 (sg_c1 hJ.2.2.1).2).2) (fun Q kk => lv_iand hx hb hd  (kk ls hJ.2.2.2.1))
  · trivial
def sg_ior (pc : Nat) : sg_F := fun L st M => match st with
  | .int y :: .int x :: r => sg_go (pc + 1) L (.int (x ||| y) :: r) M
  | _ => none
theorem sg_ok_ior (hd : decode (sg_C P k) pc = .ok (.ior, 1)) : sg_Ok D cl tys B b Ls xs Sx Ax P Tw k pc (sg_ior pc) := by
  intro p l e R s m args below meth c hF hC L st M μ H locs cells slots ls hJ
  obtain ⟨hx, hb, hml, hown, hts, hret, hlk, hfr, hlo, hnm, htr, htb⟩ := hF
  unfold sg_ior
  split
  · exact sg_pure hJ hJ.2.1 (sg_cc sg_wi (sg_c1 (sg_c1 hJ.2.2.1).2).2) (fun Q kk => lv_ior hx hb hd  (kk ls hJ.2.2.2.1))
  · trivial
def sg_ixor (pc : Nat) : sg_F := fun L st M => match st with
  | .int y :: .int x :: r => sg_go (pc + 1) L (.int (x ^^^ y) :: r) M
  | _ => none
theorem sg_ok_ixor (hd : decode (sg_C P k) pc = .ok (.ixor, 1)) : sg_Ok D cl tys B b Ls xs Sx Ax P Tw k pc (sg_ixor pc) := by
  intro p l e R s m args below meth c hF hC L st M μ H locs cells slots ls hJ
  obtain ⟨hx, hb, hml, hown, hts, hret, hlk, hfr, hlo, hnm, htr, htb⟩ := hF
  unfold sg_ixor
  split
  · exact sg_pure hJ hJ.2.1 (sg_cc sg_wi (sg_c1 (sg_c1 hJ.2.2.1).2).2) (fun Q kk => lv_ixor hx hb hd  (kk ls hJ.2.2.2.1))
  · trivial
def sg_ishl (pc : Nat) : sg_F := fun L st M => match st with
  | .int y :: .int x :: r => sg_go (pc + 1) L (.int (x <<< (y &&& 31)) :: r) M
  | _ => none
theorem sg_ok_ishl (hd : decode (sg_C P k) pc = .ok (.ishl, 1)) : sg_Ok D cl tys B b Ls xs Sx Ax P Tw k pc (sg_ishl pc) := by
  intro p l e R s m args below meth c hF hC L st M μ H locs cells slots ls hJ
  obtain ⟨hx, hb, hml, hown, hts, hret, hlk, hfr, hlo, hnm, htr, htb⟩ := hF
  unfold sg_ishl
  split
  · exact sg_pure hJ hJ.2.1 (sg_cc sg_wi (sg_c1 (sg_c1 hJ.2.2.1).2).2) (fun Q kk => lv_ishl hx hb hd  (kk ls hJ.2.2.2.1))
  · trivial
def sg_ishr (pc : Nat) : sg_F := fun L st M => match st with
  | .int y :: .int x :: r => sg_go (pc + 1) L (.int (x >>> (y &&& 31)) :: r) M
  | _ => none
theorem sg_ok_ishr (hd : decode (sg_C P k) pc = .ok (.ishr, 1)) : sg_Ok D cl tys B b Ls xs Sx Ax P Tw k pc (sg_ishr pc) := by
  intro p l e R s m args below meth c hF hC L st M μ H locs cells slots ls hJ
  obtain ⟨hx, hb, hml, hown, hts, hret, hlk, hfr, hlo, hnm, htr, htb⟩ := hF
  unfold sg_ishr
  split
  · exact sg_pure hJ hJ.2.1 (sg_cc sg_wi (sg_c1 (sg_c1 hJ.2.2.1).2).2) (fun Q kk => lv_ishr hx hb hd  (kk ls hJ.2.2.2.1))
  · trivial
def sg_iushr (pc : Nat) : sg_F := fun L st M => match st with
  | .int y :: .int x :: r => sg_go (pc + 1) L (.int (x.toUInt32 >>> (y.toUInt32 &&& Int32.toUInt32 31)).toInt32 :: r) M
  | _ => none
theorem sg_ok_iushr (hd : decode (sg_C P k) pc = .ok (.iushr, 1)) : sg_Ok D cl tys B b Ls xs Sx Ax P Tw k pc (sg_iushr pc) := by
  intro p l e R s m args below meth c hF hC L st M μ H locs cells slots ls hJ
  obtain ⟨hx, hb, hml, hown, hts, hret, hlk, hfr, hlo, hnm, htr, htb⟩ := hF
  unfold sg_iushr
  split
  · exact sg_pure hJ hJ.2.1 (sg_cc sg_wi (sg_c1 (sg_c1 hJ.2.2.1).2).2) (fun Q kk => lv_iushr hx hb hd rfl (kk ls hJ.2.2.2.1))
  · trivial
def sg_idiv (pc : Nat) : sg_F := fun L st M => match st with
  | .int y :: .int x :: r => if y = 0 then none else sg_go (pc + 1) L (.int (x / y) :: r) M
  | _ => none
theorem sg_ok_idiv (hd : decode (sg_C P k) pc = .ok (.idiv, 1)) : sg_Ok D cl tys B b Ls xs Sx Ax P Tw k pc (sg_idiv pc) := by
  intro p l e R s m args below meth c hF hC L st M μ H locs cells slots ls hJ
  obtain ⟨hx, hb, hml, hown, hts, hret, hlk, hfr, hlo, hnm, htr, htb⟩ := hF
  unfold sg_idiv
  split
  · split
    · trivial
    · rename_i hne
      exact sg_pure hJ hJ.2.1 (sg_cc sg_wi (sg_c1 (sg_c1 hJ.2.2.1).2).2) (fun Q kk => lv_idiv hx hb hd hne (kk ls hJ.2.2.2.1))
  · trivial
def sg_irem (pc : Nat) : sg_F := fun L st M => match st with
  | .int y :: .int x :: r => if y = 0 then none else sg_go (pc + 1) L (.int (x - x / y * y) :: r) M
  | _ => none
theorem sg_ok_irem (hd : decode (sg_C P k) pc = .ok (.irem, 1)) : sg_Ok D cl tys B b Ls xs Sx Ax P Tw k pc (sg_irem pc) := by
  intro p l e R s m args below meth c hF hC L st M μ H locs cells slots ls hJ
  obtain ⟨hx, hb, hml, hown, hts, hret, hlk, hfr, hlo, hnm, htr, htb⟩ := hF
  unfold sg_irem
  split
  · split
    · trivial
    · rename_i hne
      exact sg_pure hJ hJ.2.1 (sg_cc sg_wi (sg_c1 (sg_c1 hJ.2.2.1).2).2) (fun Q kk => lv_irem hx hb hd hne (kk ls hJ.2.2.2.1))
  · trivial
def sg_ladd (pc : Nat) : sg_F := fun L st M => match st with
  | .long y :: .long x :: r => sg_go (pc + 1) L (.long (x + y) :: r) M
  | _ => none
theorem sg_ok_ladd (hd : decode (sg_C P k) pc = .ok (.ladd, 1)) : sg_Ok D cl tys B b Ls xs Sx Ax P Tw k pc (sg_ladd pc) := by
  intro p l e R s m args below meth c hF hC L st M μ H locs cells slots ls hJ
  obtain ⟨hx, hb, hml, hown, hts, hret, hlk, hfr, hlo, hnm, htr, htb⟩ := hF
  unfold sg_ladd
  split
  · exact sg_pure hJ hJ.2.1 (sg_cc sg_wl (sg_c1 (sg_c1 hJ.2.2.1).2).2) (fun Q kk => lv_ladd hx hb hd  (kk ls hJ.2.2.2.1))
  · trivial
def sg_lsub (pc : Nat) : sg_F := fun L st M => match st with
  | .long y :: .long x :: r => sg_go (pc + 1) L (.long (x - y) :: r) M
  | _ => none
theorem sg_ok_lsub (hd : decode (sg_C P k) pc = .ok (.lsub, 1)) : sg_Ok D cl tys B b Ls xs Sx Ax P Tw k pc (sg_lsub pc) := by
  intro p l e R s m args below meth c hF hC L st M μ H locs cells slots ls hJ
  obtain ⟨hx, hb, hml, hown, hts, hret, hlk, hfr, hlo, hnm, htr, htb⟩ := hF
  unfold sg_lsub
  split
  · exact sg_pure hJ hJ.2.1 (sg_cc sg_wl (sg_c1 (sg_c1 hJ.2.2.1).2).2) (fun Q kk => lv_lsub hx hb hd  (kk ls hJ.2.2.2.1))
  · trivial
def sg_lmul (pc : Nat) : sg_F := fun L st M => match st with
  | .long y :: .long x :: r => sg_go (pc + 1) L (.long (x * y) :: r) M
  | _ => none
theorem sg_ok_lmul (hd : decode (sg_C P k) pc = .ok (.lmul, 1)) : sg_Ok D cl tys B b Ls xs Sx Ax P Tw k pc (sg_lmul pc) := by
  intro p l e R s m args below meth c hF hC L st M μ H locs cells slots ls hJ
  obtain ⟨hx, hb, hml, hown, hts, hret, hlk, hfr, hlo, hnm, htr, htb⟩ := hF
  unfold sg_lmul
  split
  · exact sg_pure hJ hJ.2.1 (sg_cc sg_wl (sg_c1 (sg_c1 hJ.2.2.1).2).2) (fun Q kk => lv_lmul hx hb hd  (kk ls hJ.2.2.2.1))
  · trivial
def sg_land (pc : Nat) : sg_F := fun L st M => match st with
  | .long y :: .long x :: r => sg_go (pc + 1) L (.long (x &&& y) :: r) M
  | _ => none
theorem sg_ok_land (hd : decode (sg_C P k) pc = .ok (.land, 1)) : sg_Ok D cl tys B b Ls xs Sx Ax P Tw k pc (sg_land pc) := by
  intro p l e R s m args below meth c hF hC L st M μ H locs cells slots ls hJ
  obtain ⟨hx, hb, hml, hown, hts, hret, hlk, hfr, hlo, hnm, htr, htb⟩ := hF
  unfold sg_land
  split
  · exact sg_pure hJ hJ.2.1 (sg_cc sg_wl (sg_c1 (sg_c1 hJ.2.2.1).2).2) (fun Q kk => lv_land hx hb hd  (kk ls hJ.2.2.2.1))
  · trivial
def sg_lor (pc : Nat) : sg_F := fun L st M => match st with
  | .long y :: .long x :: r => sg_go (pc + 1) L (.long (x ||| y) :: r) M
  | _ => none
theorem sg_ok_lor (hd : decode (sg_C P k) pc = .ok (.lor, 1)) : sg_Ok D cl tys B b Ls xs Sx Ax P Tw k pc (sg_lor pc) := by
  intro p l e R s m args below meth c hF hC L st M μ H locs cells slots ls hJ
  obtain ⟨hx, hb, hml, hown, hts, hret, hlk, hfr, hlo, hnm, htr, htb⟩ := hF
  unfold sg_lor
  split
  · exact sg_pure hJ hJ.2.1 (sg_cc sg_wl (sg_c1 (sg_c1 hJ.2.2.1).2).2) (fun Q kk => lv_lor hx hb hd  (kk ls hJ.2.2.2.1))
  · trivial
def sg_lxor (pc : Nat) : sg_F := fun L st M => match st with
  | .long y :: .long x :: r => sg_go (pc + 1) L (.long (x ^^^ y) :: r) M
  | _ => none
theorem sg_ok_lxor (hd : decode (sg_C P k) pc = .ok (.lxor, 1)) : sg_Ok D cl tys B b Ls xs Sx Ax P Tw k pc (sg_lxor pc) := by
  intro p l e R s m args below meth c hF hC L st M μ H locs cells slots ls hJ
  obtain ⟨hx, hb, hml, hown, hts, hret, hlk, hfr, hlo, hnm, htr, htb⟩ := hF
  unfold sg_lxor
  split
  · exact sg_pure hJ hJ.2.1 (sg_cc sg_wl (sg_c1 (sg_c1 hJ.2.2.1).2).2) (fun Q kk => lv_lxor hx hb hd  (kk ls hJ.2.2.2.1))
  · trivial
def sg_lcmp (pc : Nat) : sg_F := fun L st M => match st with
  | .long y :: .long x :: r => sg_go (pc + 1) L (.int (lg_cmp x y) :: r) M
  | _ => none
theorem sg_ok_lcmp (hd : decode (sg_C P k) pc = .ok (.lcmp, 1)) : sg_Ok D cl tys B b Ls xs Sx Ax P Tw k pc (sg_lcmp pc) := by
  intro p l e R s m args below meth c hF hC L st M μ H locs cells slots ls hJ
  obtain ⟨hx, hb, hml, hown, hts, hret, hlk, hfr, hlo, hnm, htr, htb⟩ := hF
  unfold sg_lcmp
  split
  · exact sg_pure hJ hJ.2.1 (sg_cc sg_wi (sg_c1 (sg_c1 hJ.2.2.1).2).2) (fun Q kk => W.lcmp hx hb hd  (kk ls hJ.2.2.2.1))
  · trivial
def sg_lshl (pc : Nat) : sg_F := fun L st M => match st with
  | .int y :: .long x :: r => sg_go (pc + 1) L (.long (x <<< (y.toInt64 &&& 63)) :: r) M
  | _ => none
theorem sg_ok_lshl (hd : decode (sg_C P k) pc = .ok (.lshl, 1)) : sg_Ok D cl tys B b Ls xs Sx Ax P Tw k pc (sg_lshl pc) := by
  intro p l e R s m args below meth c hF hC L st M μ H locs cells slots ls hJ
  obtain ⟨hx, hb, hml, hown, hts, hret, hlk, hfr, hlo, hnm, htr, htb⟩ := hF
  unfold sg_lshl
  split
  · exact sg_pure hJ hJ.2.1 (sg_cc sg_wl (sg_c1 (sg_c1 hJ.2.2.1).2).2) (fun Q kk => lv_lshl hx hb hd rfl (kk ls hJ.2.2.2.1))
  · trivial
def sg_lshr (pc : Nat) : sg_F := fun L st M => match st with
  | .int y :: .long x :: r => sg_go (pc + 1) L (.long (x >>> (y.toInt64 &&& 63)) :: r) M
  | _ => none
theorem sg_ok_lshr (hd : decode (sg_C P k) pc = .ok (.lshr, 1)) : sg_Ok D cl tys B b Ls xs Sx Ax P Tw k pc (sg_lshr pc) := by
  intro p l e R s m args below meth c hF hC L st M μ H locs cells slots ls hJ
  obtain ⟨hx, hb, hml, hown, hts, hret, hlk, hfr, hlo, hnm, htr, htb⟩ := hF
  unfold sg_lshr
  split
  · exact sg_pure hJ hJ.2.1 (sg_cc sg_wl (sg_c1 (sg_c1 hJ.2.2.1).2).2) (fun Q kk => lv_lshr hx hb hd rfl (kk ls hJ.2.2.2.1))
  · trivial
def sg_lushr (pc : Nat) : sg_F := fun L st M => match st with
  | .int y :: .long x :: r => sg_go (pc + 1) L (.long (x.toUInt64 >>> (y.toInt64.toUInt64 &&& Int64.toUInt64 63)).toInt64 :: r) M
  | _ => none
theorem sg_ok_lushr (hd : decode (sg_C P k) pc = .ok (.lushr, 1)) : sg_Ok D cl tys B b Ls xs Sx Ax P Tw k pc (sg_lushr pc) := by
  intro p l e R s m args below meth c hF hC L st M μ H locs cells slots ls hJ
  obtain ⟨hx, hb, hml, hown, hts, hret, hlk, hfr, hlo, hnm, htr, htb⟩ := hF
  unfold sg_lushr
  split
  · exact sg_pure hJ hJ.2.1 (sg_cc sg_wl (sg_c1 (sg_c1 hJ.2.2.1).2).2) (fun Q kk => lv_lushr hx hb hd rfl (kk ls hJ.2.2.2.1))
  · trivial
def sg_i2l (pc : Nat) : sg_F := fun L st M => match st with
  | .int x :: r => sg_go (pc + 1) L (.long x.toInt64 :: r) M
  | _ => none
theorem sg_ok_i2l (hd : decode (sg_C P k) pc = .ok (.i2l, 1)) : sg_Ok D cl tys B b Ls xs Sx Ax P Tw k pc (sg_i2l pc) := by
  intro p l e R s m args below meth c hF hC L st M μ H locs cells slots ls hJ
  obtain ⟨hx, hb, hml, hown, hts, hret, hlk, hfr, hlo, hnm, htr, htb⟩ := hF
  unfold sg_i2l
  split
  · exact sg_pure hJ hJ.2.1 (sg_cc sg_wl (sg_c1 hJ.2.2.1).2) (fun Q kk => lv_i2l hx hb hd rfl (kk ls hJ.2.2.2.1))
  · trivial
def sg_l2i (pc : Nat) : sg_F := fun L st M => match st with
  | .long x :: r => sg_go (pc + 1) L (.int x.toInt32 :: r) M
  | _ => none
theorem sg_ok_l2i (hd : decode (sg_C P k) pc = .ok (.l2i, 1)) : sg_Ok D cl tys B b Ls xs Sx Ax P Tw k pc (sg_l2i pc) := by
  intro p l e R s m args below meth c hF hC L st M μ H locs cells slots ls hJ
  obtain ⟨hx, hb, hml, hown, hts, hret, hlk, hfr, hlo, hnm, htr, htb⟩ := hF
  unfold sg_l2i
  split
  · exact sg_pure hJ hJ.2.1 (sg_cc sg_wi (sg_c1 hJ.2.2.1).2) (fun Q kk => lv_l2i hx hb hd rfl (kk ls hJ.2.2.2.1))
  · trivial
def sg_ineg (pc : Nat) : sg_F := fun L st M => match st with
  | .int x :: r => sg_go (pc + 1) L (.int (-x) :: r) M
  | _ => none
theorem sg_ok_ineg (hd : decode (sg_C P k) pc = .ok (.ineg, 1)) : sg_Ok D cl tys B b Ls xs Sx Ax P Tw k pc (sg_ineg pc) := by
  intro p l e R s m args below meth c hF hC L st M μ H locs cells slots ls hJ
  obtain ⟨hx, hb, hml, hown, hts, hret, hlk, hfr, hlo, hnm, htr, htb⟩ := hF
  unfold sg_ineg
  split
  · exact sg_pure hJ hJ.2.1 (sg_cc sg_wi (sg_c1 hJ.2.2.1).2) (fun Q kk => lv_ineg hx hb hd  (kk ls hJ.2.2.2.1))
  · trivial
def sg_dup (pc : Nat) : sg_F := fun L st M => match st with
  | v :: r => if v.category = 1 then sg_go (pc + 1) L (v :: v :: r) M else none
  | _ => none
theorem sg_ok_dup (hd : decode (sg_C P k) pc = .ok (.dup, 1)) : sg_Ok D cl tys B b Ls xs Sx Ax P Tw k pc (sg_dup pc) := by
  intro p l e R s m args below meth c hF hC L st M μ H locs cells slots ls hJ
  obtain ⟨hx, hb, hml, hown, hts, hret, hlk, hfr, hlo, hnm, htr, htb⟩ := hF
  unfold sg_dup
  split
  · split
    · rename_i hc
      exact sg_pure hJ hJ.2.1 (sg_cc (sg_c1 hJ.2.2.1).1 hJ.2.2.1) (fun Q kk => lv_dup hx hb hd (sg_cat.trans hc) (kk ls hJ.2.2.2.1))
    · trivial
  · trivial
def sg_pop (pc : Nat) : sg_F := fun L st M => match st with
  | v :: r => if v.category = 1 then sg_go (pc + 1) L r M else none
  | _ => none
theorem sg_ok_pop (hd : decode (sg_C P k) pc = .ok (.pop, 1)) : sg_Ok D cl tys B b Ls xs Sx Ax P Tw k pc (sg_pop pc) := by
  intro p l e R s m args below meth c hF hC L st M μ H locs cells slots ls hJ
  obtain ⟨hx, hb, hml, hown, hts, hret, hlk, hfr, hlo, hnm, htr, htb⟩ := hF
  unfold sg_pop
  split
  · split
    · rename_i hc
      exact sg_pure hJ hJ.2.1 (sg_c1 hJ.2.2.1).2 (fun Q kk => lv_pop hx hb hd (sg_cat.trans hc) (kk ls hJ.2.2.2.1))
    · trivial
  · trivial
def sg_if_eq (pc tgt : Nat) : sg_F := fun L st M => match st with
  | .int x :: r => if x = 0 then sg_go tgt L r M else sg_go (pc + 3) L r M
  | _ => none
theorem sg_ok_if_eq {off : Int} {tgt : Nat} (hd : decode (sg_C P k) pc = .ok (.ifCond .eq off, 3)) (ht : (pc : Int) + off = (tgt : Int)) : sg_Ok D cl tys B b Ls xs Sx Ax P Tw k pc (sg_if_eq pc tgt) := by
  intro p l e R s m args below meth c hF hC L st M μ H locs cells slots ls hJ
  obtain ⟨hx, hb, hml, hown, hts, hret, hlk, hfr, hlo, hnm, htr, htb⟩ := hF
  unfold sg_if_eq
  split
  · split
    · rename_i hc
      exact sg_pure hJ hJ.2.1 (sg_c1 hJ.2.2.1).2 (fun Q kk => lv_if_eq hx hb hd ht (fun _ => kk ls hJ.2.2.2.1) (fun h => absurd hc h))
    · rename_i hc
      exact sg_pure hJ hJ.2.1 (sg_c1 hJ.2.2.1).2 (fun Q kk => lv_if_eq hx hb hd ht (fun h => absurd h hc) (fun _ => kk ls hJ.2.2.2.1))
  · trivial
def sg_if_ne (pc tgt : Nat) : sg_F := fun L st M => match st with
  | .int x :: r => if ¬ x = 0 then sg_go tgt L r M else sg_go (pc + 3) L r M
  | _ => none
theorem sg_ok_if_ne {off : Int} {tgt : Nat} (hd : decode (sg_C P k) pc = .ok (.ifCond .ne off, 3)) (ht : (pc : Int) + off = (tgt : Int)) : sg_Ok D cl tys B b Ls xs Sx Ax P Tw k pc (sg_if_ne pc tgt) := by
  intro p l e R s m args below meth c hF hC L st M μ H locs cells slots ls hJ
  obtain ⟨hx, hb, hml, hown, hts, hret, hlk, hfr, hlo, hnm, htr, htb⟩ := hF
  unfold sg_if_ne
  split
  · split
    · rename_i hc
      exact sg_pure hJ hJ.2.1 (sg_c1 hJ.2.2.1).2 (fun Q kk => lv_if_ne hx hb hd ht (fun _ => kk ls hJ.2.2.2.1) (fun h => absurd h hc))
    · rename_i hc
      exact sg_pure hJ hJ.2.1 (sg_c1 hJ.2.2.1).2 (fun Q kk => lv_if_ne hx hb hd ht (fun h => absurd h hc) (fun _ => kk ls hJ.2.2.2.1))
  · trivial
def sg_if_lt (pc tgt : Nat) : sg_F := fun L st M => match st with
  | .int x :: r => if x < 0 then sg_go tgt L r M else sg_go (pc + 3) L r M
  | _ => none
theorem sg_ok_if_lt {off : Int} {tgt : Nat} (hd : decode (sg_C P k) pc = .ok (.ifCond .lt off, 3)) (ht : (pc : Int) + off = (tgt : Int)) : sg_Ok D cl tys B b Ls xs Sx Ax P Tw k pc (sg_if_lt pc tgt) := by
  intro p l e R s m args below meth c hF hC L st M μ H locs cells slots ls hJ
  obtain ⟨hx, hb, hml, hown, hts, hret, hlk, hfr, hlo, hnm, htr, htb⟩ := hF
  unfold sg_if_lt
  split
  · split
    · rename_i hc
      exact sg_pure hJ hJ.2.1 (sg_c1 hJ.2.2.1).2 (fun Q kk => lv_if_lt hx hb hd ht (fun _ => kk ls hJ.2.2.2.1) (fun h => absurd hc h))
    · rename_i hc
      exact sg_pure hJ hJ.2.1 (sg_c1 hJ.2.2.1).2 (fun Q kk => lv_if_lt hx hb hd ht (fun h => absurd h hc) (fun _ => kk ls hJ.2.2.2.1))
  · trivial
def sg_if_ge (pc tgt : Nat) : sg_F := fun L st M => match st with
  | .int x :: r => if 0 ≤ x then sg_go tgt L r M else sg_go (pc + 3) L r M
  | _ => none
theorem sg_ok_if_ge {off : Int} {tgt : Nat} (hd : decode (sg_C P k) pc = .ok (.ifCond .ge off, 3)) (ht : (pc : Int) + off = (tgt : Int)) : sg_Ok D cl tys B b Ls xs Sx Ax P Tw k pc (sg_if_ge pc tgt) := by
  intro p l e R s m args below meth c hF hC L st M μ H locs cells slots ls hJ
  obtain ⟨hx, hb, hml, hown, hts, hret, hlk, hfr, hlo, hnm, htr, htb⟩ := hF
  unfold sg_if_ge
  split
  · split
    · rename_i hc
      exact sg_pure hJ hJ.2.1 (sg_c1 hJ.2.2.1).2 (fun Q kk => lv_if_ge hx hb hd ht (fun _ => kk ls hJ.2.2.2.1) (fun h => absurd hc h))
    · rename_i hc
      exact sg_pure hJ hJ.2.1 (sg_c1 hJ.2.2.1).2 (fun Q kk => lv_if_ge hx hb hd ht (fun h => absurd h hc) (fun _ => kk ls hJ.2.2.2.1))
  · trivial
def sg_if_gt (pc tgt : Nat) : sg_F := fun L st M => match st with
  | .int x :: r => if 0 < x then sg_go tgt L r M else sg_go (pc + 3) L r M
  | _ => none
theorem sg_ok_if_gt {off : Int} {tgt : Nat} (hd : decode (sg_C P k) pc = .ok (.ifCond .gt off, 3)) (ht : (pc : Int) + off = (tgt : Int)) : sg_Ok D cl tys B b Ls xs Sx Ax P Tw k pc (sg_if_gt pc tgt) := by
  intro p l e R s m args below meth c hF hC L st M μ H locs cells slots ls hJ
  obtain ⟨hx, hb, hml, hown, hts, hret, hlk, hfr, hlo, hnm, htr, htb⟩ := hF
  unfold sg_if_gt
  split
  · split
    · rename_i hc
      exact sg_pure hJ hJ.2.1 (sg_c1 hJ.2.2.1).2 (fun Q kk => lv_if_gt hx hb hd ht (fun _ => kk ls hJ.2.2.2.1) (fun h => absurd hc h))
    · rename_i hc
      exact sg_pure hJ hJ.2.1 (sg_c1 hJ.2.2.1).2 (fun Q kk => lv_if_gt hx hb hd ht (fun h => absurd h hc) (fun _ => kk ls hJ.2.2.2.1))
  · trivial
def sg_if_le (pc tgt : Nat) : sg_F := fun L st M => match st with
  | .int x :: r => if x ≤ 0 then sg_go tgt L r M else sg_go (pc + 3) L r M
  | _ => none
theorem sg_ok_if_le {off : Int} {tgt : Nat} (hd : decode (sg_C P k) pc = .ok (.ifCond .le off, 3)) (ht : (pc : Int) + off = (tgt : Int)) : sg_Ok D cl tys B b Ls xs Sx Ax P Tw k pc (sg_if_le pc tgt) := by
  intro p l e R s m args below meth c hF hC L st M μ H locs cells slots ls hJ
  obtain ⟨hx, hb, hml, hown, hts, hret, hlk, hfr, hlo, hnm, htr, htb⟩ := hF
  unfold sg_if_le
  split
  · split
    · rename_i hc
      exact sg_pure hJ hJ.2.1 (sg_c1 hJ.2.2.1).2 (fun Q kk => lv_if_le hx hb hd ht (fun _ => kk ls hJ.2.2.2.1) (fun h => absurd hc h))
    · rename_i hc
      exact sg_pure hJ hJ.2.1 (sg_c1 hJ.2.2.1).2 (fun Q kk => lv_if_le hx hb hd ht (fun h => absurd h hc) (fun _ => kk ls hJ.2.2.2.1))
  · trivial
def sg_icmp_eq (pc tgt : Nat) : sg_F := fun L st M => match st with
  | .int y :: .int x :: r => if x = y then sg_go tgt L r M else sg_go (pc + 3) L r M
  | _ => none
theorem sg_ok_icmp_eq {off : Int} {tgt : Nat} (hd : decode (sg_C P k) pc = .ok (.if_icmp .eq off, 3)) (ht : (pc : Int) + off = (tgt : Int)) : sg_Ok D cl tys B b Ls xs Sx Ax P Tw k pc (sg_icmp_eq pc tgt) := by
  intro p l e R s m args below meth c hF hC L st M μ H locs cells slots ls hJ
  obtain ⟨hx, hb, hml, hown, hts, hret, hlk, hfr, hlo, hnm, htr, htb⟩ := hF
  unfold sg_icmp_eq
  split
  · split
    · rename_i hc
      exact sg_pure hJ hJ.2.1 (sg_c1 (sg_c1 hJ.2.2.1).2).2 (fun Q kk => lv_icmp_eq hx hb hd ht (fun _ => kk ls hJ.2.2.2.1) (fun h => absurd hc h))
    · rename_i hc
      exact sg_pure hJ hJ.2.1 (sg_c1 (sg_c1 hJ.2.2.1).2).2 (fun Q kk => lv_icmp_eq hx hb hd ht (fun h => absurd h hc) (fun _ => kk ls hJ.2.2.2.1))
  · trivial
def sg_icmp_ne (pc tgt : Nat) : sg_F := fun L st M => match st with
  | .int y :: .int x :: r => if ¬ x = y then sg_go tgt L r M else sg_go (pc + 3) L r M
  | _ => none
theorem sg_ok_icmp_ne {off : Int} {tgt : Nat} (hd : decode (sg_C P k) pc = .ok (.if_icmp .ne off, 3)) (ht : (pc : Int) + off = (tgt : Int)) : sg_Ok D cl tys B b Ls xs Sx Ax P Tw k pc (sg_icmp_ne pc tgt) := by
  intro p l e R s m args below meth c hF hC L st M μ H locs cells slots ls hJ
  obtain ⟨hx, hb, hml, hown, hts, hret, hlk, hfr, hlo, hnm, htr, htb⟩ := hF
  unfold sg_icmp_ne
  split
  · split
    · rename_i hc
      exact sg_pure hJ hJ.2.1 (sg_c1 (sg_c1 hJ.2.2.1).2).2 (fun Q kk => lv_icmp_ne hx hb hd ht (fun _ => kk ls hJ.2.2.2.1) (fun h => absurd h hc))
    · rename_i hc
      exact sg_pure hJ hJ.2.1 (sg_c1 (sg_c1 hJ.2.2.1).2).2 (fun Q kk => lv_icmp_ne hx hb hd ht (fun h => absurd h hc) (fun _ => kk ls hJ.2.2.2.1))
  · trivial
def sg_icmp_lt (pc tgt : Nat) : sg_F := fun L st M => match st with
  | .int y :: .int x :: r => if x < y then sg_go tgt L r M else sg_go (pc + 3) L r M
  | _ => none
theorem sg_ok_icmp_lt {off : Int} {tgt : Nat} (hd : decode (sg_C P k) pc = .ok (.if_icmp .lt off, 3)) (ht : (pc : Int) + off = (tgt : Int)) : sg_Ok D cl tys B b Ls xs Sx Ax P Tw k pc (sg_icmp_lt pc tgt) := by
  intro p l e R s m args below meth c hF hC L st M μ H locs cells slots ls hJ
  obtain ⟨hx, hb, hml, hown, hts, hret, hlk, hfr, hlo, hnm, htr, htb⟩ := hF
  unfold sg_icmp_lt
  split
  · split
    · rename_i hc
      exact sg_pure hJ hJ.2.1 (sg_c1 (sg_c1 hJ.2.2.1).2).2 (fun Q kk => lv_icmp_lt hx hb hd ht (fun _ => kk ls hJ.2.2.2.1) (fun h => absurd hc h))
    · rename_i hc
      exact sg_pure hJ hJ.2.1 (sg_c1 (sg_c1 hJ.2.2.1).2).2 (fun Q kk => lv_icmp_lt hx hb hd ht (fun h => absurd h hc) (fun _ => kk ls hJ.2.2.2.1))
  · trivial
def sg_icmp_ge (pc tgt : Nat) : sg_F := fun L st M => match st with
  | .int y :: .int x :: r => if y ≤ x then sg_go tgt L r M else sg_go (pc + 3) L r M
  | _ => none
theorem sg_ok_icmp_ge {off : Int} {tgt : Nat} (hd : decode (sg_C P k) pc = .ok (.if_icmp .ge off, 3)) (ht : (pc : Int) + off = (tgt : Int)) : sg_Ok D cl tys B b Ls xs Sx Ax P Tw k pc (sg_icmp_ge pc tgt) := by
  intro p l e R s m args below meth c hF hC L st M μ H locs cells slots ls hJ
  obtain ⟨hx, hb, hml, hown, hts, hret, hlk, hfr, hlo, hnm, htr, htb⟩ := hF
  unfold sg_icmp_ge
  split
  · split
    · rename_i hc
      exact sg_pure hJ hJ.2.1 (sg_c1 (sg_c1 hJ.2.2.1).2).2 (fun Q kk => lv_icmp_ge hx hb hd ht (fun _ => kk ls hJ.2.2.2.1) (fun h => absurd hc h))
    · rename_i hc
      exact sg_pure hJ hJ.2.1 (sg_c1 (sg_c1 hJ.2.2.1).2).2 (fun Q kk => lv_icmp_ge hx hb hd ht (fun h => absurd h hc) (fun _ => kk ls hJ.2.2.2.1))
  · trivial
def sg_icmp_gt (pc tgt : Nat) : sg_F := fun L st M => match st with
  | .int y :: .int x :: r => if y < x then sg_go tgt L r M else sg_go (pc + 3) L r M
  | _ => none
theorem sg_ok_icmp_gt {off : Int} {tgt : Nat} (hd : decode (sg_C P k) pc = .ok (.if_icmp .gt off, 3)) (ht : (pc : Int) + off = (tgt : Int)) : sg_Ok D cl tys B b Ls xs Sx Ax P Tw k pc (sg_icmp_gt pc tgt) := by
  intro p l e R s m args below meth c hF hC L st M μ H locs cells slots ls hJ
  obtain ⟨hx, hb, hml, hown, hts, hret, hlk, hfr, hlo, hnm, htr, htb⟩ := hF
  unfold sg_icmp_gt
  split
  · split
    · rename_i hc
      exact sg_pure hJ hJ.2.1 (sg_c1 (sg_c1 hJ.2.2.1).2).2 (fun Q kk => lv_icmp_gt hx hb hd ht (fun _ => kk ls hJ.2.2.2.1) (fun h => absurd hc h))
    · rename_i hc
      exact sg_pure hJ hJ.2.1 (sg_c1 (sg_c1 hJ.2.2.1).2).2 (fun Q kk => lv_icmp_gt hx hb hd ht (fun h => absurd h hc) (fun _ => kk ls hJ.2.2.2.1))
  · trivial
def sg_icmp_le (pc tgt : Nat) : sg_F := fun L st M => match st with
  | .int y :: .int x :: r => if x ≤ y then sg_go tgt L r M else sg_go (pc + 3) L r M
  | _ => none
theorem sg_ok_icmp_le {off : Int} {tgt : Nat} (hd : decode (sg_C P k) pc = .ok (.if_icmp .le off, 3)) (ht : (pc : Int) + off = (tgt : Int)) : sg_Ok D cl tys B b Ls xs Sx Ax P Tw k pc (sg_icmp_le pc tgt) := by
  intro p l e R s m args below meth c hF hC L st M μ H locs cells slots ls hJ
  obtain ⟨hx, hb, hml, hown, hts, hret, hlk, hfr, hlo, hnm, htr, htb⟩ := hF
  unfold sg_icmp_le
  split
  · split
    · rename_i hc
      exact sg_pure hJ hJ.2.1 (sg_c1 (sg_c1 hJ.2.2.1).2).2 (fun Q kk => lv_icmp_le hx hb hd ht (fun _ => kk ls hJ.2.2.2.1) (fun h => absurd hc h))
    · rename_i hc
      exact sg_pure hJ hJ.2.1 (sg_c1 (sg_c1 hJ.2.2.1).2).2 (fun Q kk => lv_icmp_le hx hb hd ht (fun h => absurd h hc) (fun _ => kk ls hJ.2.2.2.1))
  · trivial
def sg_goto (tgt : Nat) : sg_F := fun L st M => sg_go tgt L st M
theorem sg_ok_goto {off : Int} {tgt : Nat} (hd : decode (sg_C P k) pc = .ok (.goto off, 3)) (ht : (pc : Int) + off = (tgt : Int)) : sg_Ok D cl tys B b Ls xs Sx Ax P Tw k pc (sg_goto tgt) := by
  intro p l e R s m args below meth c hF hC L st M μ H locs cells slots ls hJ
  obtain ⟨hx, hb, hml, hown, hts, hret, hlk, hfr, hlo, hnm, htr, htb⟩ := hF
  exact sg_pure hJ hJ.2.1 hJ.2.2.1 (fun Q kk => lv_goto hx hb hd ht (kk ls hJ.2.2.2.1))
def sg_ifnull (pc tgt : Nat) : sg_F := fun L st M => match st with
  | .null :: r => sg_go tgt L r M
  | .ref _ :: r => sg_go (pc + 3) L r M
  | _ => none
theorem sg_ok_ifnull {off : Int} {tgt : Nat} (hd : decode (sg_C P k) pc = .ok (.ifnull off, 3)) (ht : (pc : Int) + off = (tgt : Int)) : sg_Ok D cl tys B b Ls xs Sx Ax P Tw k pc (sg_ifnull pc tgt) := by
  intro p l e R s m args below meth c hF hC L st M μ H locs cells slots ls hJ
  obtain ⟨hx, hb, hml, hown, hts, hret, hlk, hfr, hlo, hnm, htr, htb⟩ := hF
  unfold sg_ifnull
  split
  · exact sg_pure hJ hJ.2.1 (sg_c1 hJ.2.2.1).2 (fun Q kk => lv_ifnullN hx hb hd ht (kk ls hJ.2.2.2.1))
  · exact sg_pure hJ hJ.2.1 (sg_c1 hJ.2.2.1).2 (fun Q kk => lv_ifnull hx hb hd (kk ls hJ.2.2.2.1))
  · trivial
def sg_ifnonnull (pc tgt : Nat) : sg_F := fun L st M => match st with
  | .null :: r => sg_go (pc + 3) L r M
  | .ref _ :: r => sg_go tgt L r M
  | _ => none
theorem sg_ok_ifnonnull {off : Int} {tgt : Nat} (hd : decode (sg_C P k) pc = .ok (.ifnonnull off, 3)) (ht : (pc : Int) + off = (tgt : Int)) : sg_Ok D cl tys B b Ls xs Sx Ax P Tw k pc (sg_ifnonnull pc tgt) := by
  intro p l e R s m args below meth c hF hC L st M μ H locs cells slots ls hJ
  obtain ⟨hx, hb, hml, hown, hts, hret, hlk, hfr, hlo, hnm, htr, htb⟩ := hF
  unfold sg_ifnonnull
  split
  · exact sg_pure hJ hJ.2.1 (sg_c1 hJ.2.2.1).2 (fun Q kk => lv_ifnonnullN hx hb hd (kk ls hJ.2.2.2.1))
  · exact sg_pure hJ hJ.2.1 (sg_c1 hJ.2.2.1).2 (fun Q kk => lv_ifnonnull hx hb hd ht (kk ls hJ.2.2.2.1))
  · trivial
def sg_tsw (pc : Nat) (dflt lo hi : Int) (offs : Array Int) : sg_F := fun L st M => match st with
  | .int x :: r => if x.toInt < lo ∨ hi < x.toInt then sg_go ((pc : Int) + dflt).toNat L r M else match offs[(x.toInt - lo).toNat]? with
    | some off => if 0 ≤ (pc : Int) + off then sg_go ((pc : Int) + off).toNat L r M else none
    | none => none
  | _ => none
theorem sg_ok_tsw {dflt lo hi : Int} {offs : Array Int} {n : Nat} (hd : decode (sg_C P k) pc = .ok (.tableswitch dflt lo hi offs, n)) (h0 : 0 ≤ (pc : Int) + dflt) : sg_Ok D cl tys B b Ls xs Sx Ax P Tw k pc (sg_tsw pc dflt lo hi offs) := by
  intro p l e R s m args below meth c hF hC L st M μ H locs cells slots ls hJ
  obtain ⟨hx, hb, hml, hown, hts, hret, hlk, hfr, hlo, hnm, htr, htb⟩ := hF
  unfold sg_tsw
  split
  · split
    · rename_i hc
      exact sg_pure hJ hJ.2.1 (sg_c1 hJ.2.2.1).2 (fun Q kk => lv_tableOut hx hb hd hc (Int.toNat_of_nonneg h0).symm (kk ls hJ.2.2.2.1))
    · rename_i hc
      split
      · rename_i off ho
        split
        · rename_i h9
          exact sg_pure hJ hJ.2.1 (sg_c1 hJ.2.2.1).2 (fun Q kk => lv_tableIn hx hb hd (fun z => hc (Or.inl z)) (fun z => hc (Or.inr z)) ho (Int.toNat_of_nonneg h9).symm (kk ls hJ.2.2.2.1))
        · trivial
      · trivial
  · trivial
end
end SGB
end
section
section SGC
/-- the types of arrays, by their places -/
def sg_HT (tys : List (ClassId × FieldType)) : Prop := tys[0]? = some (sg_tc tys 0, .int) ∧ tys[1]? = some (sg_tc tys 1, .object "StrataRepo$Commit") ∧ tys[2]? = some (sg_tc tys 2, .boolean) ∧ tys[3]? = some (sg_tc tys 3, .long) ∧ tys[4]? = some (sg_tc tys 4, .array .int) ∧ tys[5]? = some (sg_tc tys 5, .array (.array .int))
theorem sg_HT_any {tys : List (ClassId × FieldType)} (h : sg_HT tys) {t : Nat} (ht : t < 6) : ∃ ty, tys[t]? = some (sg_tc tys t, ty) := by
  match t, ht with
  | 0, _ => exact ⟨_, h.1⟩
  | 1, _ => exact ⟨_, h.2.1⟩
  | 2, _ => exact ⟨_, h.2.2.1⟩
  | 3, _ => exact ⟨_, h.2.2.2.1⟩
  | 4, _ => exact ⟨_, h.2.2.2.2.1⟩
  | 5, _ => exact ⟨_, h.2.2.2.2.2⟩
  | t + 6, hz => exact absurd hz (by omega)
def sg_isr (t : Nat) : Bool := match t with
  | 1 => true
  | 4 => true
  | 5 => true
  | _ => false
theorem sg_HT_ref {tys : List (ClassId × FieldType)} (h : sg_HT tys) {t : Nat} (ht : sg_isr t = true) : ∃ ty : FieldType, ty.isReference = true ∧ tys[t]? = some (sg_tc tys t, ty) := by
  unfold sg_isr at ht
  split at ht
  · exact ⟨_, rfl, h.2.1⟩
  · exact ⟨_, rfl, h.2.2.2.2.1⟩
  · exact ⟨_, rfl, h.2.2.2.2.2⟩
  · cases ht
section
variable {p : Program} {l : Launch} {e : Env} {R : Room} {s : State} {m : MethodId} {args : Array Value} {below : List Frame} {meth : Method} {c : Code} {H : Heap} {locs : List Loc} {cells slots : Nat} {Q : State → Prop}
variable {cc : ByteArray} {pc : Nat} {ls : Array Slot} {rest : List Value} {D : va_G} {cl : List vw_C} {A : Nat → Prop} {a : Nat} {tys : List (ClassId × FieldType)} {ws : va_W} {H0 : Heap}
theorem sg_aldr (hexec : p.tables.exec = Jvm.exec) (hb : c.code = cc) (hK : va_K D cl tys s) (hP : va_P D cl ws H) (q0 t0 : Nat) {cA : ClassId} {ty : FieldType} {n : Nat} {f : Nat → Option Nat} (ha : ws[q0]? = some (a, .inl (cA, n, .inr (.inr (.inr (.inr f)))))) (ht : tys[t0]? = some (cA, ty)) (hty : ty.isReference = true) {i : Int32} (hin : vp_in i n) (hdg : decode cc pc = .ok (.aaload, 1))
    (kk : W p l e R s m args below meth c H locs cells slots Q (F0 m (pc + 1) ls (va_rf (f i.toNatClampNeg) :: rest))) : W p l e R s m args below meth c H locs cells slots Q (F0 m pc ls (.int i :: .ref a :: rest)) := by
  have hlt : i.toNatClampNeg < n := Nat.not_le.mp fun q => hin (Or.inr q)
  exact W.aald (v := va_rf (f i.toNatClampNeg)) (ty := ty) hexec hb (hP q0 _ ha) ((hK.2 t0 _ ht).1 n (fun j => va_rf (f j))) hty (fun q => by cases q) (by show ¬ (i < 0 ∨ (arrV _ _ _).slots.size ≤ _); rw [arrV_size]; exact hin) (by show (arrV _ _ _).slots[_]? = _; rw [arrV_read _ _ hlt]) rfl rfl hdg kk
end
/-- the whole memory as one world of the kit -/
theorem sg_I.world {D : va_G} {cl : List vw_C} {tys : List (ClassId × FieldType)} {B : Nat} {b : Nat → Nat} {μ : Nat → Nat} {M : sg_M} {H : Heap} (h : sg_I D cl tys B b μ M H) : ∃ ws : va_W, va_P D cl ws H ∧ va_D (sg_A B) ws ∧ (∀ a e, M.1 a = some e → ∃ i : Nat, ws[i]? = some (μ a, sg_c tys μ e)) ∧ ∀ (i : Nat) (q : Nat × va_E), ws[i]? = some q → ∃ a e, M.1 a = some e ∧ q = (μ a, sg_c tys μ e) := by
  have key : ∀ n : Nat, ∃ ws : va_W, va_P D cl ws H ∧ va_D (sg_A B) ws ∧ (∀ a e, a < n → M.1 a = some e → ∃ i : Nat, ws[i]? = some (μ a, sg_c tys μ e)) ∧ ∀ (i : Nat) (q : Nat × va_E), ws[i]? = some q → ∃ a e, a < n ∧ M.1 a = some e ∧ q = (μ a, sg_c tys μ e) := by
    intro n
    induction n with
    | zero => exact ⟨[], fun k q hk => by simp at hk, ⟨fun i j p q hi => by simp at hi, fun k q hk => by simp at hk⟩, fun a e ha => absurd ha (Nat.not_lt_zero _), fun i q hi => by simp at hi⟩
    | succ n ih =>
      obtain ⟨ws, g1, g2, g3, g4⟩ := ih
      cases hn : M.1 n with
      | none =>
        refine ⟨ws, g1, g2, fun a e ha he => ?_, fun i q hi => ?_⟩
        · refine g3 a e ?_ he
          rcases Nat.lt_succ_iff_lt_or_eq.mp ha with z | z
          · exact z
          · rw [z, hn] at he; cases he
        · obtain ⟨a, e, q1, q2⟩ := g4 i q hi
          exact ⟨a, e, Nat.lt_succ_of_lt q1, q2⟩
      | some e0 =>
        obtain ⟨o1, o2⟩ := h.one hn
        refine ⟨ws ++ [(μ n, sg_c tys μ e0)], g1.app o1, g2.app o2 (fun i j x y hi hj hxy => ?_), fun a e ha he => ?_, fun i q hi => ?_⟩
        · obtain ⟨a, e, q1, q2, q3⟩ := g4 i x hi
          have hj0 : y = (μ n, sg_c tys μ e0) := by
            cases j with
            | zero => cases hj; rfl
            | succ j => simp at hj
          rw [q3, hj0] at hxy
          exact absurd (h.2.1 a n e e0 q2 hn hxy) (Nat.ne_of_lt q1)
        · rcases Nat.lt_succ_iff_lt_or_eq.mp ha with z | z
          · obtain ⟨i, hi⟩ := g3 a e z he
            exact ⟨i, by rw [List.getElem?_append_left (List.getElem?_eq_some_iff.mp hi).1]; exact hi⟩
          · subst z
            rw [hn] at he
            cases he
            exact ⟨ws.length, by rw [List.getElem?_append_right (Nat.le_refl _), Nat.sub_self]; rfl⟩
        · by_cases hl : i < ws.length
          · rw [List.getElem?_append_left hl] at hi
            obtain ⟨a, e, q1, q2⟩ := g4 i q hi
            exact ⟨a, e, Nat.lt_succ_of_lt q1, q2⟩
          · rw [List.getElem?_append_right (by omega)] at hi
            have hz : i - ws.length < 1 := (List.getElem?_eq_some_iff.mp hi).1
            rw [show i - ws.length = 0 by omega] at hi
            cases hi
            exact ⟨n, e0, Nat.lt_succ_self _, hn, rfl⟩
  obtain ⟨ws, g1, g2, g3, g4⟩ := key M.2
  exact ⟨ws, g1, g2, fun a e he => g3 a e (h.1 a e he).1 he, fun i q hi => by obtain ⟨a, e, -, q2⟩ := g4 i q hi; exact ⟨a, e, q2⟩⟩
theorem sg_I.set {D : va_G} {cl : List vw_C} {tys : List (ClassId × FieldType)} {B : Nat} {b : Nat → Nat} {μ : Nat → Nat} {M : sg_M} {H H1 : Heap} (h : sg_I D cl tys B b μ M H) {ws : va_W} (hw : ∀ a e, M.1 a = some e → ∃ i : Nat, ws[i]? = some (μ a, sg_c tys μ e)) {a q0 : Nat} {e0 e : sg_E} (he : M.1 a = some e0) (hq : ws[q0]? = some (μ a, sg_c tys μ e0)) (hwf : sg_wE M.2 e) (hP : va_P D cl (ws.set q0 (μ a, sg_c tys μ e)) H1) : sg_I D cl tys B b μ (sg_up M.1 a e, M.2) H1 := by
  have ha0 := (h.lt he).2
  have hl := (List.getElem?_eq_some_iff.mp hq).1
  have key : ∀ z ez, sg_up M.1 a e z = some ez → ∃ e9, M.1 z = some e9 := by
    intro z ez hz
    have hz : (if z = a then some e else M.1 z) = some ez := hz
    by_cases hza : z = a
    · exact ⟨e0, by rw [hza]; exact he⟩
    · rw [if_neg hza] at hz
      exact ⟨ez, hz⟩
  refine ⟨fun a' e' he' => ?_, fun x y ex ey hx hy hxy => ?_, ?_, h.2.2.2.1, h.2.2.2.2⟩
  · have he1 : (if a' = a then some e else M.1 a') = some e' := he'
    by_cases hz : a' = a
    · subst hz
      rw [if_pos rfl] at he1
      cases he1
      exact ⟨(h.1 a' e0 he).1, hwf, hP q0 _ (List.getElem?_set_self hl), (h.1 a' e0 he).2.2.2⟩
    · rw [if_neg hz] at he1
      obtain ⟨k1, k2, k3, k4⟩ := h.1 a' e' he1
      obtain ⟨i, hi⟩ := hw a' e' he1
      have hne : q0 ≠ i := fun z => by
        subst z
        rw [hq] at hi
        have h9 : μ a = μ a' := congrArg Prod.fst (Option.some.inj hi)
        exact hz (h.2.1 _ _ _ _ he1 he h9.symm)
      exact ⟨k1, k2, hP i _ (by rw [List.getElem?_set_ne hne]; exact hi), k4⟩
  · obtain ⟨e1, g1⟩ := key x ex hx
    obtain ⟨e2, g2⟩ := key y ey hy
    exact h.2.1 x y e1 e2 g1 g2 hxy
  · intro i hi
    show (if i = a then some e else M.1 i) = none
    rw [if_neg (fun z => absurd hi (Nat.not_lt.mpr (by rw [z]; exact ha0)))]
    exact h.2.2.1 i hi
theorem sg_I.push {D : va_G} {cl : List vw_C} {tys : List (ClassId × FieldType)} {B : Nat} {b : Nat → Nat} {μ : Nat → Nat} {M : sg_M} {H H1 : Heap} (h : sg_I D cl tys B b μ M H) {ws : va_W} (hw : ∀ a e, M.1 a = some e → ∃ i : Nat, ws[i]? = some (μ a, sg_c tys μ e)) {q : Nat} {e : sg_E} (hwf : sg_wE M.2 e) (hP : va_P D cl (ws ++ [(q, sg_c tys μ e)]) H1) (hD : va_D (sg_A B) (ws ++ [(q, sg_c tys μ e)])) :
    sg_I D cl tys B b (fun x => if x = M.2 then q else μ x) (sg_up M.1 M.2 e, M.2 + 1) H1 ∧ sg_X μ (fun x => if x = M.2 then q else μ x) M.2 := by
  have hX : sg_X μ (fun x => if x = M.2 then q else μ x) M.2 := fun a ha => if_neg (Nat.ne_of_lt ha)
  have hq : (ws ++ [(q, sg_c tys μ e)])[ws.length]? = some (q, sg_c tys μ e) := by rw [List.getElem?_append_right (Nat.le_refl _), Nat.sub_self]; rfl
  have hold : ∀ a e', M.1 a = some e' → ∃ i : Nat, i < ws.length ∧ (ws ++ [(q, sg_c tys μ e)])[i]? = some (μ a, sg_c tys μ e') := fun a e' he' => by
    obtain ⟨i, hi⟩ := hw a e' he'
    have hl := (List.getElem?_eq_some_iff.mp hi).1
    exact ⟨i, hl, by rw [List.getElem?_append_left hl]; exact hi⟩
  have hap : ∀ a e', M.1 a = some e' → μ a ≠ q := fun a e' he' z => by
    obtain ⟨i, hl, hi⟩ := hold a e' he'
    exact absurd (hD.1 i ws.length _ _ hi hq z) (Nat.ne_of_lt hl)
  refine ⟨⟨fun a' e' he' => ?_, fun x y ex ey hx hy hxy => ?_, ?_, Nat.le_succ_of_le h.2.2.2.1, ?_⟩, hX⟩
  · have he' : (if a' = M.2 then some e else M.1 a') = some e' := he'
    show a' < M.2 + 1 ∧ sg_wE (M.2 + 1) e' ∧ va_at D cl (if a' = M.2 then q else μ a', _) H1 ∧ B ≤ (if a' = M.2 then q else μ a')
    by_cases hz : a' = M.2
    · rw [if_pos hz] at he' ⊢
      cases he'
      rw [sg_c_x hwf hX]
      exact ⟨by omega, hwf.mono (Nat.le_succ _), hP _ _ hq, hD.2 _ _ hq⟩
    · rw [if_neg hz] at he' ⊢
      obtain ⟨k1, k2, k3, k4⟩ := h.1 a' e' he'
      obtain ⟨i, hl, hi⟩ := hold a' e' he'
      rw [sg_c_x k2 hX]
      exact ⟨by omega, k2.mono (Nat.le_succ _), hP _ _ hi, k4⟩
  · have hx : (if x = M.2 then some e else M.1 x) = some ex := hx
    have hy : (if y = M.2 then some e else M.1 y) = some ey := hy
    have hxy : (if x = M.2 then q else μ x) = (if y = M.2 then q else μ y) := hxy
    by_cases z1 : x = M.2 <;> by_cases z2 : y = M.2
    · exact z1.trans z2.symm
    · rw [if_pos z1, if_neg z2] at hxy; rw [if_neg z2] at hy
      exact absurd hxy.symm (hap y ey hy)
    · rw [if_neg z1, if_pos z2] at hxy; rw [if_neg z1] at hx
      exact absurd hxy (hap x ex hx)
    · rw [if_neg z1, if_neg z2] at hxy; rw [if_neg z1] at hx; rw [if_neg z2] at hy
      exact h.2.1 x y ex ey hx hy hxy
  · intro i hi
    show (if i = M.2 then some e else M.1 i) = none
    rw [if_neg (Nat.ne_of_lt (Nat.lt_of_lt_of_le hi h.2.2.2.1))]
    exact h.2.2.1 i hi
  · intro i hi
    show (if i = M.2 then q else μ i) = b i
    rw [if_neg (Nat.ne_of_lt (Nat.lt_of_lt_of_le hi h.2.2.2.1))]
    exact h.2.2.2.2 i hi
/-- what a field of a type takes -/
def sg_kd (ty : FieldType) (v : Value) : Bool := match ty, v with
  | .int, .int _ => true
  | .long, .long _ => true
  | .boolean, .int x => x == 0 || x == 1
  | .object _, .ref _ => true
  | .object _, .null => true
  | .array _, .ref _ => true
  | .array _, .null => true
  | _, _ => false
theorem sg_kd_ok {μ : Nat → Nat} {ty : FieldType} {v : Value} (h : sg_kd ty v = true) : narrow ty (sg_v μ v) = sg_v μ v ∧ fits ty (sg_v μ v) = true := by
  cases ty <;> cases v <;> first | exact ⟨rfl, rfl⟩ | cases h | skip
  all_goals
    rename_i x
    simp only [sg_kd, Bool.or_eq_true, beq_iff_eq] at h
    rcases h with h | h <;> subst h <;> exact ⟨rfl, rfl⟩
theorem sg_mapget {μ : Nat → Nat} {fs : List Value} {f : Nat} {v : Value} (h : fs[f]? = some v) : (fs.map (sg_v μ))[f]? = some (sg_v μ v) := by rw [List.getElem?_map, h]; rfl
theorem sg_mapset {μ : Nat → Nat} {fs : List Value} {f : Nat} {v : Value} : (fs.map (sg_v μ)).set f (sg_v μ v) = (fs.set f v).map (sg_v μ) := List.map_set.symm
theorem sg_rf_v {μ : Nat → Nat} {r : Option Nat} : va_rf (r.map μ) = sg_v μ (va_rf r) := by cases r <;> rfl
theorem sg_wobj {n ci : Nat} {fs : List Value} (h : ∀ v ∈ fs, sg_wV n v) : sg_wE n (.inr (ci, fs)) := ⟨fun t x e => (by cases e), fun c g e => by cases e; exact h⟩
theorem sg_wset {n : Nat} {fs : List Value} {f : Nat} {v : Value} (h : ∀ v ∈ fs, sg_wV n v) (hv : sg_wV n v) : ∀ x ∈ fs.set f v, sg_wV n x := fun x hx => by
  rcases List.mem_or_eq_of_mem_set hx with z | z
  · exact h x z
  · rw [z]; exact hv
theorem sg_warr {n t : Nat} {x : vp_A} (h : sg_wA n x) : sg_wE n (.inl (t, x)) := ⟨fun _ _ e => by cases e; exact h, fun c g e => (by cases e)⟩
theorem sg_wAi {n k : Nat} {f : Nat → Int32} : sg_wA n (k, .inl f) := fun _ _ e => (by cases e)
theorem sg_wAl {n k : Nat} {f : Nat → Int64} : sg_wA n (k, .inr (.inl f)) := fun _ _ e => (by cases e)
section
variable {D : va_G} {cl : List vw_C} {tys : List (ClassId × FieldType)} {B : Nat} {b : Nat → Nat} {Ls : Nat} {xs : Nat → Int32} {Sx : List (String × Nat × String)} {Ax : List String} {P : sg_P} {Tw : List Cond} {k pc : Nat}

def sg_getf (pc ci f : Nat) : sg_F := fun L st M => match st with
  | .ref a :: r => match M.1 a with
    | some (.inr (cj, fs)) => if cj = ci then match fs[f]? with
      | some v => sg_go (pc + 3) L (v :: r) M
      | none => none else none
    | _ => none
  | _ => none
theorem sg_ok_getf {C : String} {T : u_T} {n ci f index : Nat} (hc : cl[ci]? = some (C, T, n)) (hin : ∀ w ∈ u_ws C T n, w ∈ Tw) (hk : f < n) (hw : Cond.fieldLink (sg_Y P k).cls index (T f).1 (T f).2.1 (T f).2.2.1 ∈ Tw) (hd : decode (sg_C P k) pc = .ok (.getfield index, 3)) : sg_Ok D cl tys B b Ls xs Sx Ax P Tw k pc (sg_getf pc ci f) := by
  intro p l e R s m args below meth c hF hC L st M μ H locs cells slots ls hJ
  obtain ⟨hx, hb, hml, hown, hts, hret, hlk, hfr, hlo, hnm, htr, htb⟩ := hF
  unfold sg_getf
  split
  · rename_i a r
    split
    · rename_i cj fs he
      split
      · rename_i hcj
        subst hcj
        split
        · rename_i v hv
          exact sg_pure hJ hJ.2.1 (sg_cc ((hJ.1.1 a _ he).2.1.2 _ _ rfl v (List.mem_of_getElem? hv)) (sg_c1 hJ.2.2.1).2) (fun Q kk => va_get hx hb hts hin hown hC.1 (hJ.1.one he).1 0 rfl hc f hk (hts _ hw) (fun _ h9 => h9) (sg_mapget hv) hd (kk ls hJ.2.2.2.1))
        · trivial
      · trivial
    · trivial
  · trivial
theorem sg_ok_getfN {C host : String} {T : u_T} {n ci f index : Nat} (hc : cl[ci]? = some (C, T, n)) (hin : ∀ w ∈ u_ws C T n, w ∈ Tw) (hk : f < n) (hw : Cond.fieldLinkNest (sg_Y P k).cls index (T f).1 (T f).2.1 (T f).2.2.1 host ∈ Tw) (hd : decode (sg_C P k) pc = .ok (.getfield index, 3)) : sg_Ok D cl tys B b Ls xs Sx Ax P Tw k pc (sg_getf pc ci f) := by
  intro p l e R s m args below meth c hF hC L st M μ H locs cells slots ls hJ
  obtain ⟨hx, hb, hml, hown, hts, hret, hlk, hfr, hlo, hnm, htr, htb⟩ := hF
  unfold sg_getf
  split
  · rename_i a r
    split
    · rename_i cj fs he
      split
      · rename_i hcj
        subst hcj
        split
        · rename_i v hv
          exact sg_pure hJ hJ.2.1 (sg_cc ((hJ.1.1 a _ he).2.1.2 _ _ rfl v (List.mem_of_getElem? hv)) (sg_c1 hJ.2.2.1).2) (fun Q kk => va_getN hx hb hts hin hown hC.1 (hJ.1.one he).1 0 rfl hc f hk (hts _ hw) (fun _ h9 => h9) (sg_mapget hv) hd (kk ls hJ.2.2.2.1))
        · trivial
      · trivial
    · trivial
  · trivial
def sg_putf (pc ci f : Nat) (ty : FieldType) : sg_F := fun L st M => match st with
  | v :: .ref a :: r => match M.1 a with
    | some (.inr (cj, fs)) => if cj = ci ∧ f < fs.length ∧ sg_kd ty v = true then some (.inl (pc + 3, L, r, (sg_up M.1 a (.inr (cj, fs.set f v)), M.2), 0, 0)) else none
    | _ => none
  | _ => none
theorem sg_ok_putf {C : String} {T : u_T} {n ci f index : Nat} {ty : FieldType} (hc : cl[ci]? = some (C, T, n)) (hin : ∀ w ∈ u_ws C T n, w ∈ Tw) (ty0 : Nat → FieldType) (hty : ∀ k, k < n → parseFieldDescriptor (T k).2.2.1 = some (ty0 k)) (hdis : ∀ a, a < n → ∀ b, b < n → a ≠ b → (T a).2.1 ≠ (T b).2.1) (hk : f < n) (hw : Cond.fieldLink (sg_Y P k).cls index (T f).1 (T f).2.1 (T f).2.2.1 ∈ Tw) (hfin : (T f).2.2.2 = false) (hpd : parseFieldDescriptor (T f).2.2.1 = some ty) (hd : decode (sg_C P k) pc = .ok (.putfield index, 3)) : sg_Ok D cl tys B b Ls xs Sx Ax P Tw k pc (sg_putf pc ci f ty) := by
  intro p l e R s m args below meth c hF hC L st M μ H locs cells slots ls hJ
  obtain ⟨hx, hb, hml, hown, hts, hret, hlk, hfr, hlo, hnm, htr, htb⟩ := hF
  unfold sg_putf
  split
  · rename_i v a r
    split
    · rename_i cj fs he
      split
      · rename_i hcj
        obtain ⟨hcj, hfl, hkd⟩ := hcj
        subst hcj
        obtain ⟨ws, g1, g2, g3, g4⟩ := hJ.1.world
        obtain ⟨q0, hq0⟩ := g3 a _ he
        obtain ⟨n1, n2⟩ := sg_kd_ok (μ := μ) hkd
        have hwv : sg_wV M.2 v := (sg_c1 hJ.2.2.1).1
        refine ⟨Nat.le_refl _, fun Q _ _ kk => va_put hx hb hts hin ty0 hty hdis hown hC.1 g1 g2 hJ.2.2.2.2 q0 hq0 hc f hk (hts _ hw) (fun _ h9 => h9) hfin hpd n1 n2 (by rw [List.length_map]; exact hfl) hd (fun H1 locs1 p1 p2 p3 => kk μ H1 locs1 ls sg_X.rf ⟨hJ.1.set g3 he hq0 (sg_wobj (sg_wset ((hJ.1.1 a _ he).2.1.2 _ _ rfl) hwv)) ?_, hJ.2.1, (sg_c1 (sg_c1 hJ.2.2.1).2).2, hJ.2.2.2.1, p3⟩)⟩
        have p1 : va_P D cl (ws.set q0 (μ a, .inr (cj, (fs.map (sg_v μ)).set f (sg_v μ v)))) H1 := p1
        rw [sg_mapset] at p1
        exact p1
      · trivial
    · trivial
  · trivial
theorem sg_ok_putfN {C host : String} {T : u_T} {n ci f index : Nat} {ty : FieldType} (hc : cl[ci]? = some (C, T, n)) (hin : ∀ w ∈ u_ws C T n, w ∈ Tw) (ty0 : Nat → FieldType) (hty : ∀ k, k < n → parseFieldDescriptor (T k).2.2.1 = some (ty0 k)) (hdis : ∀ a, a < n → ∀ b, b < n → a ≠ b → (T a).2.1 ≠ (T b).2.1) (hk : f < n) (hw : Cond.fieldLinkNest (sg_Y P k).cls index (T f).1 (T f).2.1 (T f).2.2.1 host ∈ Tw) (hfin : (T f).2.2.2 = false) (hpd : parseFieldDescriptor (T f).2.2.1 = some ty) (hd : decode (sg_C P k) pc = .ok (.putfield index, 3)) : sg_Ok D cl tys B b Ls xs Sx Ax P Tw k pc (sg_putf pc ci f ty) := by
  intro p l e R s m args below meth c hF hC L st M μ H locs cells slots ls hJ
  obtain ⟨hx, hb, hml, hown, hts, hret, hlk, hfr, hlo, hnm, htr, htb⟩ := hF
  unfold sg_putf
  split
  · rename_i v a r
    split
    · rename_i cj fs he
      split
      · rename_i hcj
        obtain ⟨hcj, hfl, hkd⟩ := hcj
        subst hcj
        obtain ⟨ws, g1, g2, g3, g4⟩ := hJ.1.world
        obtain ⟨q0, hq0⟩ := g3 a _ he
        obtain ⟨n1, n2⟩ := sg_kd_ok (μ := μ) hkd
        have hwv : sg_wV M.2 v := (sg_c1 hJ.2.2.1).1
        refine ⟨Nat.le_refl _, fun Q _ _ kk => va_putN hx hb hts hin ty0 hty hdis hown hC.1 g1 g2 hJ.2.2.2.2 q0 hq0 hc f hk (hts _ hw) (fun _ h9 => h9) hfin hpd n1 n2 (by rw [List.length_map]; exact hfl) hd (fun H1 locs1 p1 p2 p3 => kk μ H1 locs1 ls sg_X.rf ⟨hJ.1.set g3 he hq0 (sg_wobj (sg_wset ((hJ.1.1 a _ he).2.1.2 _ _ rfl) hwv)) ?_, hJ.2.1, (sg_c1 (sg_c1 hJ.2.2.1).2).2, hJ.2.2.2.1, p3⟩)⟩
        have p1 : va_P D cl (ws.set q0 (μ a, .inr (cj, (fs.map (sg_v μ)).set f (sg_v μ v)))) H1 := p1
        rw [sg_mapset] at p1
        exact p1
      · trivial
    · trivial
  · trivial
theorem sg_ok_putfF {C : String} {T : u_T} {n ci f index : Nat} {ty : FieldType} (hc : cl[ci]? = some (C, T, n)) (hin : ∀ w ∈ u_ws C T n, w ∈ Tw) (ty0 : Nat → FieldType) (hty : ∀ k, k < n → parseFieldDescriptor (T k).2.2.1 = some (ty0 k)) (hdis : ∀ a, a < n → ∀ b, b < n → a ≠ b → (T a).2.1 ≠ (T b).2.1) (hk : f < n) (hw : Cond.fieldLink (sg_Y P k).cls index (T f).1 (T f).2.1 (T f).2.2.1 ∈ Tw) (hfin : (T f).2.2.2 = true) (hini : (sg_Y P k).name = "<init>") (hdecl : (T f).1 = (sg_Y P k).cls) (hpd : parseFieldDescriptor (T f).2.2.1 = some ty) (hd : decode (sg_C P k) pc = .ok (.putfield index, 3)) : sg_Ok D cl tys B b Ls xs Sx Ax P Tw k pc (sg_putf pc ci f ty) := by
  intro p l e R s m args below meth c hF hC L st M μ H locs cells slots ls hJ
  obtain ⟨hx, hb, hml, hown, hts, hret, hlk, hfr, hlo, hnm, htr, htb⟩ := hF
  unfold sg_putf
  split
  · rename_i v a r
    split
    · rename_i cj fs he
      split
      · rename_i hcj
        obtain ⟨hcj, hfl, hkd⟩ := hcj
        subst hcj
        obtain ⟨ws, g1, g2, g3, g4⟩ := hJ.1.world
        obtain ⟨q0, hq0⟩ := g3 a _ he
        obtain ⟨n1, n2⟩ := sg_kd_ok (μ := μ) hkd
        have hwv : sg_wV M.2 v := (sg_c1 hJ.2.2.1).1
        refine ⟨Nat.le_refl _, fun Q _ _ kk => va_putF hx hb hts hin ty0 hty hdis hown hC.1 g1 g2 hJ.2.2.2.2 q0 hq0 hc f hk (hts _ hw) (fun _ h9 => h9) hfin (hnm.trans hini) hdecl hpd n1 n2 (by rw [List.length_map]; exact hfl) hd (fun H1 locs1 p1 p2 p3 => kk μ H1 locs1 ls sg_X.rf ⟨hJ.1.set g3 he hq0 (sg_wobj (sg_wset ((hJ.1.1 a _ he).2.1.2 _ _ rfl) hwv)) ?_, hJ.2.1, (sg_c1 (sg_c1 hJ.2.2.1).2).2, hJ.2.2.2.1, p3⟩)⟩
        have p1 : va_P D cl (ws.set q0 (μ a, .inr (cj, (fs.map (sg_v μ)).set f (sg_v μ v)))) H1 := p1
        rw [sg_mapset] at p1
        exact p1
      · trivial
    · trivial
  · trivial
def sg_iald (pc : Nat) : sg_F := fun L st M => match st with
  | .int i :: .ref a :: r => match M.1 a with
    | some (.inl (0, n, .inl f)) => if sg_in i n = true then sg_go (pc + 1) L (.int (f i.toNatClampNeg) :: r) M else none
    | _ => none
  | _ => none
theorem sg_ok_iald (ht : tys[0]? = some (sg_tc tys 0, .int)) (hd : decode (sg_C P k) pc = .ok (.iaload, 1)) : sg_Ok D cl tys B b Ls xs Sx Ax P Tw k pc (sg_iald pc) := by
  intro p l e R s m args below meth c hF hC L st M μ H locs cells slots ls hJ
  obtain ⟨hx, hb, hml, hown, hts, hret, hlk, hfr, hlo, hnm, htr, htb⟩ := hF
  unfold sg_iald
  split
  · rename_i i a r
    split
    · rename_i n f he
      split
      · rename_i hi
        exact sg_pure hJ hJ.2.1 (sg_cc sg_wi (sg_c1 (sg_c1 hJ.2.2.1).2).2) (fun Q kk => va_iald hx hb hC.1 (hJ.1.one he).1 0 0 rfl ht (sg_in_ok hi) hd (kk ls hJ.2.2.2.1))
      · trivial
    · trivial
  · trivial
def sg_sld (Ls : Nat) (vs : Nat → Value) (pc : Nat) : sg_F := fun L st M => match st with
  | .int i :: .ref 0 :: r => if sg_in i Ls = true then sg_go (pc + 1) L (vs i.toNatClampNeg :: r) M else none
  | _ => none
theorem sg_ok_sld {vs : Nat → Value} (hvs : ∀ j, j < Ls → sg_v b (vs j) = .int (xs j) ∧ sg_wV sg_pn (vs j)) (hd : decode (sg_C P k) pc = .ok (.iaload, 1)) : sg_Ok D cl tys B b Ls xs Sx Ax P Tw k pc (sg_sld Ls vs pc) := by
  intro p l e R s m args below meth c hF hC L st M μ H locs cells slots ls hJ
  obtain ⟨hx, hb, hml, hown, hts, hret, hlk, hfr, hlo, hnm, htr, htb⟩ := hF
  unfold sg_sld
  split
  · rename_i i r
    split
    · rename_i hi
      have hbl : b 0 < s.heap.size := by
        obtain ⟨scr, g, -⟩ := hC.2.1
        exact (Array.getElem?_eq_some_iff.mp g).1
      have hin := sg_in_ok hi
      have hlt : i.toNatClampNeg < Ls := Nat.not_le.mp fun q => hin (Or.inr q)
      obtain ⟨v1, v2⟩ := hvs _ hlt
      refine sg_pure hJ hJ.2.1 (sg_cc (v2.mono hJ.1.2.2.2.1) (sg_c1 (sg_c1 hJ.2.2.1).2).2) (fun Q kk => ?_)
      have kk := kk ls hJ.2.2.2.1
      have e1 : sg_v μ (vs i.toNatClampNeg) = .int (xs i.toNatClampNeg) := by rw [← v1]; exact sg_v_x v2 (fun a ha => hJ.1.2.2.2.2 a ha)
      rw [List.map_cons, e1] at kk
      show W p l e R s m args below meth c H locs cells slots Q (F0 m pc ls (.int i :: .ref (μ 0) :: r.map (sg_v μ)))
      rw [hJ.1.2.2.2.2 0 (by decide)]
      exact va_sld hx hb hC.2.1 hbl (Nat.not_le.mpr hC.2.2.1) hJ.2.2.2.2 hin hd kk
    · trivial
  · trivial
def sg_slen (Ls : Nat) (pc : Nat) : sg_F := fun L st M => match st with
  | .ref 0 :: r => sg_go (pc + 1) L (.int (Int32.ofNat Ls) :: r) M
  | _ => none
theorem sg_ok_slen (hd : decode (sg_C P k) pc = .ok (.arraylength, 1)) : sg_Ok D cl tys B b Ls xs Sx Ax P Tw k pc (sg_slen Ls pc) := by
  intro p l e R s m args below meth c hF hC L st M μ H locs cells slots ls hJ
  obtain ⟨hx, hb, hml, hown, hts, hret, hlk, hfr, hlo, hnm, htr, htb⟩ := hF
  unfold sg_slen
  split
  · rename_i r
    have hbl : b 0 < s.heap.size := by
      obtain ⟨scr, g, -⟩ := hC.2.1
      exact (Array.getElem?_eq_some_iff.mp g).1
    refine sg_pure hJ hJ.2.1 (sg_cc sg_wi (sg_c1 hJ.2.2.1).2) (fun Q kk => ?_)
    show W p l e R s m args below meth c H locs cells slots Q (F0 m pc ls (.ref (μ 0) :: r.map (sg_v μ)))
    rw [hJ.1.2.2.2.2 0 (by decide)]
    exact va_slen hx hb hC.2.1 hbl (Nat.not_le.mpr hC.2.2.1) hJ.2.2.2.2 hd (kk ls hJ.2.2.2.1)
  · trivial
def sg_iast (pc : Nat) : sg_F := fun L st M => match st with
  | .int x :: .int i :: .ref a :: r => match M.1 a with
    | some (.inl (0, n, .inl f)) => if sg_in i n = true then some (.inl (pc + 1, L, r, (sg_up M.1 a (.inl (0, n, .inl (upd f i.toNatClampNeg x))), M.2), 0, 0)) else none
    | _ => none
  | _ => none
theorem sg_ok_iast (ht : tys[0]? = some (sg_tc tys 0, .int)) (hd : decode (sg_C P k) pc = .ok (.iastore, 1)) : sg_Ok D cl tys B b Ls xs Sx Ax P Tw k pc (sg_iast pc) := by
  intro p l e R s m args below meth c hF hC L st M μ H locs cells slots ls hJ
  obtain ⟨hx, hb, hml, hown, hts, hret, hlk, hfr, hlo, hnm, htr, htb⟩ := hF
  unfold sg_iast
  split
  · rename_i x i a r
    split
    · rename_i n f he
      split
      · rename_i hi
        obtain ⟨ws, g1, g2, g3, g4⟩ := hJ.1.world
        obtain ⟨q0, hq0⟩ := g3 a _ he
        exact ⟨Nat.le_refl _, fun Q _ _ kk => va_iast hx hb hC.1 g1 g2 hJ.2.2.2.2 q0 0 hq0 ht (sg_in_ok hi) hd (fun H1 locs1 p1 p2 p3 => kk μ H1 locs1 ls sg_X.rf ⟨hJ.1.set g3 he hq0 (e := .inl (0, n, .inl (upd f i.toNatClampNeg x))) (sg_warr sg_wAi) p1, hJ.2.1, (sg_c1 (sg_c1 (sg_c1 hJ.2.2.1).2).2).2, hJ.2.2.2.1, p3⟩)⟩
      · trivial
    · trivial
  · trivial
def sg_alen (pc : Nat) : sg_F := fun L st M => match st with
  | .ref a :: r => match M.1 a with
    | some (.inl (t1, n, _)) => if t1 < 6 then sg_go (pc + 1) L (.int (Int32.ofNat n) :: r) M else none
    | _ => none
  | _ => none
theorem sg_ok_alen (hT : sg_HT tys) (hd : decode (sg_C P k) pc = .ok (.arraylength, 1)) : sg_Ok D cl tys B b Ls xs Sx Ax P Tw k pc (sg_alen pc) := by
  intro p l e R s m args below meth c hF hC L st M μ H locs cells slots ls hJ
  obtain ⟨hx, hb, hml, hown, hts, hret, hlk, hfr, hlo, hnm, htr, htb⟩ := hF
  unfold sg_alen
  split
  · rename_i a r
    split
    · rename_i t1 n f he
      split
      · rename_i h1
        obtain ⟨ty, ht⟩ := sg_HT_any hT h1
        refine sg_pure hJ hJ.2.1 (sg_cc sg_wi (sg_c1 hJ.2.2.1).2) (fun Q kk => va_alen hx hb hC.1 (hJ.1.one he).1 0 t1 rfl ht ?_ hd (kk ls hJ.2.2.2.1))
        obtain f | f | f | f | f := f <;> rfl
      · trivial
    · trivial
  · trivial
def sg_aald (pc : Nat) : sg_F := fun L st M => match st with
  | .int i :: .ref a :: r => match M.1 a with
    | some (.inl (t1, n, .inr (.inr (.inr (.inr f))))) => if sg_isr t1 = true ∧ sg_in i n = true then sg_go (pc + 1) L (va_rf (f i.toNatClampNeg) :: r) M else none
    | _ => none
  | _ => none
theorem sg_ok_aald (hT : sg_HT tys) (hd : decode (sg_C P k) pc = .ok (.aaload, 1)) : sg_Ok D cl tys B b Ls xs Sx Ax P Tw k pc (sg_aald pc) := by
  intro p l e R s m args below meth c hF hC L st M μ H locs cells slots ls hJ
  obtain ⟨hx, hb, hml, hown, hts, hret, hlk, hfr, hlo, hnm, htr, htb⟩ := hF
  unfold sg_aald
  split
  · rename_i i a r
    split
    · rename_i t1 n f he
      split
      · rename_i hi
        obtain ⟨h1, hi⟩ := hi
        obtain ⟨ty, hty, ht⟩ := sg_HT_ref hT h1
        have hwv : sg_wV M.2 (va_rf (f i.toNatClampNeg)) := fun z hz => by
          cases hj : f i.toNatClampNeg with
          | none => rw [hj] at hz; rcases hz with hz | hz <;> cases hz
          | some y => rw [hj] at hz; rcases hz with hz | hz <;> cases hz; exact (hJ.1.1 a _ he).2.1.1 _ _ rfl _ _ rfl _ _ hj
        refine sg_pure hJ hJ.2.1 (sg_cc hwv (sg_c1 (sg_c1 hJ.2.2.1).2).2) (fun Q kk => sg_aldr (f := fun j => (f j).map μ) hx hb hC.1 (hJ.1.one he).1 0 t1 rfl ht hty (sg_in_ok hi) hd ?_)
        rw [sg_rf_v]
        exact kk ls hJ.2.2.2.1
      · trivial
    · trivial
  · trivial
def sg_aast (pc t ci : Nat) : sg_F := fun L st M => match st with
  | .ref v :: .int i :: .ref a :: r => match M.1 a, M.1 v with
    | some (.inl (t1, n, .inr (.inr (.inr (.inr f))))), some (.inr (cj, fs)) => if t1 = t ∧ cj = ci ∧ sg_in i n = true then some (.inl (pc + 1, L, r, (sg_up M.1 a (.inl (t1, n, .inr (.inr (.inr (.inr (va_up f i.toNatClampNeg (some v))))))), M.2), 0, 0)) else none
    | _, _ => none
  | _ => none
theorem sg_ok_aast {t ci : Nat} {q : vw_C} (ht : tys[t]? = some (sg_tc tys t, .object q.1)) (hc : cl[ci]? = some q) (hd : decode (sg_C P k) pc = .ok (.aastore, 1)) : sg_Ok D cl tys B b Ls xs Sx Ax P Tw k pc (sg_aast pc t ci) := by
  intro p l e R s m args below meth c hF hC L st M μ H locs cells slots ls hJ
  obtain ⟨hx, hb, hml, hown, hts, hret, hlk, hfr, hlo, hnm, htr, htb⟩ := hF
  unfold sg_aast
  split
  · rename_i v i a r
    split
    · rename_i t1 n f cj fs he hv
      split
      · rename_i hi
        obtain ⟨h1, h2, hi⟩ := hi
        subst h1; subst h2
        obtain ⟨ws, g1, g2, g3, g4⟩ := hJ.1.world
        obtain ⟨q0, hq0⟩ := g3 a _ he
        obtain ⟨q1, hq1⟩ := g3 v _ hv
        refine ⟨Nat.le_refl _, fun Q _ _ kk => va_astq (f := fun j => (f j).map μ) hx hb hC.1 g1 g2 hJ.2.2.2.2 q0 t1 q1 cj hq0 ht hq1 hc (sg_in_ok hi) hd (fun H1 locs1 p1 p2 p3 => kk μ H1 locs1 ls sg_X.rf ⟨hJ.1.set g3 he hq0 (e := .inl (t1, n, .inr (.inr (.inr (.inr (va_up f i.toNatClampNeg (some v))))))) (sg_warr ?_) ?_, hJ.2.1, (sg_c1 (sg_c1 (sg_c1 hJ.2.2.1).2).2).2, hJ.2.2.2.1, p3⟩)⟩
        · intro k9 f9 e9 j y hy
          cases e9
          have hy : (if j = i.toNatClampNeg then some v else f j) = some y := hy
          by_cases hz : j = i.toNatClampNeg
          · rw [if_pos hz] at hy; cases hy
            exact (hJ.1.1 v _ hv).1
          · rw [if_neg hz] at hy
            exact (hJ.1.1 a _ he).2.1.1 _ _ rfl _ _ rfl _ _ hy
        · have e9 : (fun j => (va_up f i.toNatClampNeg (some v) j).map μ) = va_up (fun j => (f j).map μ) i.toNatClampNeg (some (μ v)) := by
            funext j
            show ((if j = i.toNatClampNeg then some v else f j)).map μ = if j = i.toNatClampNeg then some (μ v) else (f j).map μ
            by_cases hz : j = i.toNatClampNeg
            · rw [if_pos hz, if_pos hz]; rfl
            · rw [if_neg hz, if_neg hz]
          show va_P D cl (ws.set q0 (μ a, .inl (sg_tc tys t1, n, .inr (.inr (.inr (.inr (fun j => (va_up f i.toNatClampNeg (some v) j).map μ))))))) H1
          rw [e9]
          exact p1
      · trivial
    · trivial
  · trivial
def sg_new (pc ci n : Nat) (fs : List Value) : sg_F := fun L st M => some (.inl (pc + 3, L, .ref M.2 :: st, (sg_up M.1 M.2 (.inr (ci, fs)), M.2 + 1), 1, n))
theorem sg_ok_new {C : String} {T : u_T} {n ci index : Nat} {fs : List Value} (hc : cl[ci]? = some (C, T, n)) (hin : ∀ w ∈ u_ws C T n, w ∈ Tw) (ty : Nat → FieldType) (hty : ∀ k, k < n → parseFieldDescriptor (T k).2.2.1 = some (ty k)) (h1 : Cond.classLink (sg_Y P k).cls index C ∈ Tw) (h2 : Cond.instantiable C n ∈ Tw) (h3 : Cond.initialized C ∈ Tw) (hfs : ∀ j, j < n → defaultValue (ty j) = vp_V fs j) (hnr : ∀ v ∈ fs, ∀ a, v ≠ .ref a ∧ v ≠ .retAddr a) (hd : decode (sg_C P k) pc = .ok (.new index, 3)) : sg_Ok D cl tys B b Ls xs Sx Ax P Tw k pc (sg_new pc ci n fs) := by
  intro p l e R s m args below meth c hF hC L st M μ H locs cells slots ls hJ
  obtain ⟨hx, hb, hml, hown, hts, hret, hlk, hfr, hlo, hnm, htr, htb⟩ := hF
  obtain ⟨ws, g1, g2, g3, g4⟩ := hJ.1.world
  have hfm : fs.map (sg_v μ) = fs := by
    have : fs.map (sg_v μ) = fs.map id := List.map_congr_left fun v hv => by
      cases v <;> first | rfl | exact absurd rfl (hnr _ hv _).1 | exact absurd rfl (hnr _ hv _).2
    rw [this, List.map_id]
  have hwf : sg_wE M.2 (.inr (ci, fs)) := sg_wobj fun v hv a e => by rcases e with e | e; exact absurd e (hnr v hv a).1; exact absurd e (hnr v hv a).2
  refine ⟨Nat.le_succ _, fun Q hc1 hc2 kk => va_new hx hb hts hin ty hty hown (hts _ h1) (hts _ h2) (hts _ h3) hC.1 g1 g2 hJ.2.2.2.2 (fun q hq => Nat.le_trans hC.2.2.2.1 hq) hc hfs hc1 hc2 hd (fun q H1 p1 p2 p3 => ?_)⟩
  have e9 : sg_c tys μ (.inr (ci, fs)) = .inr (ci, fs) := congrArg (fun z => Sum.inr (ci, z)) hfm
  obtain ⟨i1, i2⟩ := hJ.1.push (e := .inr (ci, fs)) g3 hwf (by rw [e9]; exact p1) (by rw [e9]; exact p2)
  have hk := kk _ H1 locs ls i2 ⟨i1, fun z hz => (hJ.2.1 z hz).mono (Nat.le_succ _), sg_cc (fun a e => by rcases e with e | e <;> cases e <;> exact Nat.lt_succ_self _) (fun v hv => (hJ.2.2.1 v hv).mono (Nat.le_succ _)), by rw [sg_ls_x hJ.2.1 i2]; exact hJ.2.2.2.1, p3⟩
  rw [List.map_cons, sg_vs_x hJ.2.2.1 i2] at hk
  have e8 : sg_v (fun x => if x = M.2 then q else μ x) (.ref M.2) = .ref q := congrArg Value.ref (if_pos rfl)
  rw [e8] at hk
  exact hk
def sg_newa_int (pc : Nat) : sg_F := fun L st M => match st with
  | .int n :: r => if n < 0 ∨ 65536 < n.toNatClampNeg then none else some (.inl (pc + 2, L, .ref M.2 :: r, (sg_up M.1 M.2 (.inl (0, n.toNatClampNeg, .inl (fun _ => 0))), M.2 + 1), 1, n.toNatClampNeg))
  | _ => none
theorem sg_ok_newa_int (ht : tys[0]? = some (sg_tc tys 0, .int)) (hw : Cond.arrayClass .int ∈ Tw) (hd : decode (sg_C P k) pc = .ok (.newarray .int, 2)) : sg_Ok D cl tys B b Ls xs Sx Ax P Tw k pc (sg_newa_int pc) := by
  intro p l e R s m args below meth c hF hC L st M μ H locs cells slots ls hJ
  obtain ⟨hx, hb, hml, hown, hts, hret, hlk, hfr, hlo, hnm, htr, htb⟩ := hF
  unfold sg_newa_int
  split
  · rename_i n r
    split
    · trivial
    · rename_i hn
      have hn0 : ¬ n < 0 := fun z => hn (Or.inl z)
      have hn1 : n.toNatClampNeg ≤ 65536 := by omega
      obtain ⟨ws, g1, g2, g3, g4⟩ := hJ.1.world
      have hst := (sg_c1 hJ.2.2.1).2
      refine ⟨Nat.le_succ _, fun Q hc1 hc2 kk => va_newa (atype := .int) (ty := .int) (a0 := (n.toNatClampNeg, .inl (fun _ => 0))) hx hb (hts _ hw) rfl hC.1 g1 g2 hJ.2.2.2.2 (fun q hq => Nat.le_trans hC.2.2.2.1 hq) (fun cA => rfl) hn0 rfl (by show n.toNatClampNeg * 4 ≤ 536870912; omega) hc1 hc2 hd (fun q cA H1 pK p1 p2 p3 => ?_)⟩
      have hcA : cA = sg_tc tys 0 := by
        have k1 : s.vm.findClass ("[" ++ (FieldType.int).toString) = some cA := (pK.2 tys.length (cA, .int) (by rw [List.getElem?_append_right (Nat.le_refl _), Nat.sub_self]; rfl)).2
        have k2 : s.vm.findClass ("[" ++ (FieldType.int).toString) = some (sg_tc tys 0) := (hC.1.2 0 _ ht).2
        exact Option.some.inj (k1.symm.trans k2)
      subst hcA
      obtain ⟨i1, i2⟩ := hJ.1.push (e := .inl (0, n.toNatClampNeg, .inl (fun _ => 0))) g3 (sg_warr sg_wAi) p1 p2
      have hk := kk _ H1 locs ls i2 ⟨i1, fun z hz => (hJ.2.1 z hz).mono (Nat.le_succ _), sg_cc (fun a e => by rcases e with e | e <;> cases e <;> exact Nat.lt_succ_self _) (fun v hv => (hst v hv).mono (Nat.le_succ _)), by rw [sg_ls_x hJ.2.1 i2]; exact hJ.2.2.2.1, p3⟩
      rw [List.map_cons, sg_vs_x hst i2] at hk
      have e8 : sg_v (fun x => if x = M.2 then q else μ x) (.ref M.2) = .ref q := congrArg Value.ref (if_pos rfl)
      rw [e8] at hk
      exact hk
  · trivial
def sg_newa_boolean (pc : Nat) : sg_F := fun L st M => match st with
  | .int n :: r => if n < 0 ∨ 65536 < n.toNatClampNeg then none else some (.inl (pc + 2, L, .ref M.2 :: r, (sg_up M.1 M.2 (.inl (2, n.toNatClampNeg, .inl (fun _ => 0))), M.2 + 1), 1, n.toNatClampNeg))
  | _ => none
theorem sg_ok_newa_boolean (ht : tys[2]? = some (sg_tc tys 2, .boolean)) (hw : Cond.arrayClass .boolean ∈ Tw) (hd : decode (sg_C P k) pc = .ok (.newarray .boolean, 2)) : sg_Ok D cl tys B b Ls xs Sx Ax P Tw k pc (sg_newa_boolean pc) := by
  intro p l e R s m args below meth c hF hC L st M μ H locs cells slots ls hJ
  obtain ⟨hx, hb, hml, hown, hts, hret, hlk, hfr, hlo, hnm, htr, htb⟩ := hF
  unfold sg_newa_boolean
  split
  · rename_i n r
    split
    · trivial
    · rename_i hn
      have hn0 : ¬ n < 0 := fun z => hn (Or.inl z)
      have hn1 : n.toNatClampNeg ≤ 65536 := by omega
      obtain ⟨ws, g1, g2, g3, g4⟩ := hJ.1.world
      have hst := (sg_c1 hJ.2.2.1).2
      refine ⟨Nat.le_succ _, fun Q hc1 hc2 kk => va_newa (atype := .boolean) (ty := .boolean) (a0 := (n.toNatClampNeg, .inl (fun _ => 0))) hx hb (hts _ hw) rfl hC.1 g1 g2 hJ.2.2.2.2 (fun q hq => Nat.le_trans hC.2.2.2.1 hq) (fun cA => rfl) hn0 rfl (by show n.toNatClampNeg * 1 ≤ 536870912; omega) hc1 hc2 hd (fun q cA H1 pK p1 p2 p3 => ?_)⟩
      have hcA : cA = sg_tc tys 2 := by
        have k1 : s.vm.findClass ("[" ++ (FieldType.boolean).toString) = some cA := (pK.2 tys.length (cA, .boolean) (by rw [List.getElem?_append_right (Nat.le_refl _), Nat.sub_self]; rfl)).2
        have k2 : s.vm.findClass ("[" ++ (FieldType.boolean).toString) = some (sg_tc tys 2) := (hC.1.2 2 _ ht).2
        exact Option.some.inj (k1.symm.trans k2)
      subst hcA
      obtain ⟨i1, i2⟩ := hJ.1.push (e := .inl (2, n.toNatClampNeg, .inl (fun _ => 0))) g3 (sg_warr sg_wAi) p1 p2
      have hk := kk _ H1 locs ls i2 ⟨i1, fun z hz => (hJ.2.1 z hz).mono (Nat.le_succ _), sg_cc (fun a e => by rcases e with e | e <;> cases e <;> exact Nat.lt_succ_self _) (fun v hv => (hst v hv).mono (Nat.le_succ _)), by rw [sg_ls_x hJ.2.1 i2]; exact hJ.2.2.2.1, p3⟩
      rw [List.map_cons, sg_vs_x hst i2] at hk
      have e8 : sg_v (fun x => if x = M.2 then q else μ x) (.ref M.2) = .ref q := congrArg Value.ref (if_pos rfl)
      rw [e8] at hk
      exact hk
  · trivial
def sg_newa_long (pc : Nat) : sg_F := fun L st M => match st with
  | .int n :: r => if n < 0 ∨ 65536 < n.toNatClampNeg then none else some (.inl (pc + 2, L, .ref M.2 :: r, (sg_up M.1 M.2 (.inl (3, n.toNatClampNeg, .inr (.inl (fun _ => 0)))), M.2 + 1), 1, n.toNatClampNeg))
  | _ => none
theorem sg_ok_newa_long (ht : tys[3]? = some (sg_tc tys 3, .long)) (hw : Cond.arrayClass .long ∈ Tw) (hd : decode (sg_C P k) pc = .ok (.newarray .long, 2)) : sg_Ok D cl tys B b Ls xs Sx Ax P Tw k pc (sg_newa_long pc) := by
  intro p l e R s m args below meth c hF hC L st M μ H locs cells slots ls hJ
  obtain ⟨hx, hb, hml, hown, hts, hret, hlk, hfr, hlo, hnm, htr, htb⟩ := hF
  unfold sg_newa_long
  split
  · rename_i n r
    split
    · trivial
    · rename_i hn
      have hn0 : ¬ n < 0 := fun z => hn (Or.inl z)
      have hn1 : n.toNatClampNeg ≤ 65536 := by omega
      obtain ⟨ws, g1, g2, g3, g4⟩ := hJ.1.world
      have hst := (sg_c1 hJ.2.2.1).2
      refine ⟨Nat.le_succ _, fun Q hc1 hc2 kk => va_newa (atype := .long) (ty := .long) (a0 := (n.toNatClampNeg, .inr (.inl (fun _ => 0)))) hx hb (hts _ hw) rfl hC.1 g1 g2 hJ.2.2.2.2 (fun q hq => Nat.le_trans hC.2.2.2.1 hq) (fun cA => rfl) hn0 rfl (by show n.toNatClampNeg * 8 ≤ 536870912; omega) hc1 hc2 hd (fun q cA H1 pK p1 p2 p3 => ?_)⟩
      have hcA : cA = sg_tc tys 3 := by
        have k1 : s.vm.findClass ("[" ++ (FieldType.long).toString) = some cA := (pK.2 tys.length (cA, .long) (by rw [List.getElem?_append_right (Nat.le_refl _), Nat.sub_self]; rfl)).2
        have k2 : s.vm.findClass ("[" ++ (FieldType.long).toString) = some (sg_tc tys 3) := (hC.1.2 3 _ ht).2
        exact Option.some.inj (k1.symm.trans k2)
      subst hcA
      obtain ⟨i1, i2⟩ := hJ.1.push (e := .inl (3, n.toNatClampNeg, .inr (.inl (fun _ => 0)))) g3 (sg_warr sg_wAl) p1 p2
      have hk := kk _ H1 locs ls i2 ⟨i1, fun z hz => (hJ.2.1 z hz).mono (Nat.le_succ _), sg_cc (fun a e => by rcases e with e | e <;> cases e <;> exact Nat.lt_succ_self _) (fun v hv => (hst v hv).mono (Nat.le_succ _)), by rw [sg_ls_x hJ.2.1 i2]; exact hJ.2.2.2.1, p3⟩
      rw [List.map_cons, sg_vs_x hst i2] at hk
      have e8 : sg_v (fun x => if x = M.2 then q else μ x) (.ref M.2) = .ref q := congrArg Value.ref (if_pos rfl)
      rw [e8] at hk
      exact hk
  · trivial
def sg_newq (pc t : Nat) : sg_F := fun L st M => match st with
  | .int n :: r => if n < 0 ∨ 65536 < n.toNatClampNeg then none else some (.inl (pc + 3, L, .ref M.2 :: r, (sg_up M.1 M.2 (.inl (t, n.toNatClampNeg, .inr (.inr (.inr (.inr (fun _ => none)))))), M.2 + 1), 1, n.toNatClampNeg))
  | _ => none
theorem sg_ok_newq {t index : Nat} {C : String} (ht : tys[t]? = some (sg_tc tys t, .object C)) (hw : Cond.classLink (sg_Y P k).cls index C ∈ Tw) (hA : C ∈ Ax) (hd : decode (sg_C P k) pc = .ok (.anewarray index, 3)) : sg_Ok D cl tys B b Ls xs Sx Ax P Tw k pc (sg_newq pc t) := by
  intro p l e R s m args below meth c hF hC L st M μ H locs cells slots ls hJ
  obtain ⟨hx, hb, hml, hown, hts, hret, hlk, hfr, hlo, hnm, htr, htb⟩ := hF
  unfold sg_newq
  split
  · rename_i n r
    split
    · trivial
    · rename_i hn
      have hn0 : ¬ n < 0 := fun z => hn (Or.inl z)
      have hn1 : n.toNatClampNeg ≤ 65536 := by omega
      obtain ⟨ws, g1, g2, g3, g4⟩ := hJ.1.world
      have hst := (sg_c1 hJ.2.2.1).2
      refine ⟨Nat.le_succ _, fun Q hc1 hc2 kk => va_newq hx hb hown (hts _ hw) (hC.2.2.2.2.2.2.2.1 C hA) hC.1 g1 g2 hJ.2.2.2.2 (fun q hq => Nat.le_trans hC.2.2.2.1 hq) hn0 rfl (by omega) hc1 hc2 hd (fun q cA H1 pK p1 p2 p3 => ?_)⟩
      have hcA : cA = sg_tc tys t := by
        obtain ⟨-, -, -, -, -, k1⟩ := (pK.2 tys.length (cA, .object C) (by rw [List.getElem?_append_right (Nat.le_refl _), Nat.sub_self]; rfl)).2
        obtain ⟨-, -, -, -, -, k2⟩ := (hC.1.2 t _ ht).2
        exact Option.some.inj (k1.symm.trans k2)
      subst hcA
      obtain ⟨i1, i2⟩ := hJ.1.push (e := .inl (t, n.toNatClampNeg, .inr (.inr (.inr (.inr (fun _ => none)))))) g3 (sg_warr (fun _ _ e9 j a ha => by cases e9; cases ha)) p1 p2
      have hk := kk _ H1 locs ls i2 ⟨i1, fun z hz => (hJ.2.1 z hz).mono (Nat.le_succ _), sg_cc (fun a e => by rcases e with e | e <;> cases e <;> exact Nat.lt_succ_self _) (fun v hv => (hst v hv).mono (Nat.le_succ _)), by rw [sg_ls_x hJ.2.1 i2]; exact hJ.2.2.2.1, p3⟩
      rw [List.map_cons, sg_vs_x hst i2] at hk
      have e8 : sg_v (fun x => if x = M.2 then q else μ x) (.ref M.2) = .ref q := congrArg Value.ref (if_pos rfl)
      rw [e8] at hk
      exact hk
  · trivial
def sg_copy (pc : Nat) (P : sg_P) (k : Nat) : sg_F := fun L st M => match st with
  | .int n :: .int dp :: .ref a :: .int sp :: .ref a0 :: r => match M.1 a0, M.1 a with
    | some (.inl (0, n0, .inl f)), some (.inl (0, n1, .inl g)) => if sp < 0 ∨ dp < 0 ∨ n < 0 ∨ n0 < sp.toNatClampNeg + n.toNatClampNeg ∨ n1 < dp.toNatClampNeg + n.toNatClampNeg ∨ sg_fr P k < 1 ∨ sg_lo P k < (r.map fun v => v.category).sum + (nativeFrameWords "java/lang/System" "arraycopy" 5 + 11) then none else some (.inl (pc + 3, L, r, (sg_up M.1 a (.inl (0, n1, .inl (va_cpy f g sp.toNatClampNeg dp.toNatClampNeg n.toNatClampNeg))), M.2), 0, 0))
    | _, _ => none
  | _ => none
theorem sg_ok_copy {index : Nat} (ht : tys[0]? = some (sg_tc tys 0, .int)) (h1 : Cond.methodLink (sg_Y P k).cls index arraycopyName ∈ Tw) (h2 : Cond.native arraycopyName ∈ Tw) (h3 : Cond.static arraycopyName ∈ Tw) (h4 : Cond.initialized "java/lang/System" ∈ Tw) (hd : decode (sg_C P k) pc = .ok (.invokestatic index, 3)) : sg_Ok D cl tys B b Ls xs Sx Ax P Tw k pc (sg_copy pc P k) := by
  intro p l e R s m args below meth c hF hC L st M μ H locs cells slots ls hJ
  obtain ⟨hx, hb, hml, hown, hts, hret, hlk, hfr, hlo, hnm, htr, htb⟩ := hF
  unfold sg_copy
  split
  · rename_i n dp a sp a0 r
    split
    · rename_i n0 f n1 g he0 he1
      split
      · trivial
      · rename_i hn
        simp only [not_or, Nat.not_lt] at hn
        obtain ⟨z1, z2, z3, z4, z5, z6, z7⟩ := hn
        obtain ⟨ws, g1, g2, g3, g4⟩ := hJ.1.world
        obtain ⟨q0, hq0⟩ := g3 a0 _ he0
        obtain ⟨q1, hq1⟩ := g3 a _ he1
        have hst := (sg_c1 (sg_c1 (sg_c1 (sg_c1 (sg_c1 hJ.2.2.1).2).2).2).2).2
        exact ⟨Nat.le_refl _, fun Q _ _ kk => va_copyi hx hb (hml.trans hJ.2.2.2.1.1.symm) hown (hts _ h1) (hts _ h2) (hts _ h3) (hts _ h4) hC.1 g1 g2 hJ.2.2.2.2 q0 q1 0 0 hq0 hq1 ht ht rfl z1 z2 z3 z4 z5 (fun _ _ => rfl) (by rw [hfr]; exact z6) (by rw [hlo, sg_cats]; exact z7) hd (fun H1 locs1 p1 p2 p3 => kk μ H1 locs1 ls sg_X.rf ⟨hJ.1.set g3 he1 hq1 (e := .inl (0, n1, .inl (va_cpy f g sp.toNatClampNeg dp.toNatClampNeg n.toNatClampNeg))) (sg_warr sg_wAi) p1, hJ.2.1, hst, hJ.2.2.2.1, p3⟩)⟩
    · trivial
  · trivial
def sg_obj (pc : Nat) (P : sg_P) (k : Nat) : sg_F := fun L st M => match st with
  | .ref _ :: r => if sg_fr P k < 1 ∨ sg_lo P k < (r.map fun v => v.category).sum + 12 then none else sg_go (pc + 3) L r M
  | _ => none
theorem sg_ok_obj {index : Nat} (h1 : Cond.methodLink (sg_Y P k).cls index Lib.objectInit ∈ Tw) (h2 : Cond.instanceMethod Lib.objectInit ∈ Tw) (h3 : Cond.code Lib.objectInit ⟨#[0xb1]⟩ 1 none ∈ Tw) (hd : decode (sg_C P k) pc = .ok (.invokespecial index, 3)) : sg_Ok D cl tys B b Ls xs Sx Ax P Tw k pc (sg_obj pc P k) := by
  intro p l e R s m args below meth c hF hC L st M μ H locs cells slots ls hJ
  obtain ⟨hx, hb, hml, hown, hts, hret, hlk, hfr, hlo, hnm, htr, htb⟩ := hF
  unfold sg_obj
  split
  · rename_i a r
    split
    · trivial
    · rename_i hn
      simp only [not_or, Nat.not_lt] at hn
      exact sg_pure hJ hJ.2.1 (sg_c1 hJ.2.2.1).2 (fun Q kk => W.objInit hx hb hown (hts _ h1) (hts _ h2) (hts _ h3) rfl (hJ.2.2.2.1.1.trans hml.symm) rfl hd (by rw [hfr]; exact hn.1) (by show 2 * 0 + (((r.map (sg_v μ)).map fun v => v.category).sum) + 12 ≤ R.locals; rw [hlo, sg_cats]; omega) (kk ls hJ.2.2.2.1))
  · trivial
def sg_iret : sg_F := fun L st M => match st with
  | [.int x] => some (.inr (.inr (.inl (some (.int x)))))
  | _ => none
theorem sg_ok_iret (hT : sg_T P k = some .int) (hd : decode (sg_C P k) pc = .ok (.ireturn, 1)) : sg_Ok D cl tys B b Ls xs Sx Ax P Tw k pc sg_iret := by
  intro p l e R s m args below meth c hF hC L st M μ H locs cells slots ls hJ
  obtain ⟨hx, hb, hml, hown, hts, hret, hlk, hfr, hlo, hnm, htr, htb⟩ := hF
  unfold sg_iret
  split
  · rename_i x
    exact ⟨fun y hy => by cases hy; exact sg_wi, fun Qc XC free hq hf => vx_ret (W.iret (v := x) hx hb (hret.trans hT) hq hf hd hlk)⟩
  · trivial
def sg_lret : sg_F := fun L st M => match st with
  | [.long x] => some (.inr (.inr (.inl (some (.long x)))))
  | _ => none
theorem sg_ok_lret (hT : sg_T P k = some .long) (hd : decode (sg_C P k) pc = .ok (.lreturn, 1)) : sg_Ok D cl tys B b Ls xs Sx Ax P Tw k pc sg_lret := by
  intro p l e R s m args below meth c hF hC L st M μ H locs cells slots ls hJ
  obtain ⟨hx, hb, hml, hown, hts, hret, hlk, hfr, hlo, hnm, htr, htb⟩ := hF
  unfold sg_lret
  split
  · rename_i x
    exact ⟨fun y hy => by cases hy; exact sg_wl, fun Qc XC free hq hf => vx_ret (W.lret (v := x) hx hb (hret.trans hT) hq hf hd hlk)⟩
  · trivial
def sg_zret : sg_F := fun L st M => match st with
  | [.int x] => if x = 0 ∨ x = 1 then some (.inr (.inr (.inl (some (.int x))))) else none
  | _ => none
theorem sg_ok_zret (hT : sg_T P k = some .boolean) (hd : decode (sg_C P k) pc = .ok (.ireturn, 1)) : sg_Ok D cl tys B b Ls xs Sx Ax P Tw k pc sg_zret := by
  intro p l e R s m args below meth c hF hC L st M μ H locs cells slots ls hJ
  obtain ⟨hx, hb, hml, hown, hts, hret, hlk, hfr, hlo, hnm, htr, htb⟩ := hF
  unfold sg_zret
  split
  · rename_i x
    split
    · rename_i hx01
      have hn : narrow .boolean (.int x) = .int x := by rcases hx01 with h | h <;> subst h <;> rfl
      exact ⟨fun y hy => by cases hy; exact sg_wi, fun Qc XC free hq hf => vx_ret (W.zret (v := x) hx hb (hret.trans hT) hn hq hf hd hlk)⟩
    · trivial
  · trivial
def sg_vret : sg_F := fun L st M => match st with
  | [] => some (.inr (.inr (.inl none)))
  | _ => none
theorem sg_ok_vret (hT : sg_T P k = none) (hd : decode (sg_C P k) pc = .ok (.return_, 1)) : sg_Ok D cl tys B b Ls xs Sx Ax P Tw k pc sg_vret := by
  intro p l e R s m args below meth c hF hC L st M μ H locs cells slots ls hJ
  obtain ⟨hx, hb, hml, hown, hts, hret, hlk, hfr, hlo, hnm, htr, htb⟩ := hF
  unfold sg_vret
  split
  · exact ⟨fun y hy => (nomatch hy), fun Qc XC free hq hf => vx_ret (W.vret hx hb (hret.trans hT) hq hf hd hlk)⟩
  · trivial
def sg_aret : sg_F := fun L st M => match st with
  | [.ref a] => some (.inr (.inr (.inl (some (.ref a)))))
  | [.null] => some (.inr (.inr (.inl (some .null))))
  | _ => none
theorem sg_ok_aret {rt : FieldType} (hT : sg_T P k = some rt) (hrt : (∃ n, rt = .object n) ∨ ∃ t, rt = .array t) (hd : decode (sg_C P k) pc = .ok (.areturn, 1)) : sg_Ok D cl tys B b Ls xs Sx Ax P Tw k pc sg_aret := by
  intro p l e R s m args below meth c hF hC L st M μ H locs cells slots ls hJ
  obtain ⟨hx, hb, hml, hown, hts, hret, hlk, hfr, hlo, hnm, htr, htb⟩ := hF
  unfold sg_aret
  split
  · rename_i a
    exact ⟨fun y hy => by cases hy; exact (sg_c1 hJ.2.2.1).1, fun Qc XC free hq hf => vx_ret (W.aret (v := .ref (μ a)) hx hb (hret.trans hT) hrt (Or.inr ⟨_, rfl⟩) hq hf hd hlk)⟩
  · exact ⟨fun y hy => by cases hy; exact sg_wnull, fun Qc XC free hq hf => vx_ret (W.aret (v := .null) hx hb (hret.trans hT) hrt (Or.inl rfl) hq hf hd hlk)⟩
  · trivial
end
end SGC
end
section
section SGM
theorem sg_wd {n : Nat} {x : UInt64} : sg_wV n (.double x) := fun _ e => by rcases e with e | e <;> cases e
/-- the kinds of ints -/
def sg_kl (c : Nat) : Int × Int := match c with
  | 1 => (-2147483648, -1)
  | 2 => (0, 2147483647)
  | 3 => (8, 2147483647)
  | 4 => (0, 999)
  | 5 => (1000, 2147483647)
  | 6 => (1, 2147483647)
  | _ => (-2147483648, 2147483647)
/-- number n, from 16 on, is an int of the kind n % 16 -/
def sg_sy (b : Nat → Nat) : Prop := ∀ n, 16 ≤ n → n < sg_pn → (sg_kl (n % 16)).1 ≤ (sg_iv (b n)).toInt ∧ (sg_iv (b n)).toInt ≤ (sg_kl (n % 16)).2
def sg_rg (n : Nat) : Bool := Nat.ble 16 n && Nat.blt n 128
theorem sg_rg_ok {n : Nat} (h : sg_rg n = true) : 16 ≤ n ∧ n < sg_pn := by
  simp only [sg_rg, Bool.and_eq_true, Nat.ble_eq, Nat.blt_eq] at h
  exact h
section
variable {D : va_G} {cl : List vw_C} {tys : List (ClassId × FieldType)} {B : Nat} {b : Nat → Nat} {Ls : Nat} {xs : Nat → Int32} {Sx : List (String × Nat × String)} {Ax : List String} {P : sg_P} {Tw : List Cond} {k pc : Nat}
theorem sg_symu {μ : Nat → Nat} {M : sg_M} {H : Heap} {n : Nat} (hI : sg_I D cl tys B b μ M H) (hn : n < sg_pn) : sg_v μ (.retAddr n) = .int (sg_iv (b n)) := by
  show Value.int (sg_iv (μ n)) = _
  rw [hI.2.2.2.2 n hn]

def sg_ycmp_lt (pc tgt : Nat) : sg_F := fun L st M => match st with
  | .int y :: .int x :: r => if x < y then sg_go tgt L r M else sg_go (pc + 3) L r M
  | .int y :: .retAddr n :: r => if sg_rg n = true then (if (sg_kl (n % 16)).2 < y.toInt then sg_go tgt L r M else if y.toInt ≤ (sg_kl (n % 16)).1 then sg_go (pc + 3) L r M else none) else none
  | _ => none
theorem sg_ok_ycmp_lt {off : Int} {tgt : Nat} (hsy : sg_sy b) (hd : decode (sg_C P k) pc = .ok (.if_icmp .lt off, 3)) (ht : (pc : Int) + off = (tgt : Int)) : sg_Ok D cl tys B b Ls xs Sx Ax P Tw k pc (sg_ycmp_lt pc tgt) := by
  intro p l e R s m args below meth c hF hC L st M μ H locs cells slots ls hJ
  obtain ⟨hx, hb, hml, hown, hts, hret, hlk, hfr, hlo, hnm, htr, htb⟩ := hF
  have wf := fun (a b : Value) (r : List Value) (h : ∀ v ∈ a :: b :: r, sg_wV M.2 v) => (sg_c1 (sg_c1 h).2).2
  unfold sg_ycmp_lt
  split
  · split
    · rename_i hc
      exact sg_pure hJ hJ.2.1 (wf _ _ _ hJ.2.2.1) (fun Q kk => lv_icmp_lt hx hb hd ht (fun _ => kk ls hJ.2.2.2.1) (fun h => absurd hc h))
    · rename_i hc
      exact sg_pure hJ hJ.2.1 (wf _ _ _ hJ.2.2.1) (fun Q kk => lv_icmp_lt hx hb hd ht (fun h => absurd h hc) (fun _ => kk ls hJ.2.2.2.1))
  · rename_i y n r
    split
    · rename_i hr
      obtain ⟨r1, r2⟩ := sg_rg_ok hr
      obtain ⟨z1, z2⟩ := hsy n r1 r2
      have hv : sg_v μ (.retAddr n) = .int (sg_iv (b n)) := sg_symu hJ.1 r2
      have go : ∀ (pc1 : Nat), (∀ Q : State → Prop, W p l e R s m args below meth c H locs cells slots Q (F0 m pc1 ls (r.map (sg_v μ))) → W p l e R s m args below meth c H locs cells slots Q (F0 m pc ls (.int y :: .int (sg_iv (b n)) :: r.map (sg_v μ)))) → sg_Res D cl tys B b P Tw k p l e R s m args below meth c μ M H locs cells slots pc ls (.int y :: .retAddr n :: r) (sg_go pc1 L r M) := fun pc1 h => sg_pure hJ hJ.2.1 (wf _ _ _ hJ.2.2.1) (fun Q kk => by
        show W p l e R s m args below meth c H locs cells slots Q (F0 m pc ls (.int y :: sg_v μ (.retAddr n) :: r.map (sg_v μ)))
        rw [hv]
        exact h Q (kk ls hJ.2.2.2.1))
      split
      · rename_i hc
        have h9 : sg_iv (b n) < y := by
          first | (rw [Int32.lt_iff_toInt_lt]; omega) | (rw [Int32.le_iff_toInt_le]; omega)
        exact go _ (fun Q kk => lv_icmp_lt hx hb hd ht (fun _ => kk) (fun h => absurd h9 h))
      · split
        · rename_i hc
          have h9 : ¬ sg_iv (b n) < y := by
            first | (rw [Int32.lt_iff_toInt_lt]; omega) | (rw [Int32.le_iff_toInt_le]; omega)
          exact go _ (fun Q kk => lv_icmp_lt hx hb hd ht (fun h => absurd h h9) (fun _ => kk))
        · trivial
    · trivial
  · trivial
def sg_ycmp_ge (pc tgt : Nat) : sg_F := fun L st M => match st with
  | .int y :: .int x :: r => if y ≤ x then sg_go tgt L r M else sg_go (pc + 3) L r M
  | .int y :: .retAddr n :: r => if sg_rg n = true then (if y.toInt ≤ (sg_kl (n % 16)).1 then sg_go tgt L r M else if (sg_kl (n % 16)).2 < y.toInt then sg_go (pc + 3) L r M else none) else none
  | _ => none
theorem sg_ok_ycmp_ge {off : Int} {tgt : Nat} (hsy : sg_sy b) (hd : decode (sg_C P k) pc = .ok (.if_icmp .ge off, 3)) (ht : (pc : Int) + off = (tgt : Int)) : sg_Ok D cl tys B b Ls xs Sx Ax P Tw k pc (sg_ycmp_ge pc tgt) := by
  intro p l e R s m args below meth c hF hC L st M μ H locs cells slots ls hJ
  obtain ⟨hx, hb, hml, hown, hts, hret, hlk, hfr, hlo, hnm, htr, htb⟩ := hF
  have wf := fun (a b : Value) (r : List Value) (h : ∀ v ∈ a :: b :: r, sg_wV M.2 v) => (sg_c1 (sg_c1 h).2).2
  unfold sg_ycmp_ge
  split
  · split
    · rename_i hc
      exact sg_pure hJ hJ.2.1 (wf _ _ _ hJ.2.2.1) (fun Q kk => lv_icmp_ge hx hb hd ht (fun _ => kk ls hJ.2.2.2.1) (fun h => absurd hc h))
    · rename_i hc
      exact sg_pure hJ hJ.2.1 (wf _ _ _ hJ.2.2.1) (fun Q kk => lv_icmp_ge hx hb hd ht (fun h => absurd h hc) (fun _ => kk ls hJ.2.2.2.1))
  · rename_i y n r
    split
    · rename_i hr
      obtain ⟨r1, r2⟩ := sg_rg_ok hr
      obtain ⟨z1, z2⟩ := hsy n r1 r2
      have hv : sg_v μ (.retAddr n) = .int (sg_iv (b n)) := sg_symu hJ.1 r2
      have go : ∀ (pc1 : Nat), (∀ Q : State → Prop, W p l e R s m args below meth c H locs cells slots Q (F0 m pc1 ls (r.map (sg_v μ))) → W p l e R s m args below meth c H locs cells slots Q (F0 m pc ls (.int y :: .int (sg_iv (b n)) :: r.map (sg_v μ)))) → sg_Res D cl tys B b P Tw k p l e R s m args below meth c μ M H locs cells slots pc ls (.int y :: .retAddr n :: r) (sg_go pc1 L r M) := fun pc1 h => sg_pure hJ hJ.2.1 (wf _ _ _ hJ.2.2.1) (fun Q kk => by
        show W p l e R s m args below meth c H locs cells slots Q (F0 m pc ls (.int y :: sg_v μ (.retAddr n) :: r.map (sg_v μ)))
        rw [hv]
        exact h Q (kk ls hJ.2.2.2.1))
      split
      · rename_i hc
        have h9 : y ≤ sg_iv (b n) := by
          first | (rw [Int32.lt_iff_toInt_lt]; omega) | (rw [Int32.le_iff_toInt_le]; omega)
        exact go _ (fun Q kk => lv_icmp_ge hx hb hd ht (fun _ => kk) (fun h => absurd h9 h))
      · split
        · rename_i hc
          have h9 : ¬ y ≤ sg_iv (b n) := by
            first | (rw [Int32.lt_iff_toInt_lt]; omega) | (rw [Int32.le_iff_toInt_le]; omega)
          exact go _ (fun Q kk => lv_icmp_ge hx hb hd ht (fun h => absurd h h9) (fun _ => kk))
        · trivial
    · trivial
  · trivial
def sg_ycmp_gt (pc tgt : Nat) : sg_F := fun L st M => match st with
  | .int y :: .int x :: r => if y < x then sg_go tgt L r M else sg_go (pc + 3) L r M
  | .int y :: .retAddr n :: r => if sg_rg n = true then (if y.toInt < (sg_kl (n % 16)).1 then sg_go tgt L r M else if (sg_kl (n % 16)).2 ≤ y.toInt then sg_go (pc + 3) L r M else none) else none
  | _ => none
theorem sg_ok_ycmp_gt {off : Int} {tgt : Nat} (hsy : sg_sy b) (hd : decode (sg_C P k) pc = .ok (.if_icmp .gt off, 3)) (ht : (pc : Int) + off = (tgt : Int)) : sg_Ok D cl tys B b Ls xs Sx Ax P Tw k pc (sg_ycmp_gt pc tgt) := by
  intro p l e R s m args below meth c hF hC L st M μ H locs cells slots ls hJ
  obtain ⟨hx, hb, hml, hown, hts, hret, hlk, hfr, hlo, hnm, htr, htb⟩ := hF
  have wf := fun (a b : Value) (r : List Value) (h : ∀ v ∈ a :: b :: r, sg_wV M.2 v) => (sg_c1 (sg_c1 h).2).2
  unfold sg_ycmp_gt
  split
  · split
    · rename_i hc
      exact sg_pure hJ hJ.2.1 (wf _ _ _ hJ.2.2.1) (fun Q kk => lv_icmp_gt hx hb hd ht (fun _ => kk ls hJ.2.2.2.1) (fun h => absurd hc h))
    · rename_i hc
      exact sg_pure hJ hJ.2.1 (wf _ _ _ hJ.2.2.1) (fun Q kk => lv_icmp_gt hx hb hd ht (fun h => absurd h hc) (fun _ => kk ls hJ.2.2.2.1))
  · rename_i y n r
    split
    · rename_i hr
      obtain ⟨r1, r2⟩ := sg_rg_ok hr
      obtain ⟨z1, z2⟩ := hsy n r1 r2
      have hv : sg_v μ (.retAddr n) = .int (sg_iv (b n)) := sg_symu hJ.1 r2
      have go : ∀ (pc1 : Nat), (∀ Q : State → Prop, W p l e R s m args below meth c H locs cells slots Q (F0 m pc1 ls (r.map (sg_v μ))) → W p l e R s m args below meth c H locs cells slots Q (F0 m pc ls (.int y :: .int (sg_iv (b n)) :: r.map (sg_v μ)))) → sg_Res D cl tys B b P Tw k p l e R s m args below meth c μ M H locs cells slots pc ls (.int y :: .retAddr n :: r) (sg_go pc1 L r M) := fun pc1 h => sg_pure hJ hJ.2.1 (wf _ _ _ hJ.2.2.1) (fun Q kk => by
        show W p l e R s m args below meth c H locs cells slots Q (F0 m pc ls (.int y :: sg_v μ (.retAddr n) :: r.map (sg_v μ)))
        rw [hv]
        exact h Q (kk ls hJ.2.2.2.1))
      split
      · rename_i hc
        have h9 : y < sg_iv (b n) := by
          first | (rw [Int32.lt_iff_toInt_lt]; omega) | (rw [Int32.le_iff_toInt_le]; omega)
        exact go _ (fun Q kk => lv_icmp_gt hx hb hd ht (fun _ => kk) (fun h => absurd h9 h))
      · split
        · rename_i hc
          have h9 : ¬ y < sg_iv (b n) := by
            first | (rw [Int32.lt_iff_toInt_lt]; omega) | (rw [Int32.le_iff_toInt_le]; omega)
          exact go _ (fun Q kk => lv_icmp_gt hx hb hd ht (fun h => absurd h h9) (fun _ => kk))
        · trivial
    · trivial
  · trivial
def sg_ycmp_le (pc tgt : Nat) : sg_F := fun L st M => match st with
  | .int y :: .int x :: r => if x ≤ y then sg_go tgt L r M else sg_go (pc + 3) L r M
  | .int y :: .retAddr n :: r => if sg_rg n = true then (if (sg_kl (n % 16)).2 ≤ y.toInt then sg_go tgt L r M else if y.toInt < (sg_kl (n % 16)).1 then sg_go (pc + 3) L r M else none) else none
  | _ => none
theorem sg_ok_ycmp_le {off : Int} {tgt : Nat} (hsy : sg_sy b) (hd : decode (sg_C P k) pc = .ok (.if_icmp .le off, 3)) (ht : (pc : Int) + off = (tgt : Int)) : sg_Ok D cl tys B b Ls xs Sx Ax P Tw k pc (sg_ycmp_le pc tgt) := by
  intro p l e R s m args below meth c hF hC L st M μ H locs cells slots ls hJ
  obtain ⟨hx, hb, hml, hown, hts, hret, hlk, hfr, hlo, hnm, htr, htb⟩ := hF
  have wf := fun (a b : Value) (r : List Value) (h : ∀ v ∈ a :: b :: r, sg_wV M.2 v) => (sg_c1 (sg_c1 h).2).2
  unfold sg_ycmp_le
  split
  · split
    · rename_i hc
      exact sg_pure hJ hJ.2.1 (wf _ _ _ hJ.2.2.1) (fun Q kk => lv_icmp_le hx hb hd ht (fun _ => kk ls hJ.2.2.2.1) (fun h => absurd hc h))
    · rename_i hc
      exact sg_pure hJ hJ.2.1 (wf _ _ _ hJ.2.2.1) (fun Q kk => lv_icmp_le hx hb hd ht (fun h => absurd h hc) (fun _ => kk ls hJ.2.2.2.1))
  · rename_i y n r
    split
    · rename_i hr
      obtain ⟨r1, r2⟩ := sg_rg_ok hr
      obtain ⟨z1, z2⟩ := hsy n r1 r2
      have hv : sg_v μ (.retAddr n) = .int (sg_iv (b n)) := sg_symu hJ.1 r2
      have go : ∀ (pc1 : Nat), (∀ Q : State → Prop, W p l e R s m args below meth c H locs cells slots Q (F0 m pc1 ls (r.map (sg_v μ))) → W p l e R s m args below meth c H locs cells slots Q (F0 m pc ls (.int y :: .int (sg_iv (b n)) :: r.map (sg_v μ)))) → sg_Res D cl tys B b P Tw k p l e R s m args below meth c μ M H locs cells slots pc ls (.int y :: .retAddr n :: r) (sg_go pc1 L r M) := fun pc1 h => sg_pure hJ hJ.2.1 (wf _ _ _ hJ.2.2.1) (fun Q kk => by
        show W p l e R s m args below meth c H locs cells slots Q (F0 m pc ls (.int y :: sg_v μ (.retAddr n) :: r.map (sg_v μ)))
        rw [hv]
        exact h Q (kk ls hJ.2.2.2.1))
      split
      · rename_i hc
        have h9 : sg_iv (b n) ≤ y := by
          first | (rw [Int32.lt_iff_toInt_lt]; omega) | (rw [Int32.le_iff_toInt_le]; omega)
        exact go _ (fun Q kk => lv_icmp_le hx hb hd ht (fun _ => kk) (fun h => absurd h9 h))
      · split
        · rename_i hc
          have h9 : ¬ sg_iv (b n) ≤ y := by
            first | (rw [Int32.lt_iff_toInt_lt]; omega) | (rw [Int32.le_iff_toInt_le]; omega)
          exact go _ (fun Q kk => lv_icmp_le hx hb hd ht (fun h => absurd h h9) (fun _ => kk))
        · trivial
    · trivial
  · trivial
def sg_yif_lt (pc tgt : Nat) : sg_F := fun L st M => match st with
  | .int x :: r => if x < 0 then sg_go tgt L r M else sg_go (pc + 3) L r M
  | .retAddr n :: r => if sg_rg n = true then (if (sg_kl (n % 16)).2 < 0 then sg_go tgt L r M else if 0 ≤ (sg_kl (n % 16)).1 then sg_go (pc + 3) L r M else none) else none
  | _ => none
theorem sg_ok_yif_lt {off : Int} {tgt : Nat} (hsy : sg_sy b) (hd : decode (sg_C P k) pc = .ok (.ifCond .lt off, 3)) (ht : (pc : Int) + off = (tgt : Int)) : sg_Ok D cl tys B b Ls xs Sx Ax P Tw k pc (sg_yif_lt pc tgt) := by
  intro p l e R s m args below meth c hF hC L st M μ H locs cells slots ls hJ
  obtain ⟨hx, hb, hml, hown, hts, hret, hlk, hfr, hlo, hnm, htr, htb⟩ := hF
  have z0 : Int32.toInt 0 = 0 := by decide
  unfold sg_yif_lt
  split
  · split
    · rename_i hc
      exact sg_pure hJ hJ.2.1 (sg_c1 hJ.2.2.1).2 (fun Q kk => lv_if_lt hx hb hd ht (fun _ => kk ls hJ.2.2.2.1) (fun h => absurd hc h))
    · rename_i hc
      exact sg_pure hJ hJ.2.1 (sg_c1 hJ.2.2.1).2 (fun Q kk => lv_if_lt hx hb hd ht (fun h => absurd h hc) (fun _ => kk ls hJ.2.2.2.1))
  · rename_i n r
    split
    · rename_i hr
      obtain ⟨r1, r2⟩ := sg_rg_ok hr
      obtain ⟨z1, z2⟩ := hsy n r1 r2
      have hv : sg_v μ (.retAddr n) = .int (sg_iv (b n)) := sg_symu hJ.1 r2
      have go : ∀ (pc1 : Nat), (∀ Q : State → Prop, W p l e R s m args below meth c H locs cells slots Q (F0 m pc1 ls (r.map (sg_v μ))) → W p l e R s m args below meth c H locs cells slots Q (F0 m pc ls (.int (sg_iv (b n)) :: r.map (sg_v μ)))) → sg_Res D cl tys B b P Tw k p l e R s m args below meth c μ M H locs cells slots pc ls (.retAddr n :: r) (sg_go pc1 L r M) := fun pc1 h => sg_pure hJ hJ.2.1 (sg_c1 hJ.2.2.1).2 (fun Q kk => by
        show W p l e R s m args below meth c H locs cells slots Q (F0 m pc ls (sg_v μ (.retAddr n) :: r.map (sg_v μ)))
        rw [hv]
        exact h Q (kk ls hJ.2.2.2.1))
      split
      · rename_i hc
        have h9 : sg_iv (b n) < 0 := by
          first | (rw [Int32.lt_iff_toInt_lt, z0]; omega) | (rw [Int32.le_iff_toInt_le, z0]; omega) | (intro z; rw [z, z0] at z1 z2; omega) | omega
        exact go _ (fun Q kk => lv_if_lt hx hb hd ht (fun _ => kk) (fun h => absurd h9 h))
      · split
        · rename_i hc
          have h9 : ¬ (sg_iv (b n) < 0) := by
            first | (rw [Int32.lt_iff_toInt_lt, z0]; omega) | (rw [Int32.le_iff_toInt_le, z0]; omega) | (intro z; rw [z, z0] at z1 z2; omega) | omega
          exact go _ (fun Q kk => lv_if_lt hx hb hd ht (fun h => absurd h h9) (fun _ => kk))
        · trivial
    · trivial
  · trivial
def sg_yif_ge (pc tgt : Nat) : sg_F := fun L st M => match st with
  | .int x :: r => if 0 ≤ x then sg_go tgt L r M else sg_go (pc + 3) L r M
  | .retAddr n :: r => if sg_rg n = true then (if 0 ≤ (sg_kl (n % 16)).1 then sg_go tgt L r M else if (sg_kl (n % 16)).2 < 0 then sg_go (pc + 3) L r M else none) else none
  | _ => none
theorem sg_ok_yif_ge {off : Int} {tgt : Nat} (hsy : sg_sy b) (hd : decode (sg_C P k) pc = .ok (.ifCond .ge off, 3)) (ht : (pc : Int) + off = (tgt : Int)) : sg_Ok D cl tys B b Ls xs Sx Ax P Tw k pc (sg_yif_ge pc tgt) := by
  intro p l e R s m args below meth c hF hC L st M μ H locs cells slots ls hJ
  obtain ⟨hx, hb, hml, hown, hts, hret, hlk, hfr, hlo, hnm, htr, htb⟩ := hF
  have z0 : Int32.toInt 0 = 0 := by decide
  unfold sg_yif_ge
  split
  · split
    · rename_i hc
      exact sg_pure hJ hJ.2.1 (sg_c1 hJ.2.2.1).2 (fun Q kk => lv_if_ge hx hb hd ht (fun _ => kk ls hJ.2.2.2.1) (fun h => absurd hc h))
    · rename_i hc
      exact sg_pure hJ hJ.2.1 (sg_c1 hJ.2.2.1).2 (fun Q kk => lv_if_ge hx hb hd ht (fun h => absurd h hc) (fun _ => kk ls hJ.2.2.2.1))
  · rename_i n r
    split
    · rename_i hr
      obtain ⟨r1, r2⟩ := sg_rg_ok hr
      obtain ⟨z1, z2⟩ := hsy n r1 r2
      have hv : sg_v μ (.retAddr n) = .int (sg_iv (b n)) := sg_symu hJ.1 r2
      have go : ∀ (pc1 : Nat), (∀ Q : State → Prop, W p l e R s m args below meth c H locs cells slots Q (F0 m pc1 ls (r.map (sg_v μ))) → W p l e R s m args below meth c H locs cells slots Q (F0 m pc ls (.int (sg_iv (b n)) :: r.map (sg_v μ)))) → sg_Res D cl tys B b P Tw k p l e R s m args below meth c μ M H locs cells slots pc ls (.retAddr n :: r) (sg_go pc1 L r M) := fun pc1 h => sg_pure hJ hJ.2.1 (sg_c1 hJ.2.2.1).2 (fun Q kk => by
        show W p l e R s m args below meth c H locs cells slots Q (F0 m pc ls (sg_v μ (.retAddr n) :: r.map (sg_v μ)))
        rw [hv]
        exact h Q (kk ls hJ.2.2.2.1))
      split
      · rename_i hc
        have h9 : 0 ≤ sg_iv (b n) := by
          first | (rw [Int32.lt_iff_toInt_lt, z0]; omega) | (rw [Int32.le_iff_toInt_le, z0]; omega) | (intro z; rw [z, z0] at z1 z2; omega) | omega
        exact go _ (fun Q kk => lv_if_ge hx hb hd ht (fun _ => kk) (fun h => absurd h9 h))
      · split
        · rename_i hc
          have h9 : ¬ (0 ≤ sg_iv (b n)) := by
            first | (rw [Int32.lt_iff_toInt_lt, z0]; omega) | (rw [Int32.le_iff_toInt_le, z0]; omega) | (intro z; rw [z, z0] at z1 z2; omega) | omega
          exact go _ (fun Q kk => lv_if_ge hx hb hd ht (fun h => absurd h h9) (fun _ => kk))
        · trivial
    · trivial
  · trivial
def sg_yif_gt (pc tgt : Nat) : sg_F := fun L st M => match st with
  | .int x :: r => if 0 < x then sg_go tgt L r M else sg_go (pc + 3) L r M
  | .retAddr n :: r => if sg_rg n = true then (if 0 < (sg_kl (n % 16)).1 then sg_go tgt L r M else if (sg_kl (n % 16)).2 ≤ 0 then sg_go (pc + 3) L r M else none) else none
  | _ => none
theorem sg_ok_yif_gt {off : Int} {tgt : Nat} (hsy : sg_sy b) (hd : decode (sg_C P k) pc = .ok (.ifCond .gt off, 3)) (ht : (pc : Int) + off = (tgt : Int)) : sg_Ok D cl tys B b Ls xs Sx Ax P Tw k pc (sg_yif_gt pc tgt) := by
  intro p l e R s m args below meth c hF hC L st M μ H locs cells slots ls hJ
  obtain ⟨hx, hb, hml, hown, hts, hret, hlk, hfr, hlo, hnm, htr, htb⟩ := hF
  have z0 : Int32.toInt 0 = 0 := by decide
  unfold sg_yif_gt
  split
  · split
    · rename_i hc
      exact sg_pure hJ hJ.2.1 (sg_c1 hJ.2.2.1).2 (fun Q kk => lv_if_gt hx hb hd ht (fun _ => kk ls hJ.2.2.2.1) (fun h => absurd hc h))
    · rename_i hc
      exact sg_pure hJ hJ.2.1 (sg_c1 hJ.2.2.1).2 (fun Q kk => lv_if_gt hx hb hd ht (fun h => absurd h hc) (fun _ => kk ls hJ.2.2.2.1))
  · rename_i n r
    split
    · rename_i hr
      obtain ⟨r1, r2⟩ := sg_rg_ok hr
      obtain ⟨z1, z2⟩ := hsy n r1 r2
      have hv : sg_v μ (.retAddr n) = .int (sg_iv (b n)) := sg_symu hJ.1 r2
      have go : ∀ (pc1 : Nat), (∀ Q : State → Prop, W p l e R s m args below meth c H locs cells slots Q (F0 m pc1 ls (r.map (sg_v μ))) → W p l e R s m args below meth c H locs cells slots Q (F0 m pc ls (.int (sg_iv (b n)) :: r.map (sg_v μ)))) → sg_Res D cl tys B b P Tw k p l e R s m args below meth c μ M H locs cells slots pc ls (.retAddr n :: r) (sg_go pc1 L r M) := fun pc1 h => sg_pure hJ hJ.2.1 (sg_c1 hJ.2.2.1).2 (fun Q kk => by
        show W p l e R s m args below meth c H locs cells slots Q (F0 m pc ls (sg_v μ (.retAddr n) :: r.map (sg_v μ)))
        rw [hv]
        exact h Q (kk ls hJ.2.2.2.1))
      split
      · rename_i hc
        have h9 : 0 < sg_iv (b n) := by
          first | (rw [Int32.lt_iff_toInt_lt, z0]; omega) | (rw [Int32.le_iff_toInt_le, z0]; omega) | (intro z; rw [z, z0] at z1 z2; omega) | omega
        exact go _ (fun Q kk => lv_if_gt hx hb hd ht (fun _ => kk) (fun h => absurd h9 h))
      · split
        · rename_i hc
          have h9 : ¬ (0 < sg_iv (b n)) := by
            first | (rw [Int32.lt_iff_toInt_lt, z0]; omega) | (rw [Int32.le_iff_toInt_le, z0]; omega) | (intro z; rw [z, z0] at z1 z2; omega) | omega
          exact go _ (fun Q kk => lv_if_gt hx hb hd ht (fun h => absurd h h9) (fun _ => kk))
        · trivial
    · trivial
  · trivial
def sg_yif_le (pc tgt : Nat) : sg_F := fun L st M => match st with
  | .int x :: r => if x ≤ 0 then sg_go tgt L r M else sg_go (pc + 3) L r M
  | .retAddr n :: r => if sg_rg n = true then (if (sg_kl (n % 16)).2 ≤ 0 then sg_go tgt L r M else if 0 < (sg_kl (n % 16)).1 then sg_go (pc + 3) L r M else none) else none
  | _ => none
theorem sg_ok_yif_le {off : Int} {tgt : Nat} (hsy : sg_sy b) (hd : decode (sg_C P k) pc = .ok (.ifCond .le off, 3)) (ht : (pc : Int) + off = (tgt : Int)) : sg_Ok D cl tys B b Ls xs Sx Ax P Tw k pc (sg_yif_le pc tgt) := by
  intro p l e R s m args below meth c hF hC L st M μ H locs cells slots ls hJ
  obtain ⟨hx, hb, hml, hown, hts, hret, hlk, hfr, hlo, hnm, htr, htb⟩ := hF
  have z0 : Int32.toInt 0 = 0 := by decide
  unfold sg_yif_le
  split
  · split
    · rename_i hc
      exact sg_pure hJ hJ.2.1 (sg_c1 hJ.2.2.1).2 (fun Q kk => lv_if_le hx hb hd ht (fun _ => kk ls hJ.2.2.2.1) (fun h => absurd hc h))
    · rename_i hc
      exact sg_pure hJ hJ.2.1 (sg_c1 hJ.2.2.1).2 (fun Q kk => lv_if_le hx hb hd ht (fun h => absurd h hc) (fun _ => kk ls hJ.2.2.2.1))
  · rename_i n r
    split
    · rename_i hr
      obtain ⟨r1, r2⟩ := sg_rg_ok hr
      obtain ⟨z1, z2⟩ := hsy n r1 r2
      have hv : sg_v μ (.retAddr n) = .int (sg_iv (b n)) := sg_symu hJ.1 r2
      have go : ∀ (pc1 : Nat), (∀ Q : State → Prop, W p l e R s m args below meth c H locs cells slots Q (F0 m pc1 ls (r.map (sg_v μ))) → W p l e R s m args below meth c H locs cells slots Q (F0 m pc ls (.int (sg_iv (b n)) :: r.map (sg_v μ)))) → sg_Res D cl tys B b P Tw k p l e R s m args below meth c μ M H locs cells slots pc ls (.retAddr n :: r) (sg_go pc1 L r M) := fun pc1 h => sg_pure hJ hJ.2.1 (sg_c1 hJ.2.2.1).2 (fun Q kk => by
        show W p l e R s m args below meth c H locs cells slots Q (F0 m pc ls (sg_v μ (.retAddr n) :: r.map (sg_v μ)))
        rw [hv]
        exact h Q (kk ls hJ.2.2.2.1))
      split
      · rename_i hc
        have h9 : sg_iv (b n) ≤ 0 := by
          first | (rw [Int32.lt_iff_toInt_lt, z0]; omega) | (rw [Int32.le_iff_toInt_le, z0]; omega) | (intro z; rw [z, z0] at z1 z2; omega) | omega
        exact go _ (fun Q kk => lv_if_le hx hb hd ht (fun _ => kk) (fun h => absurd h9 h))
      · split
        · rename_i hc
          have h9 : ¬ (sg_iv (b n) ≤ 0) := by
            first | (rw [Int32.lt_iff_toInt_lt, z0]; omega) | (rw [Int32.le_iff_toInt_le, z0]; omega) | (intro z; rw [z, z0] at z1 z2; omega) | omega
          exact go _ (fun Q kk => lv_if_le hx hb hd ht (fun h => absurd h h9) (fun _ => kk))
        · trivial
    · trivial
  · trivial
def sg_yif_eq (pc tgt : Nat) : sg_F := fun L st M => match st with
  | .int x :: r => if x = 0 then sg_go tgt L r M else sg_go (pc + 3) L r M
  | .retAddr n :: r => if sg_rg n = true then (if (sg_kl (n % 16)).2 < (sg_kl (n % 16)).1 then sg_go tgt L r M else if 0 < (sg_kl (n % 16)).1 ∨ (sg_kl (n % 16)).2 < 0 then sg_go (pc + 3) L r M else none) else none
  | _ => none
theorem sg_ok_yif_eq {off : Int} {tgt : Nat} (hsy : sg_sy b) (hd : decode (sg_C P k) pc = .ok (.ifCond .eq off, 3)) (ht : (pc : Int) + off = (tgt : Int)) : sg_Ok D cl tys B b Ls xs Sx Ax P Tw k pc (sg_yif_eq pc tgt) := by
  intro p l e R s m args below meth c hF hC L st M μ H locs cells slots ls hJ
  obtain ⟨hx, hb, hml, hown, hts, hret, hlk, hfr, hlo, hnm, htr, htb⟩ := hF
  have z0 : Int32.toInt 0 = 0 := by decide
  unfold sg_yif_eq
  split
  · split
    · rename_i hc
      exact sg_pure hJ hJ.2.1 (sg_c1 hJ.2.2.1).2 (fun Q kk => lv_if_eq hx hb hd ht (fun _ => kk ls hJ.2.2.2.1) (fun h => absurd hc h))
    · rename_i hc
      exact sg_pure hJ hJ.2.1 (sg_c1 hJ.2.2.1).2 (fun Q kk => lv_if_eq hx hb hd ht (fun h => absurd h hc) (fun _ => kk ls hJ.2.2.2.1))
  · rename_i n r
    split
    · rename_i hr
      obtain ⟨r1, r2⟩ := sg_rg_ok hr
      obtain ⟨z1, z2⟩ := hsy n r1 r2
      have hv : sg_v μ (.retAddr n) = .int (sg_iv (b n)) := sg_symu hJ.1 r2
      have go : ∀ (pc1 : Nat), (∀ Q : State → Prop, W p l e R s m args below meth c H locs cells slots Q (F0 m pc1 ls (r.map (sg_v μ))) → W p l e R s m args below meth c H locs cells slots Q (F0 m pc ls (.int (sg_iv (b n)) :: r.map (sg_v μ)))) → sg_Res D cl tys B b P Tw k p l e R s m args below meth c μ M H locs cells slots pc ls (.retAddr n :: r) (sg_go pc1 L r M) := fun pc1 h => sg_pure hJ hJ.2.1 (sg_c1 hJ.2.2.1).2 (fun Q kk => by
        show W p l e R s m args below meth c H locs cells slots Q (F0 m pc ls (sg_v μ (.retAddr n) :: r.map (sg_v μ)))
        rw [hv]
        exact h Q (kk ls hJ.2.2.2.1))
      split
      · rename_i hc
        have h9 : sg_iv (b n) = 0 := by
          first | (rw [Int32.lt_iff_toInt_lt, z0]; omega) | (rw [Int32.le_iff_toInt_le, z0]; omega) | (intro z; rw [z, z0] at z1 z2; omega) | omega
        exact go _ (fun Q kk => lv_if_eq hx hb hd ht (fun _ => kk) (fun h => absurd h9 h))
      · split
        · rename_i hc
          have h9 : ¬ (sg_iv (b n) = 0) := by
            first | (rw [Int32.lt_iff_toInt_lt, z0]; omega) | (rw [Int32.le_iff_toInt_le, z0]; omega) | (intro z; rw [z, z0] at z1 z2; omega) | omega
          exact go _ (fun Q kk => lv_if_eq hx hb hd ht (fun h => absurd h h9) (fun _ => kk))
        · trivial
    · trivial
  · trivial
def sg_yif_ne (pc tgt : Nat) : sg_F := fun L st M => match st with
  | .int x :: r => if ¬ x = 0 then sg_go tgt L r M else sg_go (pc + 3) L r M
  | .retAddr n :: r => if sg_rg n = true then (if 0 < (sg_kl (n % 16)).1 ∨ (sg_kl (n % 16)).2 < 0 then sg_go tgt L r M else if (sg_kl (n % 16)).2 < (sg_kl (n % 16)).1 then sg_go (pc + 3) L r M else none) else none
  | _ => none
theorem sg_ok_yif_ne {off : Int} {tgt : Nat} (hsy : sg_sy b) (hd : decode (sg_C P k) pc = .ok (.ifCond .ne off, 3)) (ht : (pc : Int) + off = (tgt : Int)) : sg_Ok D cl tys B b Ls xs Sx Ax P Tw k pc (sg_yif_ne pc tgt) := by
  intro p l e R s m args below meth c hF hC L st M μ H locs cells slots ls hJ
  obtain ⟨hx, hb, hml, hown, hts, hret, hlk, hfr, hlo, hnm, htr, htb⟩ := hF
  have z0 : Int32.toInt 0 = 0 := by decide
  unfold sg_yif_ne
  split
  · split
    · rename_i hc
      exact sg_pure hJ hJ.2.1 (sg_c1 hJ.2.2.1).2 (fun Q kk => lv_if_ne hx hb hd ht (fun _ => kk ls hJ.2.2.2.1) (fun h => absurd h hc))
    · rename_i hc
      exact sg_pure hJ hJ.2.1 (sg_c1 hJ.2.2.1).2 (fun Q kk => lv_if_ne hx hb hd ht (fun h => absurd h hc) (fun _ => kk ls hJ.2.2.2.1))
  · rename_i n r
    split
    · rename_i hr
      obtain ⟨r1, r2⟩ := sg_rg_ok hr
      obtain ⟨z1, z2⟩ := hsy n r1 r2
      have hv : sg_v μ (.retAddr n) = .int (sg_iv (b n)) := sg_symu hJ.1 r2
      have go : ∀ (pc1 : Nat), (∀ Q : State → Prop, W p l e R s m args below meth c H locs cells slots Q (F0 m pc1 ls (r.map (sg_v μ))) → W p l e R s m args below meth c H locs cells slots Q (F0 m pc ls (.int (sg_iv (b n)) :: r.map (sg_v μ)))) → sg_Res D cl tys B b P Tw k p l e R s m args below meth c μ M H locs cells slots pc ls (.retAddr n :: r) (sg_go pc1 L r M) := fun pc1 h => sg_pure hJ hJ.2.1 (sg_c1 hJ.2.2.1).2 (fun Q kk => by
        show W p l e R s m args below meth c H locs cells slots Q (F0 m pc ls (sg_v μ (.retAddr n) :: r.map (sg_v μ)))
        rw [hv]
        exact h Q (kk ls hJ.2.2.2.1))
      split
      · rename_i hc
        have h9 : ¬ sg_iv (b n) = 0 := by
          first | (rw [Int32.lt_iff_toInt_lt, z0]; omega) | (rw [Int32.le_iff_toInt_le, z0]; omega) | (intro z; rw [z, z0] at z1 z2; omega) | omega
        exact go _ (fun Q kk => lv_if_ne hx hb hd ht (fun _ => kk) (fun h => absurd h h9))
      · split
        · rename_i hc
          have h9 : ¬ (¬ sg_iv (b n) = 0) := by
            first | (rw [Int32.lt_iff_toInt_lt, z0]; omega) | (rw [Int32.le_iff_toInt_le, z0]; omega) | (intro z; rw [z, z0] at z1 z2; omega) | omega
          exact go _ (fun Q kk => lv_if_ne hx hb hd ht (fun h => absurd h h9) (fun _ => kk))
        · trivial
    · trivial
  · trivial
def sg_opc (pc : Nat) (kx : Int32) : sg_F := fun L st M => match st with
  | .int 63 :: .retAddr 16 :: r => sg_go (pc + 1) L (.int kx :: r) M
  | _ => none
theorem sg_ok_opc {kx : Int32} (hkx : sg_iv (b 16) &&& 63 = kx) (hd : decode (sg_C P k) pc = .ok (.iand, 1)) : sg_Ok D cl tys B b Ls xs Sx Ax P Tw k pc (sg_opc pc kx) := by
  intro p l e R s m args below meth c hF hC L st M μ H locs cells slots ls hJ
  obtain ⟨hx, hb, hml, hown, hts, hret, hlk, hfr, hlo, hnm, htr, htb⟩ := hF
  unfold sg_opc
  split
  · rename_i r
    refine sg_pure hJ hJ.2.1 (sg_cc sg_wi (sg_c1 (sg_c1 hJ.2.2.1).2).2) (fun Q kk => ?_)
    show W p l e R s m args below meth c H locs cells slots Q (F0 m pc ls (.int 63 :: sg_v μ (.retAddr 16) :: r.map (sg_v μ)))
    rw [sg_symu hJ.1 (by decide)]
    refine lv_iand hx hb hd ?_
    rw [hkx]
    exact kk ls hJ.2.2.2.1
  · trivial
def sg_lald (pc t : Nat) : sg_F := fun L st M => match st with
  | .int i :: .ref a :: r => match M.1 a with
    | some (.inl (t1, n, .inr (.inl f))) => if t1 = t ∧ sg_in i n = true then sg_go (pc + 1) L (.long (f i.toNatClampNeg) :: r) M else none
    | _ => none
  | _ => none
theorem sg_ok_lald {t : Nat} (ht : tys[t]? = some (sg_tc tys t, .long)) (hd : decode (sg_C P k) pc = .ok (.laload, 1)) : sg_Ok D cl tys B b Ls xs Sx Ax P Tw k pc (sg_lald pc t) := by
  intro p l e R s m args below meth c hF hC L st M μ H locs cells slots ls hJ
  obtain ⟨hx, hb, hml, hown, hts, hret, hlk, hfr, hlo, hnm, htr, htb⟩ := hF
  unfold sg_lald
  split
  · rename_i i a r
    split
    · rename_i t1 n f he
      split
      · rename_i hi
        obtain ⟨h1, hi⟩ := hi
        subst h1
        exact sg_pure hJ hJ.2.1 (sg_cc sg_wl (sg_c1 (sg_c1 hJ.2.2.1).2).2) (fun Q kk => va_lald hx hb hC.1 (hJ.1.one he).1 0 t1 rfl ht (sg_in_ok hi) hd (kk ls hJ.2.2.2.1))
      · trivial
    · trivial
  · trivial
def sg_last (pc t : Nat) : sg_F := fun L st M => match st with
  | .long x :: .int i :: .ref a :: r => match M.1 a with
    | some (.inl (t1, n, .inr (.inl f))) => if t1 = t ∧ sg_in i n = true then some (.inl (pc + 1, L, r, (sg_up M.1 a (.inl (t1, n, .inr (.inl (vp_updL f i.toNatClampNeg x)))), M.2), 0, 0)) else none
    | _ => none
  | _ => none
theorem sg_ok_last {t : Nat} (ht : tys[t]? = some (sg_tc tys t, .long)) (hd : decode (sg_C P k) pc = .ok (.lastore, 1)) : sg_Ok D cl tys B b Ls xs Sx Ax P Tw k pc (sg_last pc t) := by
  intro p l e R s m args below meth c hF hC L st M μ H locs cells slots ls hJ
  obtain ⟨hx, hb, hml, hown, hts, hret, hlk, hfr, hlo, hnm, htr, htb⟩ := hF
  unfold sg_last
  split
  · rename_i x i a r
    split
    · rename_i t1 n f he
      split
      · rename_i hi
        obtain ⟨h1, hi⟩ := hi
        subst h1
        obtain ⟨ws, g1, g2, g3, g4⟩ := hJ.1.world
        obtain ⟨q0, hq0⟩ := g3 a _ he
        exact ⟨Nat.le_refl _, fun Q _ _ kk => va_last hx hb hC.1 g1 g2 hJ.2.2.2.2 q0 t1 hq0 ht (sg_in_ok hi) hd (fun H1 locs1 p1 p2 p3 => kk μ H1 locs1 ls sg_X.rf ⟨hJ.1.set g3 he hq0 (e := .inl (t1, n, .inr (.inl (vp_updL f i.toNatClampNeg x)))) (sg_warr sg_wAl) p1, hJ.2.1, (sg_c1 (sg_c1 (sg_c1 hJ.2.2.1).2).2).2, hJ.2.2.2.1, p3⟩)⟩
      · trivial
    · trivial
  · trivial
def sg_zald (pc t : Nat) : sg_F := fun L st M => match st with
  | .int i :: .ref a :: r => match M.1 a with
    | some (.inl (t1, n, .inl f)) => if t1 = t ∧ sg_in i n = true then sg_go (pc + 1) L (.int (f i.toNatClampNeg) :: r) M else none
    | _ => none
  | _ => none
theorem sg_ok_zald {t : Nat} (ht : tys[t]? = some (sg_tc tys t, .boolean)) (hd : decode (sg_C P k) pc = .ok (.baload, 1)) : sg_Ok D cl tys B b Ls xs Sx Ax P Tw k pc (sg_zald pc t) := by
  intro p l e R s m args below meth c hF hC L st M μ H locs cells slots ls hJ
  obtain ⟨hx, hb, hml, hown, hts, hret, hlk, hfr, hlo, hnm, htr, htb⟩ := hF
  unfold sg_zald
  split
  · rename_i i a r
    split
    · rename_i t1 n f he
      split
      · rename_i hi
        obtain ⟨h1, hi⟩ := hi
        subst h1
        exact sg_pure hJ hJ.2.1 (sg_cc sg_wi (sg_c1 (sg_c1 hJ.2.2.1).2).2) (fun Q kk => va_zald hx hb hC.1 (hJ.1.one he).1 0 t1 rfl ht (sg_in_ok hi) hd (kk ls hJ.2.2.2.1))
      · trivial
    · trivial
  · trivial
def sg_zast (pc t : Nat) : sg_F := fun L st M => match st with
  | .int x :: .int i :: .ref a :: r => match M.1 a with
    | some (.inl (t1, n, .inl f)) => if t1 = t ∧ sg_in i n = true then some (.inl (pc + 1, L, r, (sg_up M.1 a (.inl (t1, n, .inl (upd f i.toNatClampNeg (vp_nar .boolean x)))), M.2), 0, 0)) else none
    | _ => none
  | _ => none
theorem sg_ok_zast {t : Nat} (ht : tys[t]? = some (sg_tc tys t, .boolean)) (hd : decode (sg_C P k) pc = .ok (.bastore, 1)) : sg_Ok D cl tys B b Ls xs Sx Ax P Tw k pc (sg_zast pc t) := by
  intro p l e R s m args below meth c hF hC L st M μ H locs cells slots ls hJ
  obtain ⟨hx, hb, hml, hown, hts, hret, hlk, hfr, hlo, hnm, htr, htb⟩ := hF
  unfold sg_zast
  split
  · rename_i x i a r
    split
    · rename_i t1 n f he
      split
      · rename_i hi
        obtain ⟨h1, hi⟩ := hi
        subst h1
        obtain ⟨ws, g1, g2, g3, g4⟩ := hJ.1.world
        obtain ⟨q0, hq0⟩ := g3 a _ he
        exact ⟨Nat.le_refl _, fun Q _ _ kk => va_zast hx hb hC.1 g1 g2 hJ.2.2.2.2 q0 t1 hq0 ht (sg_in_ok hi) hd (fun H1 locs1 p1 p2 p3 => kk μ H1 locs1 ls sg_X.rf ⟨hJ.1.set g3 he hq0 (e := .inl (t1, n, .inl (upd f i.toNatClampNeg (vp_nar .boolean x)))) (sg_warr sg_wAi) p1, hJ.2.1, (sg_c1 (sg_c1 (sg_c1 hJ.2.2.1).2).2).2, hJ.2.2.2.1, p3⟩)⟩
      · trivial
    · trivial
  · trivial
def sg_dload (pc n i : Nat) : sg_F := fun L st M => match sg_at L i with
  | some (.double x) => sg_go (pc + n) L (.double x :: st) M
  | _ => none
def sg_dstore (pc n i : Nat) : sg_F := fun L st M => match st with
  | .double x :: r => sg_go (pc + n) (sg_st2 L i (.double x)) r M
  | _ => none
theorem sg_ok_dconst0 (hd : decode (sg_C P k) pc = .ok (.dconst 0, 1)) : sg_Ok D cl tys B b Ls xs Sx Ax P Tw k pc (sg_k pc 1 (.double FP.dconst0)) := by
  intro p l e R s m args below meth c hF hC L st M μ H locs cells slots ls hJ
  obtain ⟨hx, hb, hml, hown, hts, hret, hlk, hfr, hlo, hnm, htr, htb⟩ := hF
  exact sg_pure hJ hJ.2.1 (sg_cc sg_wd hJ.2.2.1) (fun Q kk => lv_dconst0 hx hb hd (kk ls hJ.2.2.2.1))
theorem sg_ok_dload_n {i : Nat} {j : Fin 4} (hi : (j : Nat) = i) (hd : decode (sg_C P k) pc = .ok (.dload_n j, 1)) : sg_Ok D cl tys B b Ls xs Sx Ax P Tw k pc (sg_dload pc 1 i) := by
  intro p l e R s m args below meth c hF hC L st M μ H locs cells slots ls hJ
  obtain ⟨hx, hb, hml, hown, hts, hret, hlk, hfr, hlo, hnm, htr, htb⟩ := hF
  unfold sg_dload
  split
  · rename_i x hg
    exact sg_pure hJ hJ.2.1 (sg_cc sg_wd hJ.2.2.1) (fun Q kk => lv_dload_n hx hb hd hi (sg_at_ls hJ.2.2.2.1 hg) (kk ls hJ.2.2.2.1))
  · trivial
theorem sg_ok_dstore_n {i : Nat} {j : Fin 4} (hi : (j : Nat) = i) (hn : i + 1 < sg_N P k) (hd : decode (sg_C P k) pc = .ok (.dstore_n j, 1)) : sg_Ok D cl tys B b Ls xs Sx Ax P Tw k pc (sg_dstore pc 1 i) := by
  intro p l e R s m args below meth c hF hC L st M μ H locs cells slots ls hJ
  obtain ⟨hx, hb, hml, hown, hts, hret, hlk, hfr, hlo, hnm, htr, htb⟩ := hF
  unfold sg_dstore
  split
  · rename_i x r
    exact sg_pure hJ (sg_st2_w hJ.2.1 (sg_c1 hJ.2.2.1).1) (sg_c1 hJ.2.2.1).2 (fun Q kk => lv_dstore_n hx hb hd hi hJ.2.2.2.1 hn rfl (fun ls1 hl1 => kk ls1 (sg_sub hl1 (sg_st2_map (μ := μ) (v := .double x)))))
  · trivial
theorem sg_ok_dload {i : Nat} (hd : decode (sg_C P k) pc = .ok (.dload i, 2)) : sg_Ok D cl tys B b Ls xs Sx Ax P Tw k pc (sg_dload pc 2 i) := by
  intro p l e R s m args below meth c hF hC L st M μ H locs cells slots ls hJ
  obtain ⟨hx, hb, hml, hown, hts, hret, hlk, hfr, hlo, hnm, htr, htb⟩ := hF
  unfold sg_dload
  split
  · rename_i x hg
    exact sg_pure hJ hJ.2.1 (sg_cc sg_wd hJ.2.2.1) (fun Q kk => lv_dload hx hb hd (sg_at_ls hJ.2.2.2.1 hg) (kk ls hJ.2.2.2.1))
  · trivial
theorem sg_ok_dstore {i : Nat} (hn : i + 1 < sg_N P k) (hd : decode (sg_C P k) pc = .ok (.dstore i, 2)) : sg_Ok D cl tys B b Ls xs Sx Ax P Tw k pc (sg_dstore pc 2 i) := by
  intro p l e R s m args below meth c hF hC L st M μ H locs cells slots ls hJ
  obtain ⟨hx, hb, hml, hown, hts, hret, hlk, hfr, hlo, hnm, htr, htb⟩ := hF
  unfold sg_dstore
  split
  · rename_i x r
    exact sg_pure hJ (sg_st2_w hJ.2.1 (sg_c1 hJ.2.2.1).1) (sg_c1 hJ.2.2.1).2 (fun Q kk => lv_dstore hx hb hd hJ.2.2.2.1 hn rfl (fun ls1 hl1 => kk ls1 (sg_sub hl1 (sg_st2_map (μ := μ) (v := .double x)))))
  · trivial
def sg_dcmp (pc : Nat) (op : CmpOp) : sg_F := fun L st M => match st with
  | .double y :: .double x :: r => sg_go (pc + 1) L (.int (Op.cmpValue (FP.dcmp x y) op) :: r) M
  | _ => none
theorem sg_ok_dcmp {op : CmpOp} (hd : decode (sg_C P k) pc = .ok (.dcmp op, 1)) : sg_Ok D cl tys B b Ls xs Sx Ax P Tw k pc (sg_dcmp pc op) := by
  intro p l e R s m args below meth c hF hC L st M μ H locs cells slots ls hJ
  obtain ⟨hx, hb, hml, hown, hts, hret, hlk, hfr, hlo, hnm, htr, htb⟩ := hF
  unfold sg_dcmp
  split
  · exact sg_pure hJ hJ.2.1 (sg_cc sg_wi (sg_c1 (sg_c1 hJ.2.2.1).2).2) (fun Q kk => lv_dcmp hx hb hd (kk ls hJ.2.2.2.1))
  · trivial
def sg_dret : sg_F := fun L st M => match st with
  | [.double x] => some (.inr (.inr (.inl (some (.double x)))))
  | _ => none
theorem sg_ok_dret (hT : sg_T P k = some .double) (hd : decode (sg_C P k) pc = .ok (.dreturn, 1)) : sg_Ok D cl tys B b Ls xs Sx Ax P Tw k pc sg_dret := by
  intro p l e R s m args below meth c hF hC L st M μ H locs cells slots ls hJ
  obtain ⟨hx, hb, hml, hown, hts, hret, hlk, hfr, hlo, hnm, htr, htb⟩ := hF
  unfold sg_dret
  split
  · rename_i x
    exact ⟨fun y hy => by cases hy; exact sg_wd, fun Qc XC free hq hf => vx_ret (W.dret (v := x) hx hb (hret.trans hT) hq hf hd hlk)⟩
  · trivial
/-- two references of which one at least is null, or both the same number -/
def sg_acmp_ne (pc tgt : Nat) : sg_F := fun L st M => match st with
  | .null :: .null :: r => sg_go (pc + 3) L r M
  | .null :: .ref _ :: r => sg_go tgt L r M
  | .ref _ :: .null :: r => sg_go tgt L r M
  | .ref a :: .ref a' :: r => if a = a' then sg_go (pc + 3) L r M else none
  | _ => none
theorem sg_ok_acmp_ne {off : Int} {tgt : Nat} (hd : decode (sg_C P k) pc = .ok (.if_acmp .ne off, 3)) (ht : (pc : Int) + off = (tgt : Int)) : sg_Ok D cl tys B b Ls xs Sx Ax P Tw k pc (sg_acmp_ne pc tgt) := by
  intro p l e R s m args below meth c hF hC L st M μ H locs cells slots ls hJ
  obtain ⟨hx, hb, hml, hown, hts, hret, hlk, hfr, hlo, hnm, htr, htb⟩ := hF
  unfold sg_acmp_ne
  split
  · exact sg_pure hJ hJ.2.1 (sg_c1 (sg_c1 hJ.2.2.1).2).2 (fun Q kk => lv_acmp_ne (rx := none) (ry := none) hx hb hd ht (fun h => absurd rfl h) (fun _ => kk ls hJ.2.2.2.1))
  · exact sg_pure hJ hJ.2.1 (sg_c1 (sg_c1 hJ.2.2.1).2).2 (fun Q kk => lv_acmp_ne (rx := some _) (ry := none) hx hb hd ht (fun _ => kk ls hJ.2.2.2.1) (fun h => by cases h))
  · exact sg_pure hJ hJ.2.1 (sg_c1 (sg_c1 hJ.2.2.1).2).2 (fun Q kk => lv_acmp_ne (rx := none) (ry := some _) hx hb hd ht (fun _ => kk ls hJ.2.2.2.1) (fun h => by cases h))
  · rename_i a a' r
    split
    · rename_i haa
      subst haa
      exact sg_pure hJ hJ.2.1 (sg_c1 (sg_c1 hJ.2.2.1).2).2 (fun Q kk => lv_acmp_ne (rx := some (μ a)) (ry := some (μ a)) hx hb hd ht (fun h => absurd rfl h) (fun _ => kk ls hJ.2.2.2.1))
    · trivial
  · trivial
/-- a row of rows -/
def sg_newr (pc t : Nat) : sg_F := fun L st M => match st with
  | .int n :: r => if n < 0 ∨ 65536 < n.toNatClampNeg then none else some (.inl (pc + 3, L, .ref M.2 :: r, (sg_up M.1 M.2 (.inl (t, n.toNatClampNeg, .inr (.inr (.inr (.inr (fun _ => none)))))), M.2 + 1), 1, n.toNatClampNeg))
  | _ => none
theorem sg_ok_newr {t index : Nat} {ty : FieldType} {C : String} (hC0 : C = (FieldType.array ty).toString) (ht : tys[t]? = some (sg_tc tys t, .array ty)) (hw : Cond.classLink (sg_Y P k).cls index C ∈ Tw) (hA : ∀ (B : Nat) (U : State) (H : Heap), sg_Cx D cl tys B b Ls xs Sx Ax U H → (Cond.arrayOver (.array ty)).before #[] U = true) (hd : decode (sg_C P k) pc = .ok (.anewarray index, 3)) : sg_Ok D cl tys B b Ls xs Sx Ax P Tw k pc (sg_newr pc t) := by
  intro p l e R s m args below meth c hF hC L st M μ H locs cells slots ls hJ
  obtain ⟨hx, hb, hml, hown, hts, hret, hlk, hfr, hlo, hnm, htr, htb⟩ := hF
  subst hC0
  unfold sg_newr
  split
  · rename_i n r
    split
    · trivial
    · rename_i hn
      have hn0 : ¬ n < 0 := fun z => hn (Or.inl z)
      have hn1 : n.toNatClampNeg ≤ 65536 := by omega
      obtain ⟨ws, g1, g2, g3, g4⟩ := hJ.1.world
      have hst := (sg_c1 hJ.2.2.1).2
      refine ⟨Nat.le_succ _, fun Q hc1 hc2 kk => W.anewA hx hb hown (hts _ hw) (hA B s s.heap hC) rfl hd rfl hn0 (by omega) hc1 hc2 fun cA kA comp f1 f2 f3 f4 => ?_⟩
      have hcA : cA = sg_tc tys t := Option.some.inj (f1.symm.trans (hC.1.2 t _ ht).2)
      subst hcA
      generalize hH1 : H.push ({ cls := sg_tc tys t, slots := Array.replicate n.toNatClampNeg .null, vm := .none } : Cell) = H1
      have e1 : H1[H.size]? = some (arrV (sg_tc tys t) n.toNatClampNeg (fun _ => .null)) := by rw [← hH1, Array.getElem?_push_size, ← arrV_new]
      have z1 : H1.size = H.size + 1 := by rw [← hH1, Array.size_push]
      have o1 : ∀ q : Nat, q < H.size → H1[q]? = H[q]? := fun q hq => by rw [← hH1, Array.getElem?_push, if_neg (Nat.ne_of_lt hq)]
      have hB : B ≤ H.size := Nat.le_trans hC.2.2.2.1 hJ.2.2.2.2.1
      obtain ⟨i1, i2⟩ := hJ.1.new (q := H.size) (e := .inl (t, n.toNatClampNeg, .inr (.inr (.inr (.inr (fun _ => none)))))) (H1 := H1) (sg_warr (fun _ _ e9 j a ha => by cases e9; cases ha)) e1 o1 (Nat.le_refl _) hB
      have hk := kk _ H1 locs ls i2 ⟨i1, fun z hz => (hJ.2.1 z hz).mono (Nat.le_succ _), sg_cc (fun a e => by rcases e with e | e <;> cases e <;> exact Nat.lt_succ_self _) (fun v hv => (hst v hv).mono (Nat.le_succ _)), by rw [sg_ls_x hJ.2.1 i2]; exact hJ.2.2.2.1, ⟨Nat.le_trans hJ.2.2.2.2.1 (by omega), fun x h1 h2 => (o1 x (Nat.lt_of_lt_of_le h1 hJ.2.2.2.2.1)).trans (hJ.2.2.2.2.2.1 x h1 h2), hJ.2.2.2.2.2.2⟩⟩
      rw [List.map_cons, sg_vs_x hst i2] at hk
      have e8 : sg_v (fun x => if x = M.2 then H.size else μ x) (.ref M.2) = .ref H.size := congrArg Value.ref (if_pos rfl)
      rw [e8] at hk
      exact hk
  · trivial
/-- the empty row into a row of rows -/
def sg_aas1 (pc t : Nat) : sg_F := fun L st M => match st with
  | .ref 1 :: .int i :: .ref a :: r => match M.1 a with
    | some (.inl (t1, n, .inr (.inr (.inr (.inr f))))) => if t1 = t ∧ sg_in i n = true then some (.inl (pc + 1, L, r, (sg_up M.1 a (.inl (t1, n, .inr (.inr (.inr (.inr (va_up f i.toNatClampNeg (some 1))))))), M.2), 0, 0)) else none
    | _ => none
  | _ => none
theorem sg_ok_aas1 {t : Nat} (ht : tys[t]? = some (sg_tc tys t, .array .int)) (hd : decode (sg_C P k) pc = .ok (.aastore, 1)) : sg_Ok D cl tys B b Ls xs Sx Ax P Tw k pc (sg_aas1 pc t) := by
  intro p l e R s m args below meth c hF hC L st M μ H locs cells slots ls hJ
  obtain ⟨hx, hb, hml, hown, hts, hret, hlk, hfr, hlo, hnm, htr, htb⟩ := hF
  unfold sg_aas1
  split
  · rename_i i a r
    split
    · rename_i t1 n f he
      split
      · rename_i hi
        obtain ⟨h1, hi⟩ := hi
        subst h1
        obtain ⟨ws, g1, g2, g3, g4⟩ := hJ.1.world
        obtain ⟨q0, hq0⟩ := g3 a _ he
        have hin := sg_in_ok hi
        have hlt : i.toNatClampNeg < n := Nat.not_le.mp fun q => hin (Or.inr q)
        have h0 : ¬ i < 0 := fun q => hin (Or.inl q)
        obtain ⟨-, hb1, cell, c1, c2, c3⟩ := hC.2.2.2.2.2.2.2.2.1
        have c1' : H[b 1]? = some cell := by rw [hJ.2.2.2.2.2.1 (b 1) (Array.getElem?_eq_some_iff.mp c1).1 (Nat.not_le.mpr hb1)]; exact c1
        obtain ⟨comp, cc, kA, f1, f2, f3, f4, f5⟩ := arrayOverA_spec hC.2.2.2.2.2.2.2.2.2.1
        have hcA : cc = sg_tc tys t1 := Option.some.inj (f5.symm.trans (hC.1.2 t1 _ ht).2)
        subst hcA
        have hcomp : cell.cls = comp := Option.some.inj (c3.symm.trans f1)
        obtain ⟨kC, hkC, -⟩ := Vm.findClass_spec f1
        refine ⟨Nat.le_refl _, fun Q _ _ kk => ?_⟩
        show W p l e R s m args below meth c H locs cells slots Q (F0 m pc ls (.ref (μ 1) :: .int i :: .ref (μ a) :: r.map (sg_v μ)))
        rw [hJ.1.2.2.2.2 1 (by decide)]
        refine W.aast hx hb (g1 q0 _ hq0) (fun q h => by cases h) (fun h => by cases h) f3 f4 rfl hkC ⟨h0, by show _ < (arrV _ _ _).slots.size; rw [arrV_size]; exact hlt⟩ c1' (fun q h => by rw [h] at c2; cases c2) (by rw [hcomp]; exact hkC) (by rw [hcomp]; exact va_asg _ _) rfl rfl hd fun H1 e z oq => ?_
        refine kk μ H1 _ ls sg_X.rf ⟨hJ.1.set g3 he hq0 (e := .inl (t1, n, .inr (.inr (.inr (.inr (va_up f i.toNatClampNeg (some 1))))))) (sg_warr ?_) (g1.set g2 hq0 ?_ oq), hJ.2.1, (sg_c1 (sg_c1 (sg_c1 hJ.2.2.1).2).2).2, hJ.2.2.2.1, hJ.2.2.2.2.put z oq (g2.2 q0 _ hq0)⟩
        · intro k9 f9 e9 j y hy
          cases e9
          have hy : (if j = i.toNatClampNeg then some 1 else f j) = some y := hy
          by_cases hz : j = i.toNatClampNeg
          · rw [if_pos hz] at hy; cases hy
            exact Nat.lt_of_lt_of_le (by decide : 1 < sg_pn) hJ.1.2.2.2.1
          · rw [if_neg hz] at hy
            exact (hJ.1.1 a _ he).2.1.1 _ _ rfl _ _ rfl _ _ hy
        · show H1[μ a]? = some (vp_cell _ _)
          rw [e]
          show some ((arrV (sg_tc tys t1) n (fun j => va_rf ((f j).map μ))).setSlot _ _) = some (arrV (sg_tc tys t1) n (fun j => va_rf ((va_up f i.toNatClampNeg (some 1) j).map μ)))
          rw [arrV_store]
          congr 2
          funext q
          have e1 : μ 1 = b 1 := hJ.1.2.2.2.2 1 (by decide)
          by_cases hq : q = i.toNatClampNeg
          · subst hq
            simp [updV, va_up, va_rf, e1]
          · simp [updV, va_up, hq]
      · trivial
    · trivial
  · trivial
/-- checkcast of a row to its own class -/
def sg_cast (pc t : Nat) : sg_F := fun L st M => match st with
  | .ref a :: r => match M.1 a with
    | some (.inl (t1, x)) => if t1 = t then sg_go (pc + 3) L (.ref a :: r) M else none
    | _ => none
  | _ => none
theorem sg_ok_cast {t index : Nat} {ty : FieldType} {nm : String} (hnm9 : nm = "[" ++ (FieldType.array ty).toString) (ht : tys[t]? = some (sg_tc tys t, .array ty)) (hw : Cond.classLink (sg_Y P k).cls index nm ∈ Tw) (hd : decode (sg_C P k) pc = .ok (.checkcast index, 3)) : sg_Ok D cl tys B b Ls xs Sx Ax P Tw k pc (sg_cast pc t) := by
  intro p l e R s m args below meth c hF hC L st M μ H locs cells slots ls hJ
  obtain ⟨hx, hb, hml, hown, hts, hret, hlk, hfr, hlo, hnm, htr, htb⟩ := hF
  subst hnm9
  unfold sg_cast
  split
  · rename_i a r
    split
    · rename_i t1 x he
      split
      · rename_i h1
        subst h1
        exact sg_pure hJ hJ.2.1 hJ.2.2.1 (fun Q kk => va_castA hx hb hown (hts _ hw) (hJ.1.one he).1 0 rfl (hC.1.2 t1 _ ht).2 hd (kk ls hJ.2.2.2.1))
      · trivial
    · trivial
  · trivial
/-- the static that holds the empty row -/
def sg_gets (pc : Nat) : sg_F := fun L st M => sg_go (pc + 3) L (.ref 1 :: st) M
theorem sg_ok_gets {index : Nat} (hw : Cond.fieldLink (sg_Y P k).cls index "StrataRepoModel" "EMPTY" "[I" ∈ Tw) (hd : decode (sg_C P k) pc = .ok (.getstatic index, 3)) : sg_Ok D cl tys B b Ls xs Sx Ax P Tw k pc (sg_gets pc) := by
  intro p l e R s m args below meth c hF hC L st M μ H locs cells slots ls hJ
  obtain ⟨hx, hb, hml, hown, hts, hret, hlk, hfr, hlo, hnm, htr, htb⟩ := hF
  refine sg_pure hJ hJ.2.1 (sg_cc (fun a e => by rcases e with e | e <;> cases e; exact Nat.lt_of_lt_of_le (by decide : 1 < sg_pn) hJ.1.2.2.2.1) hJ.2.2.1) (fun Q kk => ?_)
  have kk := kk ls hJ.2.2.2.1
  rw [List.map_cons, show sg_v μ (.ref 1) = .ref (b 1) from congrArg Value.ref (hJ.1.2.2.2.2 1 (by decide))] at kk
  exact va_gets hx hb hC.2.2.2.2.2.2.2.2.1.1 hJ.2.2.2.2 hown (hts _ hw) (fun _ h => h) hd kk
/-- a copy of a row of references -/
def sg_clone (pc t : Nat) (P : sg_P) (k : Nat) : sg_F := fun L st M => match st with
  | .ref a :: r => match M.1 a with
    | some (.inl (t1, n, .inr (.inr (.inr (.inr f))))) => if t1 = t ∧ 1 ≤ sg_fr P k ∧ (r.map fun v => v.category).sum + 14 ≤ sg_lo P k then some (.inl (pc + 3, L, .ref M.2 :: r, (sg_up M.1 M.2 (.inl (t1, n, .inr (.inr (.inr (.inr f))))), M.2 + 1), 1, n)) else none
    | _ => none
  | _ => none
theorem sg_ok_clone {t index : Nat} {ty : FieldType} {ad : String} (had : ad = "[" ++ (FieldType.array ty).toString) (ht : tys[t]? = some (sg_tc tys t, .array ty)) (h1 : Cond.methodLink (sg_Y P k).cls index ⟨ad, "clone", "()Ljava/lang/Object;"⟩ ∈ Tw) (h2 : ∀ (B : Nat) (U : State) (H : Heap), (∀ w ∈ Tw, w.before #[] U = true) → True)
    (h3 : Cond.sameMethod ad "java/lang/Object" "clone" "()Ljava/lang/Object;" ∈ Tw) (h4 : Cond.native ⟨"java/lang/Object", "clone", "()Ljava/lang/Object;"⟩ ∈ Tw) (h5 : Cond.instanceMethod ⟨"java/lang/Object", "clone", "()Ljava/lang/Object;"⟩ ∈ Tw) (h6 : Cond.selects ad ⟨ad, "clone", "()Ljava/lang/Object;"⟩ ⟨"java/lang/Object", "clone", "()Ljava/lang/Object;"⟩ ∈ Tw) (h7 : Cond.castable ad "java/lang/Cloneable" ∈ Tw) (hd : decode (sg_C P k) pc = .ok (.invokevirtual index, 3)) : sg_Ok D cl tys B b Ls xs Sx Ax P Tw k pc (sg_clone pc t P k) := by
  intro p l e R s m args below meth c hF hC L st M μ H locs cells slots ls hJ
  obtain ⟨hx, hb, hml, hown, hts, hret, hlk, hfr, hlo, hnm, htr, htb⟩ := hF
  subst had
  unfold sg_clone
  split
  · rename_i a r
    split
    · rename_i t1 n f he
      split
      · rename_i hi
        obtain ⟨z1, z2, z3⟩ := hi
        subst z1
        obtain ⟨ws, g1, g2, g3, g4⟩ := hJ.1.world
        obtain ⟨q0, hq0⟩ := g3 a _ he
        have hst := (sg_c1 hJ.2.2.1).2
        refine ⟨Nat.le_succ _, fun Q hc1 hc2 kk => va_clone hx hb (hml.trans hJ.2.2.2.1.1.symm) hown (hts _ h1) (hts _ h3) (hts _ h4) (hts _ h5) (hts _ h6) (va_Nw.of rfl (hts _ h7)) hC.1 g1 g2 hJ.2.2.2.2 (fun q hq => Nat.le_trans hC.2.2.2.1 hq) q0 t1 hq0 ht (hC.1.2 t1 _ ht).2 ?_ (by rw [hfr]; exact z2) (by rw [hlo, sg_cats]; exact z3) hc1 hc2 hd (fun q H1 pK p1 p2 p3 => ?_)⟩
        · intro i v hv
          have hv : (arrV (sg_tc tys t1) n (fun j => va_rf ((f j).map μ))).slots[i]? = some v := hv
          have hlt : i < n := by
            have := (Array.getElem?_eq_some_iff.mp hv).1
            rw [arrV_size] at this
            exact this
          rw [arrV_read _ _ hlt] at hv
          have hv := Option.some.inj hv
          subst hv
          cases (f i).map μ <;> rfl
        · obtain ⟨i1, i2⟩ := hJ.1.push (e := .inl (t1, n, .inr (.inr (.inr (.inr f))))) g3 (hJ.1.1 a _ he).2.1 p1 p2
          have hk := kk _ H1 locs ls i2 ⟨i1, fun z hz => (hJ.2.1 z hz).mono (Nat.le_succ _), sg_cc (fun a e => by rcases e with e | e <;> cases e <;> exact Nat.lt_succ_self _) (fun v hv => (hst v hv).mono (Nat.le_succ _)), by rw [sg_ls_x hJ.2.1 i2]; exact hJ.2.2.2.1, p3⟩
          rw [List.map_cons, sg_vs_x hst i2] at hk
          have e8 : sg_v (fun x => if x = M.2 then q else μ x) (.ref M.2) = .ref q := congrArg Value.ref (if_pos rfl)
          rw [e8] at hk
          exact hk
      · trivial
    · trivial
  · trivial
end
end SGM
end
section
section SGN
/-! rows of rows made at once: the state behind i of the inner rows -/
def sg_mo (c : ClassId) (N h i : Nat) : Cell := arrV c N (fun j => if j < i then .ref (h + 1 + j) else .null)
def sg_mi (c : ClassId) (K : Nat) (dv : Value) : Cell := arrV c K (fun _ => dv)
def sg_ml (s : State) (c comp : ClassId) (N K : Nat) (dv : Value) : Nat → State
  | 0 => s.pushCell (sg_mo c N s.heap.size 0)
  | i + 1 => ((sg_ml s c comp N K dv i).pushCell (sg_mi comp K dv)).setCell s.heap.size ((sg_mo c N s.heap.size i).setSlot i (.ref (s.heap.size + 1 + i)))
theorem sg_mo_succ (c : ClassId) (N h i : Nat) : (sg_mo c N h i).setSlot i (.ref (h + 1 + i)) = sg_mo c N h (i + 1) := by
  unfold sg_mo
  rw [arrV_store]
  congr 1
  funext j
  show (if j = i then Value.ref (h + 1 + i) else (if j < i then Value.ref (h + 1 + j) else Value.null)) = if j < i + 1 then Value.ref (h + 1 + j) else Value.null
  by_cases h1 : j = i
  · subst h1
    rw [if_pos rfl, if_pos (Nat.lt_succ_self _)]
  · rw [if_neg h1]
    by_cases h2 : j < i
    · rw [if_pos h2, if_pos (Nat.lt_succ_of_lt h2)]
    · rw [if_neg h2, if_neg (by omega)]
theorem sg_ml_f (s : State) (c comp : ClassId) (N K : Nat) (dv : Value) : ∀ i, (sg_ml s c comp N K dv i).heap.size = s.heap.size + 1 + i ∧ (sg_ml s c comp N K dv i).heap[s.heap.size]? = some (sg_mo c N s.heap.size i) ∧ (sg_ml s c comp N K dv i).vm = s.vm ∧ (sg_ml s c comp N K dv i).slotsUsed = s.slotsUsed + N + i * K := by
  intro i
  induction i with
  | zero => exact ⟨by simp [sg_ml], by simp [sg_ml], rfl, by simp [sg_ml, sg_mo, arrV_size]⟩
  | succ i ih =>
    obtain ⟨h1, h2, h3, h4⟩ := ih
    have hl : s.heap.size < (sg_ml s c comp N K dv i).heap.size := by rw [h1]; omega
    have h2' : ((sg_ml s c comp N K dv i).pushCell (sg_mi comp K dv)).heap[s.heap.size]? = some (sg_mo c N s.heap.size i) := by rw [State.heap_pushCell_of_lt (h := hl)]; exact h2
    refine ⟨?_, ?_, by simp [sg_ml, h3], ?_⟩
    · simp [sg_ml, State.setCell, h1]; omega
    · rw [← sg_mo_succ]
      exact State.heap_setCell_self h2'
    · have : (sg_mi comp K dv).slots.size = K := arrV_size _ _ _
      simp [sg_ml, h4, this, Nat.succ_mul]; omega
theorem sg_ml_old (s : State) (c comp : ClassId) (N K : Nat) (dv : Value) {a : Addr} (ha : a < s.heap.size) : ∀ i, (sg_ml s c comp N K dv i).heap[a]? = s.heap[a]? := by
  intro i
  induction i with
  | zero => exact State.heap_pushCell_of_lt _ _ ha
  | succ i ih =>
    have h1 := (sg_ml_f s c comp N K dv i).1
    have hl : a < (sg_ml s c comp N K dv i).heap.size := Nat.lt_of_lt_of_le ha (by rw [h1]; omega)
    show (((sg_ml s c comp N K dv i).pushCell (sg_mi comp K dv)).setCell s.heap.size _).heap[a]? = _
    rw [State.heap_setCell_other (Nat.ne_of_gt ha), State.heap_pushCell_of_lt (h := hl)]
    exact ih
theorem sg_ml_in (s : State) (c comp : ClassId) (N K : Nat) (dv : Value) : ∀ i j, j < i → (sg_ml s c comp N K dv i).heap[s.heap.size + 1 + j]? = some (sg_mi comp K dv) := by
  intro i
  induction i with
  | zero => intro j h; exact absurd h (Nat.not_lt_zero _)
  | succ i ih =>
    intro j h
    have h1 := (sg_ml_f s c comp N K dv i).1
    show (((sg_ml s c comp N K dv i).pushCell (sg_mi comp K dv)).setCell s.heap.size _).heap[s.heap.size + 1 + j]? = _
    rw [State.heap_setCell_other (show s.heap.size ≠ s.heap.size + 1 + j by omega)]
    rcases Nat.lt_succ_iff_lt_or_eq.mp h with hj | hj
    · have hl : s.heap.size + 1 + j < (sg_ml s c comp N K dv i).heap.size := by omega
      rw [State.heap_pushCell_of_lt (h := hl)]
      exact ih j hj
    · subst hj
      rw [← h1]
      exact State.heap_pushCell_size _ _
theorem sg_ml_top (s : State) (f : JFrame) (c comp : ClassId) (N K : Nat) (dv : Value) : ∀ i, sg_ml (s.setTop f) c comp N K dv i = (sg_ml s c comp N K dv i).setTop f := by
  intro i
  induction i with
  | zero => rfl
  | succ i ih => simp only [sg_ml, ih, State.heap_setTop, State.pushCell_setTop, State.setCell_setTop]
section
variable {E : CtlPost} {e : Env} {d : Bool} {acts : List Action} {s : State}
theorem sg_wpnew {c comp : ClassId} {k : Class} {type : FieldType} {len : Nat} {init : Value} (hk : s.vm.classes[c]? = some k) (hkind : k.kind = .array comp type) (hl : ¬ len > e.platform.arrayLengthLimit) (hh : ¬ len * componentBytes type > e.platform.maxHeapBytes) (hfit : fits type init = true) (hdef : init.isDefault = true) {Q : Addr → Pre} (h1 : s.heap.size < e.platform.maxCells) (h2 : s.slotsUsed + len ≤ e.platform.maxSlots) (hq : Q s.heap.size d acts (s.pushCell (arrV c len (fun _ => init)))) : wp (Jvm.newArray c len init) Q E e d acts s := by
  rw [← arrV_new] at hq
  have hf : ∀ i v, (Array.replicate len init)[i]? = some v → s.fitsSlot c .none i v = true := by
    intro i v hv
    simp only [Array.getElem?_replicate] at hv
    split at hv
    · cases hv
      simp [State.fitsSlot, State.slotType?, hk, hkind, hfit]
    · cases hv
  have ha : allocActs (Array.replicate len init) s.heap.size acts = acts := by
    unfold allocActs
    rw [if_pos (by rw [Array.all_replicate]; split <;> simp [hdef])]
  simp only [Jvm.newArray, Jvm.arrayFits, wp_bind', W.ask, W.ite, hl, if_false, wp_pure', W.theClass, hk, hkind, hh, W.alloc, W.stop, Option.some.injEq, exists_eq_left', Array.size_replicate, ha]
  rw [if_neg (by omega)]
  exact ⟨h1, h2, hf, hq⟩
theorem sg_wpmake {c comp cc : ClassId} {k kc : Class} {type : FieldType} {n m : Int32} (hk : s.vm.classes[c]? = some k) (hkind : k.kind = .array comp (.array type)) (hkc : s.vm.classes[comp]? = some kc) (hkindc : kc.kind = .array cc type) (hn : ¬ n < 0) (hm : ¬ m < 0)
    (hl1 : ¬ n.toNatClampNeg > e.platform.arrayLengthLimit) (hh1 : ¬ n.toNatClampNeg * componentBytes (.array type) > e.platform.maxHeapBytes) (hl2 : ¬ m.toNatClampNeg > e.platform.arrayLengthLimit) (hh2 : ¬ m.toNatClampNeg * componentBytes type > e.platform.maxHeapBytes) (hdf : fits type (defaultValue type) = true) (hdd : (defaultValue type).isDefault = true)
    (hc : s.heap.size + 1 + n.toNatClampNeg ≤ e.platform.maxCells) (hs : s.slotsUsed + n.toNatClampNeg + n.toNatClampNeg * m.toNatClampNeg ≤ e.platform.maxSlots) {Q : Addr → Pre} (hq : ∀ d' acts', Q s.heap.size d' acts' (sg_ml s c comp n.toNatClampNeg m.toNatClampNeg (defaultValue type) n.toNatClampNeg)) : wp (multianewarray.make c [n, m]) Q E e d acts s := by
  generalize hN : n.toNatClampNeg = N at *
  generalize hK : m.toNatClampNeg = K at *
  have hfind : ([m].find? (· < 0)) = none := by simp [hm]
  rw [multianewarray.make]
  simp only [wp_bind', W.ite, hn, if_false, wp_pure', W.theClass, hk, hkind, Option.some.injEq, exists_eq_left', hN]
  refine sg_wpnew hk hkind hl1 hh1 rfl rfl (by omega) (by have := Nat.zero_le (N * K); omega) ?_
  have e0 : s.pushCell (arrV c N (fun _ => .null)) = sg_ml s c comp N K (defaultValue type) 0 := by
    show _ = s.pushCell (arrV c N (fun j => if j < 0 then _ else _))
    congr 2
  rw [e0]
  simp only [hfind]
  rw [ite_self, wp_bind', Std.Legacy.Range.forIn_eq_forIn_range']
  have hsz : ([:N] : Std.Legacy.Range).size = N := by simp [Std.Legacy.Range.size]
  rw [hsz]
  show wp (forIn (List.range' 0 N 1) PUnit.unit _) _ E e d acts _
  refine wp_forIn_inv (fun rest s' => ∃ i, i ≤ N ∧ rest = List.range' i (N - i) ∧ s' = sg_ml s c comp N K (defaultValue type) i) _ _ ⟨0, Nat.zero_le _, rfl, rfl⟩ ?_ ?_
  · rintro x rest s' d' acts' Q' ⟨i, hi, hl, rfl⟩ hnext
    have hlt : i < N := by
      rcases Nat.lt_or_ge i N with h | h
      · exact h
      · rw [show N - i = 0 from by omega] at hl; simp at hl
    obtain ⟨rfl, hrest⟩ : x = i ∧ rest = List.range' (i + 1) (N - (i + 1)) := by
      rw [show N - i = (N - (i + 1)) + 1 from by omega, List.range'_succ] at hl
      exact ⟨(List.cons.inj hl).1, (List.cons.inj hl).2⟩
    obtain ⟨f1, f2, f3, f4⟩ := sg_ml_f s c comp N K (defaultValue type) x
    have hmul : x * K + K ≤ N * K := by
      have := Nat.mul_le_mul_right K (show x + 1 ≤ N from hlt)
      rw [Nat.succ_mul] at this
      exact this
    have hkc' : (sg_ml s c comp N K (defaultValue type) x).vm.classes[comp]? = some kc := by rw [f3]; exact hkc
    simp only [wp_bind']
    rw [multianewarray.make]
    simp only [wp_bind', W.ite, hm, if_false, wp_pure', W.theClass, hkc', hkindc, Option.some.injEq, exists_eq_left', hK]
    refine sg_wpnew hkc' hkindc hl2 hh2 hdf hdd (by rw [f1]; omega) (by rw [f4]; omega) ?_
    have hl0 : s.heap.size < (sg_ml s c comp N K (defaultValue type) x).heap.size := by rw [f1]; omega
    simp only [wp_bind', W.writeLoc, wp_pure']
    refine ⟨sg_mo c N s.heap.size x, (by rw [State.heap_pushCell_of_lt (h := hl0)]; exact f2), (by intro h; cases h), (by rw [show (sg_mo c N s.heap.size x).slots.size = N from arrV_size _ _ _]; exact hlt), ?_, hnext _ _ _ ⟨x + 1, hlt, hrest, ?_⟩⟩
    · simp [sg_mo, arrV, State.fitsSlot, State.slotType?, f3, hk, hkind, fits]
    · rw [f1]; rfl
  · rintro s' d' acts' ⟨i, hi, hl, rfl⟩
    have hiN : i = N := by
      rcases Nat.lt_or_ge i N with h | h
      · rw [show N - i = (N - (i + 1)) + 1 from by omega, List.range'_succ] at hl; cases hl
      · omega
    subst hiN
    simp only [wp_pure']
    exact hq _ _
end
section
variable {p : Program} {l : Launch} {e : Env} {R : Room} {s : State} {m : MethodId} {args : Array Value} {below : List Frame} {meth : Method} {c : Code} {H : Heap} {locs : List Loc} {cells slots : Nat} {Q : State → Prop} {T : State}
theorem sg_mlX (X : Stand p l e R s m args below meth c T locs cells slots) (cA comp : ClassId) (N K : Nat) (dv : Value) : ∀ i, Stand p l e R s m args below meth c (sg_ml T cA comp N K dv i) (locs ++ (List.range i).map fun j => ⟨T.heap.size, j⟩) (cells + 1 + i) (slots + N + i * K) := by
  intro i
  induction i with
  | zero =>
    have h := X.pushed (sg_mo cA N T.heap.size 0)
    rw [show (sg_mo cA N T.heap.size 0).slots.size = N from arrV_size _ _ _] at h
    simpa [sg_ml] using h
  | succ i ih =>
    obtain ⟨f1, f2, f3, f4⟩ := sg_ml_f T cA comp N K dv i
    have hl0 : T.heap.size < (sg_ml T cA comp N K dv i).heap.size := by rw [f1]; omega
    have hcell : ((sg_ml T cA comp N K dv i).pushCell (sg_mi comp K dv)).heap[T.heap.size]? = some (sg_mo cA N T.heap.size i) := by rw [State.heap_pushCell_of_lt (h := hl0)]; exact f2
    have h := (ih.pushed (sg_mi comp K dv)).stored hcell i (.ref (T.heap.size + 1 + i))
    rw [show (sg_mi comp K dv).slots.size = K from arrV_size _ _ _] at h
    have e2 : (locs ++ (List.range (i + 1)).map fun j => (⟨T.heap.size, j⟩ : Loc)) = (locs ++ (List.range i).map fun j => (⟨T.heap.size, j⟩ : Loc)) ++ [⟨T.heap.size, i⟩] := by simp [List.range_succ, List.append_assoc]
    have e3 : slots + N + (i + 1) * K = slots + N + i * K + K := by rw [Nat.succ_mul]; omega
    rw [e2, e3]
    exact h
theorem sg_Wmulti {cc : ByteArray} (hexec : p.tables.exec = Jvm.exec) (hb : c.code = cc) {own : String} {index pc : Nat} {ls : Array Slot} {ty : FieldType} (hown : s.vm.findClass own = some m.cls) (hclink : (Cond.classLink own index ("[" ++ (FieldType.array ty).toString)).before args s = true) (hover : (Cond.arrayOver (.array ty)).before args s = true) (harr : (Cond.arrayClass ty).before args s = true)
    {n k : Int32} {rest : List Value} (hdg : decode cc pc = .ok (.multianewarray index 2, 4)) (hn : ¬ n < 0) (hk : ¬ k < 0) (hb1 : n.toNatClampNeg * 4 ≤ 536870912) (hb2 : k.toNatClampNeg * componentBytes ty ≤ 536870912) (hb3 : k.toNatClampNeg ≤ 536870912) (hdf : fits ty (defaultValue ty) = true) (hdd : (defaultValue ty).isDefault = true)
    (hcells : cells + (1 + n.toNatClampNeg) ≤ R.cells) (hslots : slots + (n.toNatClampNeg + n.toNatClampNeg * k.toNatClampNeg) ≤ R.slots)
    (kk : ∀ (cA comp : ClassId) (H1 : Heap), s.vm.findClass ("[" ++ (FieldType.array ty).toString) = some cA → s.vm.findClass (FieldType.array ty).toString = some comp → H1.size = H.size + 1 + n.toNatClampNeg → H1[H.size]? = some (sg_mo cA n.toNatClampNeg H.size n.toNatClampNeg) → (∀ j, j < n.toNatClampNeg → H1[H.size + 1 + j]? = some (sg_mi comp k.toNatClampNeg (defaultValue ty))) → (∀ q : Nat, q < H.size → H1[q]? = H[q]?) →
      W p l e R s m args below meth c H1 (locs ++ (List.range n.toNatClampNeg).map fun j => ⟨H.size, j⟩) (cells + (1 + n.toNatClampNeg)) (slots + (n.toNatClampNeg + n.toNatClampNeg * k.toNatClampNeg)) Q (F0 m (pc + 4) ls (.ref H.size :: rest))) :
    W p l e R s m args below meth c H locs cells slots Q (F0 m pc ls (.int k :: .int n :: rest)) := by
  intro T hT X
  subst hT
  have hpl : e.platform.magicAccessors = ({} : Platform).magicAccessors := by rw [X.admits.platform]
  obtain ⟨comp, cA, kA, hcomp, -, hkA, hkindA, hnameA⟩ := arrayOverA_spec hover
  obtain ⟨comp', kC, cc', hcomp', hkC, hkindC⟩ := Cond.arrayClass_spec harr
  have ecomp : comp' = comp := Option.some.inj (hcomp'.symm.trans hcomp)
  subst ecomp
  obtain ⟨c0, hfc0, hcl⟩ := Cond.classLink_spec hown hclink e.platform hpl
  cases hnameA.symm.trans hfc0
  obtain ⟨hg₁, hwarm₁, hready₁⟩ := State.classEntry (e := e) X.warmed hcl
  generalize T.vm.noted m.cls index (.cls cA) = vm₁ at hg₁ hwarm₁ hready₁
  have hal : s.vm.Alike vm₁ := hwarm₁.alike
  obtain ⟨kA₁, hkA₁, heA⟩ := hal.2.2 _ _ hkA
  obtain ⟨kC₁, hkC₁, heC⟩ := hal.2.2 _ _ hkC
  have hkindA₁ : kA₁.kind = .array comp' (.array ty) := by rw [heA]; exact hkindA
  have hkindC₁ : kC₁.kind = .array cc' ty := by rw [heC]; exact hkindC
  have X₁ := X.noted hwarm₁
  obtain ⟨hr1, hr2⟩ := X.roomAbove hcells hslots
  obtain ⟨f1, f2, f3, f4⟩ := sg_ml_f (T.setVm vm₁) cA comp' n.toNatClampNeg k.toNatClampNeg (defaultValue ty) n.toNatClampNeg
  have XF := sg_mlX X₁ cA comp' n.toNatClampNeg k.toNatClampNeg (defaultValue ty) n.toNatClampNeg
  have ec : cells + 1 + n.toNatClampNeg = cells + (1 + n.toNatClampNeg) := by omega
  have es : slots + n.toNatClampNeg + n.toNatClampNeg * k.toNatClampNeg = slots + (n.toNatClampNeg + n.toNatClampNeg * k.toNatClampNeg) := by omega
  rw [ec, es] at XF
  obtain ⟨t', a1, b1⟩ := kk cA comp' _ hnameA hcomp f1 f2 (fun j hj => sg_ml_in (T.setVm vm₁) cA comp' _ _ _ _ j hj) (fun q hq => sg_ml_old (T.setVm vm₁) cA comp' _ _ _ hq _) _ rfl XF
  refine ⟨t', ?_, b1⟩
  have hl1 : ¬ n.toNatClampNeg > e.platform.arrayLengthLimit := by rw [Launch.admits_arrayLengthLimit X.admits]; omega
  have hh1 : ¬ n.toNatClampNeg * componentBytes (.array ty) > e.platform.maxHeapBytes := by
    rw [Launch.admits_maxHeapBytes X.admits]; show ¬ n.toNatClampNeg * 4 > 536870912; omega
  have hl2 : ¬ k.toNatClampNeg > e.platform.arrayLengthLimit := by rw [Launch.admits_arrayLengthLimit X.admits]; omega
  have hh2 : ¬ k.toNatClampNeg * componentBytes ty > e.platform.maxHeapBytes := by rw [Launch.admits_maxHeapBytes X.admits]; omega
  jvm_step X.here [hexec, hb, hdg]
  simp only [multianewarray.sem, wp_bind', W.resolveClassAt_links (State.method?_setTop (F0 m pc ls (.int k :: .int n :: rest)) X.here.top) hg₁]
  rw [W.popN, if_neg (by decide)]
  refine ⟨F0 m pc ls (.int k :: .int n :: rest), State.topJava?_setTop' (s := T.setVm vm₁) _ X.here.top, [.int n, .int k], rest, rfl, rfl, ?_⟩
  simp only [List.mapM_cons, List.mapM_nil, wp_bind', wp_pure']
  refine sg_wpmake (k := kA₁) (kc := kC₁) (comp := comp') (cc := cc') (type := ty) hkA₁ hkindA₁ hkC₁ hkindC₁ hn hk hl1 hh1 hl2 hh2 hdf hdd (by show T.heap.size + 1 + _ ≤ _; omega) (by show T.slotsUsed + _ + _ ≤ _; omega) (fun d' acts' => ?_)
  have eS : ((T.setTop (F0 m pc ls (.int k :: .int n :: rest))).setVm vm₁).setTop { F0 m pc ls (.int k :: .int n :: rest) with stack := rest } = (T.setVm vm₁).setTop { F0 m pc ls (.int k :: .int n :: rest) with stack := rest } := by
    show ((T.setVm vm₁).setTop _).setTop _ = _
    rw [State.setTop_setTop]
  rw [eS, sg_ml_top]
  simp only [wp_bind', W.mark, W.pushRef, State.topJava?_setTop' _ XF.here.top, Option.some.injEq, exists_eq_left', State.setTop_setTop, State.heap_setTop]
  intro acts
  simp [jvm, XF.here.top]
  exact a1
end
section
variable {D : va_G} {cl : List vw_C} {tys : List (ClassId × FieldType)} {B : Nat} {b : Nat → Nat} {Ls : Nat} {xs : Nat → Int32} {Sx : List (String × Nat × String)} {Ax : List String} {P : sg_P} {Tw : List Cond} {k pc : Nat}
def sg_mN (f : Nat → Option sg_E) (x n : Nat) (eo ei : sg_E) : Nat → Option sg_E := fun q => if q < x then f q else if q = x then some eo else if q ≤ x + n then some ei else f q
/-- rows of n rows of k ints each -/
def sg_mult (pc t ti : Nat) : sg_F := fun L st M => match st with
  | .int k :: .int n :: r => if n < 0 ∨ k < 0 ∨ 65536 < n.toNatClampNeg ∨ 65536 < k.toNatClampNeg then none else some (.inl (pc + 4, L, .ref M.2 :: r, (sg_mN M.1 M.2 n.toNatClampNeg (.inl (t, n.toNatClampNeg, .inr (.inr (.inr (.inr (fun j => if j < n.toNatClampNeg then some (M.2 + 1 + j) else none)))))) (.inl (ti, k.toNatClampNeg, .inl (fun _ => 0))), M.2 + (1 + n.toNatClampNeg)), 1 + n.toNatClampNeg, n.toNatClampNeg + n.toNatClampNeg * k.toNatClampNeg))
  | _ => none
set_option maxHeartbeats 1000000 in
theorem sg_ok_mult {t ti index : Nat} {C : String} (hC0 : C = "[" ++ (FieldType.array .int).toString) (ht : tys[t]? = some (sg_tc tys t, .array .int)) (hti : tys[ti]? = some (sg_tc tys ti, .int)) (hw : Cond.classLink (sg_Y P k).cls index C ∈ Tw) (hw2 : Cond.arrayClass .int ∈ Tw) (hd : decode (sg_C P k) pc = .ok (.multianewarray index 2, 4)) : sg_Ok D cl tys B b Ls xs Sx Ax P Tw k pc (sg_mult pc t ti) := by
  intro p l e R s m args below meth c hF hC L st M μ H locs cells slots ls hJ
  obtain ⟨hx, hb, hml, hown, hts, hret, hlk, hfr, hlo, hnm, htr, htb⟩ := hF
  subst hC0
  unfold sg_mult
  split
  · rename_i kx n r
    split
    · trivial
    · rename_i hn
      simp only [not_or] at hn
      obtain ⟨n0, k0, n1, k1⟩ := hn
      have hst := (sg_c1 (sg_c1 hJ.2.2.1).2).2
      have hI := hJ.1
      have hB : B ≤ H.size := Nat.le_trans hC.2.2.2.1 hJ.2.2.2.2.1
      generalize hN : n.toNatClampNeg = N at *
      generalize hK : kx.toNatClampNeg = K at *
      refine ⟨by show M.2 ≤ M.2 + (1 + N); omega, fun Q hc1 hc2 kk => sg_Wmulti (ty := .int) hx hb hown (hts _ hw) hC.2.2.2.2.2.2.2.2.2.1 (hts _ hw2) hd n0 k0 (by rw [hN]; omega) (by rw [hK]; show K * 4 ≤ 536870912; omega) (by rw [hK]; omega) rfl rfl (by rw [hN]; exact hc1) (by rw [hN, hK]; exact hc2) (fun cA comp H1 f1 f2 f3 f4 f5 f6 => ?_)⟩
      rw [hN, hK] at *
      have hcA : cA = sg_tc tys t := Option.some.inj (f1.symm.trans (hC.1.2 t _ ht).2)
      subst hcA
      have hco : comp = sg_tc tys ti := Option.some.inj (f2.symm.trans (hC.1.2 ti _ hti).2)
      subst hco
      generalize hμ : (fun x => if M.2 ≤ x ∧ x ≤ M.2 + N then H.size + (x - M.2) else μ x) = μ1
      have m0 : ∀ x, x < M.2 → μ1 x = μ x := fun x hx9 => by rw [← hμ]; exact if_neg (fun z => by omega)
      have m1 : ∀ x, M.2 ≤ x → x ≤ M.2 + N → μ1 x = H.size + (x - M.2) := fun x z1 z2 => by rw [← hμ]; exact if_pos ⟨z1, z2⟩
      have hX : sg_X μ μ1 M.2 := m0
      have key : ∀ q e9, sg_mN M.1 M.2 N (.inl (t, N, .inr (.inr (.inr (.inr (fun j => if j < N then some (M.2 + 1 + j) else none)))))) (.inl (ti, K, .inl (fun _ => 0))) q = some e9 → (q < M.2 ∧ M.1 q = some e9) ∨ (q = M.2 ∧ e9 = .inl (t, N, .inr (.inr (.inr (.inr (fun j => if j < N then some (M.2 + 1 + j) else none)))))) ∨ (M.2 < q ∧ q ≤ M.2 + N ∧ e9 = .inl (ti, K, .inl (fun _ => 0))) := by
        intro q e9 h9
        unfold sg_mN at h9
        split at h9
        · rename_i z
          exact Or.inl ⟨z, h9⟩
        · split at h9
          · rename_i z
            cases h9
            exact Or.inr (Or.inl ⟨z, rfl⟩)
          · split at h9
            · rename_i z1 z2 z3
              cases h9
              exact Or.inr (Or.inr ⟨by omega, z3, rfl⟩)
            · rename_i z1 z2 z3
              exact absurd (hI.1 q e9 h9).1 z1
      have i1 : sg_I D cl tys B b μ1 (sg_mN M.1 M.2 N (.inl (t, N, .inr (.inr (.inr (.inr (fun j => if j < N then some (M.2 + 1 + j) else none)))))) (.inl (ti, K, .inl (fun _ => 0))), M.2 + (1 + N)) H1 := by
        refine ⟨fun q e9 h9 => ?_, fun x y ex ey hx9 hy9 hxy => ?_, fun i hi => ?_, ?_, fun i hi => ?_⟩
        · show q < M.2 + (1 + N) ∧ sg_wE (M.2 + (1 + N)) e9 ∧ va_at D cl (μ1 q, sg_c tys μ1 e9) H1 ∧ B ≤ μ1 q
          rcases key q e9 h9 with ⟨z1, z2⟩ | ⟨z1, z2⟩ | ⟨z1, z2, z3⟩
          · obtain ⟨k1, k2, k3, k4⟩ := hI.1 q e9 z2
            rw [m0 q z1, sg_c_x k2 hX]
            exact ⟨by omega, k2.mono (by omega), k3.kept (f6 _ k3.lt), k4⟩
          · subst z1
            subst z2
            rw [m1 M.2 (Nat.le_refl _) (by omega), Nat.sub_self, Nat.add_zero]
            refine ⟨by omega, sg_warr (fun k9 f9 e9 j a ha => ?_), ?_, hB⟩
            · cases e9
              have ha : (if j < N then some (M.2 + 1 + j) else none) = some a := ha
              by_cases hj : j < N
              · rw [if_pos hj] at ha; cases ha; omega
              · rw [if_neg hj] at ha; cases ha
            · show H1[H.size]? = some (arrV (sg_tc tys t) N (fun j => va_rf ((if j < N then some (M.2 + 1 + j) else none).map μ1)))
              rw [f4]
              unfold sg_mo
              congr 2
              funext j
              by_cases hj : j < N
              · rw [if_pos hj, if_pos hj]
                show _ = Value.ref (μ1 (M.2 + 1 + j))
                rw [m1 _ (by omega) (by omega)]
                exact congrArg Value.ref (show (H.size + 1 + j : Nat) = H.size + (M.2 + 1 + j - M.2) by omega)
              · rw [if_neg hj, if_neg hj]
                rfl
          · subst z3
            rw [m1 q (by omega) z2]
            refine ⟨by omega, sg_warr sg_wAi, ?_, by omega⟩
            have h5 := f5 (q - M.2 - 1) (by omega)
            rw [show H.size + 1 + (q - M.2 - 1) = H.size + (q - M.2) by omega] at h5
            exact h5
        · have hxy : μ1 x = μ1 y := hxy
          rcases key x ex hx9 with ⟨a1, a2⟩ | ⟨a1, a2⟩ | ⟨a1, a2, a3⟩ <;> rcases key y ey hy9 with ⟨b1, b2⟩ | ⟨b1, b2⟩ | ⟨b1, b2, b3⟩
          · rw [m0 x a1, m0 y b1] at hxy
            exact hI.2.1 x y ex ey a2 b2 hxy
          · rw [m0 x a1, m1 y (by omega) (by omega)] at hxy
            have := (hI.1 x ex a2).2.2.1.lt
            simp only at this
            omega
          · rw [m0 x a1, m1 y (by omega) (by omega)] at hxy
            have := (hI.1 x ex a2).2.2.1.lt
            simp only at this
            omega
          · rw [m0 y b1, m1 x (by omega) (by omega)] at hxy
            have := (hI.1 y ey b2).2.2.1.lt
            simp only at this
            omega
          · omega
          · rw [m1 x (by omega) (by omega), m1 y (by omega) (by omega)] at hxy
            omega
          · rw [m0 y b1, m1 x (by omega) (by omega)] at hxy
            have := (hI.1 y ey b2).2.2.1.lt
            simp only at this
            omega
          · rw [m1 x (by omega) (by omega), m1 y (by omega) (by omega)] at hxy
            omega
          · rw [m1 x (by omega) (by omega), m1 y (by omega) (by omega)] at hxy
            omega
        · have := hI.2.2.2.1
          show sg_mN M.1 M.2 N _ _ i = none
          unfold sg_mN
          rw [if_pos (by omega)]
          exact hI.2.2.1 i hi
        · have := hI.2.2.2.1
          show sg_pn ≤ M.2 + (1 + N)
          omega
        · have := hI.2.2.2.1
          rw [m0 i (by omega)]
          exact hI.2.2.2.2 i hi
      have hk := kk μ1 H1 (locs ++ (List.range N).map fun j => (⟨H.size, j⟩ : Loc)) ls hX ⟨i1, fun z hz => (hJ.2.1 z hz).mono (by show M.2 ≤ M.2 + (1 + N); omega), sg_cc (fun a e => by rcases e with e | e <;> cases e; show M.2 < M.2 + (1 + N); omega) (fun v hv => (hst v hv).mono (by show M.2 ≤ M.2 + (1 + N); omega)), by rw [sg_ls_x hJ.2.1 hX]; exact hJ.2.2.2.1, ⟨Nat.le_trans hJ.2.2.2.2.1 (by omega), fun x h1 h2 => (f6 x (Nat.lt_of_lt_of_le h1 hJ.2.2.2.2.1)).trans (hJ.2.2.2.2.2.1 x h1 h2), fun z hz => ?_⟩⟩
      · rw [List.map_cons, sg_vs_x hst hX] at hk
        have e8 : sg_v μ1 (.ref M.2) = .ref H.size := congrArg Value.ref (by rw [m1 M.2 (Nat.le_refl _) (by omega), Nat.sub_self, Nat.add_zero])
        rw [e8] at hk
        exact hk
      · rcases List.mem_append.mp hz with z1 | z1
        · exact hJ.2.2.2.2.2.2 z z1
        · obtain ⟨j, -, rfl⟩ := List.mem_map.mp z1
          exact hB
  · trivial
end
end SGN
end
section
section SGD
def sg_cs (st : List Value) : Nat := (st.map fun v => v.category).sum
theorem sg_lg (vs : List Value) : (lg_sl vs).length = sg_cs vs := by
  induction vs with
  | nil => rfl
  | cons v vs ih =>
    have e : lg_sl (v :: vs) = (if v.category = 2 then [.val v, .second] else [.val v]) ++ lg_sl vs := rfl
    rw [e, List.length_append, ih]
    show _ = v.category + sg_cs vs
    rcases lv_cat v with h | h
    · rw [if_neg (by omega), h]; rfl
    · rw [if_pos h, h]; rfl
theorem sg_cs_map {μ : Nat → Nat} {st : List Value} : ((st.map (sg_v μ)).map fun v => v.category).sum = sg_cs st := by rw [sg_cats]; rfl
theorem sg_split {n : Nat} {st av : List Value} (h : (st.take n).reverse = av) : st = av.reverse ++ st.drop n := by
  rw [← h, List.reverse_reverse, List.take_append_drop]
theorem sg_mem_tk {n k : Nat} {st av : List Value} (h : (st.take n).reverse = av) (hw : ∀ v ∈ st, sg_wV k v) : (∀ v ∈ av, sg_wV k v) ∧ ∀ v ∈ st.drop n, sg_wV k v :=
  ⟨fun v hv => hw v (List.mem_of_mem_take (List.mem_reverse.mp (by rw [h]; exact hv))), fun v hv => hw v (List.mem_of_mem_drop hv)⟩
theorem sg_hw0 {P : sg_P} {j : Nat} (h : sg_hh P j = []) : sg_hw P j = .code (sg_Y P j) (sg_C P j) (sg_N P j) (sg_T P j) := by
  unfold sg_hw
  rw [h]
theorem sg_words {P : sg_P} {Tw : List Cond} {j : Nat} {s : State} {args : Array Value} (hts : ∀ w ∈ Tw, w.before args s = true) (hok : ∀ w ∈ Tw, sg_okw w = true) (hj : sg_hw P j ∈ Tw) : ∀ w ∈ sg_hw P j :: Tw, ∀ (a' : Array Value) (U : State), s.WarmedH U.vm → w.before a' U = true := by
  intro w hw a' U hW
  have hm : w ∈ Tw := by
    rcases List.mem_cons.mp hw with z | z
    · rw [z]; exact hj
    · exact z
  exact sg_okw_at (hok w hm) hW (hts w hm)
def sg_callV (j n ci nL : Nat) : sg_F := fun L st M => match (st.take n).reverse with
  | .ref a :: As => match M.1 a with
    | some (.inr (cj, _)) => if cj = ci ∧ As.length + 1 = n ∧ sg_cs (st.drop n) ≤ 8 ∧ sg_cs (.ref a :: As) ≤ nL then some (.inr (.inl (j, .ref a :: As, st.drop n))) else none
    | _ => none
  | _ => none
def sg_callS (j n nL : Nat) : sg_F := fun L st M => if (st.take n).reverse.length = n ∧ sg_cs (st.drop n) ≤ 8 ∧ sg_cs (st.take n).reverse ≤ nL then some (.inr (.inl (j, (st.take n).reverse, st.drop n))) else none
def sg_callI (j n nL : Nat) : sg_F := fun L st M => match (st.take n).reverse with
  | .ref a :: As => if As.length + 1 = n ∧ sg_cs (st.drop n) ≤ 8 ∧ sg_cs (.ref a :: As) ≤ nL then some (.inr (.inl (j, .ref a :: As, st.drop n))) else none
  | _ => none
section
variable {D : va_G} {cl : List vw_C} {tys : List (ClassId × FieldType)} {B : Nat} {b : Nat → Nat} {Ls : Nat} {xs : Nat → Int32} {Sx : List (String × Nat × String)} {Ax : List String} {P : sg_P} {Tw : List Cond} {k pc : Nat}

theorem sg_ok_callV {j np ci nL index : Nat} {q : vw_C} (hc : cl[ci]? = some q) (hq : q.1 = (sg_Y P j).cls) (h1 : Cond.methodLink (sg_Y P k).cls index (sg_Y P j) ∈ Tw) (h2 : Cond.instanceMethod (sg_Y P j) ∈ Tw) (h4 : Cond.selects (sg_Y P j).cls (sg_Y P j) (sg_Y P j) ∈ Tw) (hh0 : sg_hh P j = []) (hok : ∀ w ∈ Tw, sg_okw w = true) (hj : sg_hw P j ∈ Tw) (h3 : Cond.initialized (sg_Y P j).cls ∈ Tw) (hcl : (sg_Y P j).cls ≠ "java/lang/invoke/MethodHandle" ∧ (sg_Y P j).cls ≠ "java/lang/invoke/VarHandle") (hpm : (parseMethodDescriptor (sg_Y P j).desc).map (fun d => d.parameters.length) = some np) (hR : sg_fr P j + 1 ≤ sg_fr P k ∧ 8 + (sg_N P j + 11) + sg_lo P j ≤ sg_lo P k) (hN : sg_N P j = nL) (hd : decode (sg_C P k) pc = .ok (.invokevirtual index, 3)) : sg_Ok D cl tys B b Ls xs Sx Ax P Tw k pc (sg_callV j (np + 1) ci nL) := by
  intro p l e R s m args below meth c hF hC L st M μ H locs cells slots ls hJ
  obtain ⟨hx, hb, hml, hown, hts, hret, hlk, hfr, hlo, hnm, htr, htb⟩ := hF
  unfold sg_callV
  split
  · rename_i a As hav
    split
    · rename_i cj fs he
      split
      · rename_i hcj
        obtain ⟨hcj, hlen, hr8, hn⟩ := hcj
        subst hcj
        obtain ⟨w1, w2⟩ := sg_mem_tk hav hJ.2.2.1
        refine ⟨w1, w2, by rw [sg_lg, hN]; exact hn, fun Pc Qc XC mc ms hM hbl hp e1 e2 => ?_⟩
        have hrecv : ∃ cell : Cell, H[μ a]? = some cell ∧ cell.vm.isStatics = false ∧ s.vm.findClass (sg_Y P j).cls = some cell.cls := by
          rw [← hq]
          exact va_recv hC.1 (hJ.1.one he).1 hc (q0 := 0) rfl
        have hst : st.map (sg_v μ) = (As.map (sg_v μ)).reverse ++ .ref (μ a) :: (st.drop (np + 1)).map (sg_v μ) := by
          conv => lhs; rw [sg_split hav]
          simp [sg_v]
        exact vx_runV (b := μ a) (As := As.map (sg_v μ)) (n := np) ⟨hx, hb, hml, hown, hts⟩ hM ⟨⟨rfl, rfl, by rw [hfr]; exact hR.1, by rw [hlo]; exact hR.2, sg_words hts hok hj, by rw [sg_hw0 hh0]; exact List.mem_cons_self, hts _ (by rw [← sg_hw0 hh0]; exact hj), hts _ h3, hcl, fun sig h => by rw [h] at hpm; exact (Option.some.inj hpm).symm, hts _ h1⟩, hts _ h2, hts _ h4⟩ ⟨hbl, hrecv, hp⟩ rfl (by rw [List.length_map]; omega) hJ.2.2.2.1.1 hst (lv_room (by rw [sg_cs_map]; exact hr8)) hd ⟨e1, e2⟩
      · trivial
    · trivial
  · trivial
theorem sg_ok_callS {j np nL index : Nat} (h1 : Cond.methodLink (sg_Y P k).cls index (sg_Y P j) ∈ Tw) (h2 : Cond.static (sg_Y P j) ∈ Tw) (hh0 : sg_hh P j = []) (hok : ∀ w ∈ Tw, sg_okw w = true) (hj : sg_hw P j ∈ Tw) (h3 : Cond.initialized (sg_Y P j).cls ∈ Tw) (hcl : (sg_Y P j).cls ≠ "java/lang/invoke/MethodHandle" ∧ (sg_Y P j).cls ≠ "java/lang/invoke/VarHandle") (hpm : (parseMethodDescriptor (sg_Y P j).desc).map (fun d => d.parameters.length) = some np) (hR : sg_fr P j + 1 ≤ sg_fr P k ∧ 8 + (sg_N P j + 11) + sg_lo P j ≤ sg_lo P k) (hN : sg_N P j = nL) (hd : decode (sg_C P k) pc = .ok (.invokestatic index, 3)) : sg_Ok D cl tys B b Ls xs Sx Ax P Tw k pc (sg_callS j np nL) := by
  intro p l e R s m args below meth c hF hC L st M μ H locs cells slots ls hJ
  obtain ⟨hx, hb, hml, hown, hts, hret, hlk, hfr, hlo, hnm, htr, htb⟩ := hF
  unfold sg_callS
  split
  · rename_i hcj
    obtain ⟨hlen, hr8, hn⟩ := hcj
    obtain ⟨w1, w2⟩ := sg_mem_tk rfl hJ.2.2.1
    refine ⟨w1, w2, by rw [sg_lg, hN]; exact hn, fun Pc Qc XC mc ms hM hbl hp e1 e2 => ?_⟩
    have hst : st.map (sg_v μ) = ((st.take np).reverse.map (sg_v μ)).reverse ++ (st.drop np).map (sg_v μ) := by
      rw [← List.map_reverse, List.reverse_reverse, ← List.map_append, List.take_append_drop]
    exact vx_runS (As := (st.take np).reverse.map (sg_v μ)) (n := np) ⟨hx, hb, hml, hown, hts⟩ hM ⟨⟨rfl, rfl, by rw [hfr]; exact hR.1, by rw [hlo]; exact hR.2, sg_words hts hok hj, by rw [sg_hw0 hh0]; exact List.mem_cons_self, hts _ (by rw [← sg_hw0 hh0]; exact hj), hts _ h3, hcl, fun sig h => by rw [h] at hpm; exact (Option.some.inj hpm).symm, hts _ h1⟩, hts _ h2⟩ ⟨hbl, hp⟩ rfl (by rw [List.length_map]; exact hlen) hJ.2.2.2.1.1 hst (lv_room (by rw [sg_cs_map]; exact hr8)) hd ⟨e1, e2⟩
  · trivial
theorem sg_ok_callSN {host : String} {j np nL index : Nat} (h1 : Cond.methodLinkNest (sg_Y P k).cls index (sg_Y P j) host ∈ Tw) (h2 : Cond.static (sg_Y P j) ∈ Tw) (hh0 : sg_hh P j = []) (hok : ∀ w ∈ Tw, sg_okw w = true) (hj : sg_hw P j ∈ Tw) (h3 : Cond.initialized (sg_Y P j).cls ∈ Tw) (hcl : (sg_Y P j).cls ≠ "java/lang/invoke/MethodHandle" ∧ (sg_Y P j).cls ≠ "java/lang/invoke/VarHandle") (hpm : (parseMethodDescriptor (sg_Y P j).desc).map (fun d => d.parameters.length) = some np) (hR : sg_fr P j + 1 ≤ sg_fr P k ∧ 8 + (sg_N P j + 11) + sg_lo P j ≤ sg_lo P k) (hN : sg_N P j = nL) (hd : decode (sg_C P k) pc = .ok (.invokestatic index, 3)) : sg_Ok D cl tys B b Ls xs Sx Ax P Tw k pc (sg_callS j np nL) := by
  intro p l e R s m args below meth c hF hC L st M μ H locs cells slots ls hJ
  obtain ⟨hx, hb, hml, hown, hts, hret, hlk, hfr, hlo, hnm, htr, htb⟩ := hF
  unfold sg_callS
  split
  · rename_i hcj
    obtain ⟨hlen, hr8, hn⟩ := hcj
    obtain ⟨w1, w2⟩ := sg_mem_tk rfl hJ.2.2.1
    refine ⟨w1, w2, by rw [sg_lg, hN]; exact hn, fun Pc Qc XC mc ms hM hbl hp e1 e2 => ?_⟩
    have hst : st.map (sg_v μ) = ((st.take np).reverse.map (sg_v μ)).reverse ++ (st.drop np).map (sg_v μ) := by
      rw [← List.map_reverse, List.reverse_reverse, ← List.map_append, List.take_append_drop]
    exact vx_runSN (As := (st.take np).reverse.map (sg_v μ)) (n := np) ⟨hx, hb, hml, hown, hts⟩ hM ⟨⟨⟨rfl, rfl, by rw [hfr]; exact hR.1, by rw [hlo]; exact hR.2, sg_words hts hok hj, by rw [sg_hw0 hh0]; exact List.mem_cons_self⟩, hts _ (by rw [← sg_hw0 hh0]; exact hj), hts _ h3, hcl, fun sig h => by rw [h] at hpm; exact (Option.some.inj hpm).symm, hts _ h1⟩, hts _ h2, trivial⟩ ⟨hbl, hp⟩ rfl (by rw [List.length_map]; exact hlen) hJ.2.2.2.1.1 hst (lv_room (by rw [sg_cs_map]; exact hr8)) hd ⟨e1, e2⟩
  · trivial
theorem sg_ok_callI {j np nL index : Nat} (h1 : Cond.methodLink (sg_Y P k).cls index (sg_Y P j) ∈ Tw) (h2 : Cond.instanceMethod (sg_Y P j) ∈ Tw) (hy1 : (sg_Y P j).name = "<init>") (hT : sg_T P j = none) (hh0 : sg_hh P j = []) (hok : ∀ w ∈ Tw, sg_okw w = true) (hj : sg_hw P j ∈ Tw) (h3 : Cond.initialized (sg_Y P j).cls ∈ Tw) (hcl : (sg_Y P j).cls ≠ "java/lang/invoke/MethodHandle" ∧ (sg_Y P j).cls ≠ "java/lang/invoke/VarHandle") (hpm : (parseMethodDescriptor (sg_Y P j).desc).map (fun d => d.parameters.length) = some np) (hR : sg_fr P j + 1 ≤ sg_fr P k ∧ 8 + (sg_N P j + 11) + sg_lo P j ≤ sg_lo P k) (hN : sg_N P j = nL) (hd : decode (sg_C P k) pc = .ok (.invokespecial index, 3)) : sg_Ok D cl tys B b Ls xs Sx Ax P Tw k pc (sg_callI j (np + 1) nL) := by
  intro p l e R s m args below meth c hF hC L st M μ H locs cells slots ls hJ
  obtain ⟨hx, hb, hml, hown, hts, hret, hlk, hfr, hlo, hnm, htr, htb⟩ := hF
  unfold sg_callI
  have hw0 := sg_hw0 hh0
  rw [hT] at hw0
  split
  · rename_i a As hav
    split
    · rename_i hcj
      obtain ⟨hlen, hr8, hn⟩ := hcj
      obtain ⟨w1, w2⟩ := sg_mem_tk hav hJ.2.2.1
      refine ⟨w1, w2, by rw [sg_lg, hN]; exact hn, fun Pc Qc XC mc ms hM hbl hp e1 e2 => ?_⟩
      have hst : st.map (sg_v μ) = (As.map (sg_v μ)).reverse ++ .ref (μ a) :: (st.drop (np + 1)).map (sg_v μ) := by
        conv => lhs; rw [sg_split hav]
        simp [sg_v]
      exact vx_runI (b := μ a) (As := As.map (sg_v μ)) (n := np) (maxL := sg_N P j) (bytes := sg_C P j) ⟨hx, hb, hml, hown, hts⟩ hM ⟨⟨rfl, rfl, by rw [hfr]; exact hR.1, by rw [hlo]; exact hR.2, sg_words hts hok hj, by rw [hw0]; exact List.mem_cons_self, hts _ (by rw [← hw0]; exact hj), hts _ h3, hcl, fun sig h => by rw [h] at hpm; exact (Option.some.inj hpm).symm, hts _ h1⟩, hy1, hts _ h2⟩ ⟨hbl, hp⟩ rfl (by rw [List.length_map]; omega) hJ.2.2.2.1.1 hst (lv_room (by rw [sg_cs_map]; exact hr8)) hd ⟨e1, e2⟩
    · trivial
  · trivial
theorem sg_ok_callIN {host : String} {j np nL index : Nat} (h1 : Cond.methodLinkNest (sg_Y P k).cls index (sg_Y P j) host ∈ Tw) (h2 : Cond.instanceMethod (sg_Y P j) ∈ Tw) (hy1 : (sg_Y P j).name = "<init>") (hT : sg_T P j = none) (hh0 : sg_hh P j = []) (hok : ∀ w ∈ Tw, sg_okw w = true) (hj : sg_hw P j ∈ Tw) (h3 : Cond.initialized (sg_Y P j).cls ∈ Tw) (hcl : (sg_Y P j).cls ≠ "java/lang/invoke/MethodHandle" ∧ (sg_Y P j).cls ≠ "java/lang/invoke/VarHandle") (hpm : (parseMethodDescriptor (sg_Y P j).desc).map (fun d => d.parameters.length) = some np) (hR : sg_fr P j + 1 ≤ sg_fr P k ∧ 8 + (sg_N P j + 11) + sg_lo P j ≤ sg_lo P k) (hN : sg_N P j = nL) (hd : decode (sg_C P k) pc = .ok (.invokespecial index, 3)) : sg_Ok D cl tys B b Ls xs Sx Ax P Tw k pc (sg_callI j (np + 1) nL) := by
  intro p l e R s m args below meth c hF hC L st M μ H locs cells slots ls hJ
  obtain ⟨hx, hb, hml, hown, hts, hret, hlk, hfr, hlo, hnm, htr, htb⟩ := hF
  unfold sg_callI
  have hw0 := sg_hw0 hh0
  rw [hT] at hw0
  split
  · rename_i a As hav
    split
    · rename_i hcj
      obtain ⟨hlen, hr8, hn⟩ := hcj
      obtain ⟨w1, w2⟩ := sg_mem_tk hav hJ.2.2.1
      refine ⟨w1, w2, by rw [sg_lg, hN]; exact hn, fun Pc Qc XC mc ms hM hbl hp e1 e2 => ?_⟩
      have hst : st.map (sg_v μ) = (As.map (sg_v μ)).reverse ++ .ref (μ a) :: (st.drop (np + 1)).map (sg_v μ) := by
        conv => lhs; rw [sg_split hav]
        simp [sg_v]
      exact vx_runIN (b := μ a) (As := As.map (sg_v μ)) (n := np) (maxL := sg_N P j) (bytes := sg_C P j) ⟨hx, hb, hml, hown, hts⟩ hM ⟨⟨⟨rfl, rfl, by rw [hfr]; exact hR.1, by rw [hlo]; exact hR.2, sg_words hts hok hj, by rw [hw0]; exact List.mem_cons_self⟩, hts _ (by rw [← hw0]; exact hj), hts _ h3, hcl, fun sig h => by rw [h] at hpm; exact (Option.some.inj hpm).symm, hts _ h1⟩, hy1, hts _ h2⟩ ⟨hbl, hp⟩ rfl (by rw [List.length_map]; omega) hJ.2.2.2.1.1 hst (lv_room (by rw [sg_cs_map]; exact hr8)) hd ⟨e1, e2⟩
    · trivial
  · trivial
theorem sg_ok_callSX {j np nL index : Nat} {h0 : Nat × Nat × Nat × Nat} {hs : List (Nat × Nat × Nat × Nat)} (h1 : Cond.methodLink (sg_Y P k).cls index (sg_Y P j) ∈ Tw) (h2 : Cond.static (sg_Y P j) ∈ Tw) (hh0 : sg_hh P j = h0 :: hs) (hok : ∀ w ∈ Tw, sg_okw w = true) (hj : sg_hw P j ∈ Tw) (h3 : Cond.initialized (sg_Y P j).cls ∈ Tw) (hcl : (sg_Y P j).cls ≠ "java/lang/invoke/MethodHandle" ∧ (sg_Y P j).cls ≠ "java/lang/invoke/VarHandle") (hpm : (parseMethodDescriptor (sg_Y P j).desc).map (fun d => d.parameters.length) = some np) (hR : sg_fr P j + 1 ≤ sg_fr P k ∧ 8 + (sg_N P j + 11) + sg_lo P j ≤ sg_lo P k) (hN : sg_N P j = nL) (hd : decode (sg_C P k) pc = .ok (.invokestatic index, 3)) : sg_Ok D cl tys B b Ls xs Sx Ax P Tw k pc (sg_callS j np nL) := by
  intro p l e R s m args below meth c hF hC L st M μ H locs cells slots ls hJ
  obtain ⟨hx, hb, hml, hown, hts, hret, hlk, hfr, hlo, hnm, htr, htb⟩ := hF
  unfold sg_callS
  have hw0 : sg_hw P j = .codeWith (sg_Y P j) (sg_C P j) (sg_N P j) (sg_T P j) (h0 :: hs) := by
    unfold sg_hw
    rw [hh0]
  split
  · rename_i hcj
    obtain ⟨hlen, hr8, hn⟩ := hcj
    obtain ⟨w1, w2⟩ := sg_mem_tk rfl hJ.2.2.1
    refine ⟨w1, w2, by rw [sg_lg, hN]; exact hn, fun Pc Qc XC mc ms hM hbl hp e1 e2 => ?_⟩
    have hst : st.map (sg_v μ) = ((st.take np).reverse.map (sg_v μ)).reverse ++ (st.drop np).map (sg_v μ) := by
      rw [← List.map_reverse, List.reverse_reverse, ← List.map_append, List.take_append_drop]
    exact vx_runSX (As := (st.take np).reverse.map (sg_v μ)) (n := np) (hh := h0 :: hs) (maxL := sg_N P j) (bytes := sg_C P j) (ret := sg_T P j) ⟨hx, hb, hml, hown, hts⟩ hM ⟨⟨rfl, rfl, by rw [hfr]; exact hR.1, by rw [hlo]; exact hR.2, sg_words hts hok hj, by rw [hw0]; exact List.mem_cons_self⟩, hts _ (by rw [← hw0]; exact hj), hts _ h3, hcl, fun sig h => by rw [h] at hpm; exact (Option.some.inj hpm).symm, hts _ h1, hts _ h2⟩ ⟨hbl, hp⟩ rfl (by rw [List.length_map]; exact hlen) hJ.2.2.2.1.1 hst (lv_room (by rw [sg_cs_map]; exact hr8)) hd ⟨e1, e2⟩
  · trivial
def sg_thr (P : sg_P) (k E : Nat) : sg_F := fun L st M => if sg_cs st + 82 ≤ sg_lo P k then some (.inr (.inr (.inr E))) else none
theorem sg_ok_thr {E ik is ic : Nat} {text : String} {names : List String} (hh0 : sg_hh P k = []) (hfit : Bundle.fit (sg_nm E) = true) (hnames : ∀ n ∈ names, Bundle.fit n = true) (hn2 : names.length = 2) (h1 : Cond.classLink (sg_Y P k).cls ik (sg_nm E) ∈ Tw) (h2 : Cond.initialized (sg_nm E) ∈ Tw) (hz : ((sg_Y P k).cls, is, text) ∈ Sx) (hat : ∀ w ∈ vx_atS (sg_Y P k).cls ic (sg_nm E) names, w ∈ Tw) (hgood : ∀ w ∈ Cond.classLink (sg_Y P k).cls ik (sg_nm E) :: Cond.initialized (sg_nm E) :: vx_atS (sg_Y P k).cls ic (sg_nm E) names, vx_ot w = true) (hR : 5 < sg_fr P k) (d0 : decode (sg_C P k) pc = .ok (.new ik, 3)) (d3 : decode (sg_C P k) (pc + 3) = .ok (.dup, 1)) (d4 : decode (sg_C P k) (pc + 4) = .ok (.ldc is, 2)) (d7 : decode (sg_C P k) (pc + 6) = .ok (.invokespecial ic, 3)) (d10 : decode (sg_C P k) (pc + 9) = .ok (.athrow, 1)) : sg_Ok D cl tys B b Ls xs Sx Ax P Tw k pc (sg_thr P k E) := by
  intro p l e R s m args below meth c hF hC L st M μ H locs cells slots ls hJ
  obtain ⟨hx, hb, hml, hown, hts, hret, hlk, hfr, hlo, hnm, htr, htb⟩ := hF
  unfold sg_thr
  split
  · rename_i hcs
    intro Qc XC free mc ms hX hf e1 e2 e3 e4
    obtain ⟨sa, hsa⟩ := hC.2.2.2.2.2.2.1 _ hz
    exact vx_throwS (names := names) hx hb htr hown hfit hnames (hts _ h1) (hts _ h2) hsa (fun w hw => hts w (hat w hw)) hgood hC.2.2.2.2.1 hC.2.2.2.2.2.1 hJ.2.2.2.2 (hJ.2.2.2.1.1.trans hml.symm) d0 d3 d4 d7 d10 (fun x hx9 => by rw [htb, hh0] at hx9; cases hx9) (by rw [hfr, hn2]; exact hR) (by rw [hlo, sg_cs_map, hn2]; exact hcs) e3 e4 hlk hX hf e1 e2
  · trivial
theorem sg_ok_thrW {E ik is ic : Nat} {text : String} {names : List String} (hh0 : sg_hh P k = []) (hfit : Bundle.fit (sg_nm E) = true) (hnames : ∀ n ∈ names, Bundle.fit n = true) (hn2 : names.length = 2) (h1 : Cond.classLink (sg_Y P k).cls ik (sg_nm E) ∈ Tw) (h2 : Cond.initialized (sg_nm E) ∈ Tw) (hz : ((sg_Y P k).cls, is, text) ∈ Sx) (hat : ∀ w ∈ vx_atS (sg_Y P k).cls ic (sg_nm E) names, w ∈ Tw) (hgood : ∀ w ∈ Cond.classLink (sg_Y P k).cls ik (sg_nm E) :: Cond.initialized (sg_nm E) :: vx_atS (sg_Y P k).cls ic (sg_nm E) names, vx_ot w = true) (hR : 5 < sg_fr P k) (d0 : decode (sg_C P k) pc = .ok (.new ik, 3)) (d3 : decode (sg_C P k) (pc + 3) = .ok (.dup, 1)) (d4 : decode (sg_C P k) (pc + 4) = .ok (.ldc_w is, 3)) (d7 : decode (sg_C P k) (pc + 7) = .ok (.invokespecial ic, 3)) (d10 : decode (sg_C P k) (pc + 10) = .ok (.athrow, 1)) : sg_Ok D cl tys B b Ls xs Sx Ax P Tw k pc (sg_thr P k E) := by
  intro p l e R s m args below meth c hF hC L st M μ H locs cells slots ls hJ
  obtain ⟨hx, hb, hml, hown, hts, hret, hlk, hfr, hlo, hnm, htr, htb⟩ := hF
  unfold sg_thr
  split
  · rename_i hcs
    intro Qc XC free mc ms hX hf e1 e2 e3 e4
    obtain ⟨sa, hsa⟩ := hC.2.2.2.2.2.2.1 _ hz
    exact vx_throwSW (names := names) hx hb htr hown hfit hnames (hts _ h1) (hts _ h2) hsa (fun w hw => hts w (hat w hw)) hgood hC.2.2.2.2.1 hC.2.2.2.2.2.1 hJ.2.2.2.2 (hJ.2.2.2.1.1.trans hml.symm) d0 d3 d4 d7 d10 (fun x hx9 => by rw [htb, hh0] at hx9; cases hx9) (by rw [hfr, hn2]; exact hR) (by rw [hlo, sg_cs_map, hn2]; exact hcs) e3 e4 hlk hX hf e1 e2
  · trivial
end
end SGD
end
section
section SGE
theorem sg_args_map {μ : Nat → Nat} : ∀ (vs : List Value) (i : Nat), (lv_args i vs).map (fun q => (q.1, sg_v μ q.2)) = lv_args i (vs.map (sg_v μ))
  | [], i => rfl
  | v :: vs, i => by
    show (i, sg_v μ v) :: (lv_args (if v.category = 2 then i + 2 else i + 1) vs).map _ = (i, sg_v μ v) :: lv_args (if (sg_v μ v).category = 2 then i + 2 else i + 1) (vs.map (sg_v μ))
    rw [sg_args_map vs, sg_cat]
theorem sg_args_w {n : Nat} : ∀ (vs : List Value) (i : Nat), (∀ v ∈ vs, sg_wV n v) → ∀ q ∈ lv_args i vs, sg_wV n q.2
  | [], i, _, q, hq => by cases hq
  | v :: vs, i, h, q, hq => by
    rcases List.mem_cons.mp hq with rfl | hq
    · exact (sg_c1 h).1
    · exact sg_args_w vs _ (sg_c1 h).2 q hq
def sg_Pc (D : va_G) (cl : List vw_C) (tys : List (ClassId × FieldType)) (B : Nat) (b : Nat → Nat) (Ls : Nat) (xs : Nat → Int32) (Sx : List (String × Nat × String)) (Ax : List String) (Nx : List (String × String)) (av : List Value) (μ : Nat → Nat) (M : sg_M) : Array Value → State → Prop := fun a U =>
  a = (av.map (sg_v μ)).toArray ∧ sg_I D cl tys B b μ M U.heap ∧ sg_Cx D cl tys B b Ls xs Sx Ax U U.heap ∧ (∀ z ∈ Nx, va_Nc z.1 z.2 U) ∧ ∀ v ∈ av, sg_wV M.2 v
def sg_Qc (D : va_G) (cl : List vw_C) (tys : List (ClassId × FieldType)) (B : Nat) (b : Nat → Nat) (r : Option Value ⊕ Nat) (μ : Nat → Nat) (M M1 : sg_M) : Array Value → State → Outcome → State → Prop := fun _ st o t =>
  ∃ (v : Option Value) (μ1 : Nat → Nat), r = .inl v ∧ o = .returned (v.map (sg_v μ1)) ∧ sg_X μ μ1 M.2 ∧ M.2 ≤ M1.2 ∧ sg_I D cl tys B b μ1 M1 t.heap ∧ (∀ x, v = some x → sg_wV M1.2 x) ∧ va_F (sg_A B) st t
def sg_XC (D : va_G) (cl : List vw_C) (tys : List (ClassId × FieldType)) (B : Nat) (b : Nat → Nat) (r : Option Value ⊕ Nat) (μ : Nat → Nat) (M M1 : sg_M) : String → State → State → Prop := fun E st t =>
  ∃ (En : Nat) (μ1 : Nat → Nat), r = .inr En ∧ E = sg_nm En ∧ sg_X μ μ1 M.2 ∧ M.2 ≤ M1.2 ∧ sg_I D cl tys B b μ1 M1 t.heap ∧ va_F (sg_A B) st t
/-- each method at most n steps deep keeps its word -/
def sg_Con (tab : Nat → Nat → Option sg_F) (hd : Nat → Nat → Nat → Option (Option Nat)) (D : va_G) (cl : List vw_C) (tys : List (ClassId × FieldType)) (B : Nat) (b : Nat → Nat) (Ls : Nat) (xs : Nat → Int32) (Sx : List (String × Nat × String)) (Ax : List String) (Nx : List (String × String)) (P : sg_P) (Tw : List Cond) (l : Launch) (n : Nat) : Prop :=
  ∀ (j : Nat) (av : List Value) (M : sg_M) (r : Option Value ⊕ Nat) (M1 : sg_M) (mc ms : Nat), sg_ev tab hd n j 0 (lv_args 0 av) [] M = some (r, M1, mc, ms) → (lg_sl av).length ≤ sg_N P j → ∀ μ : Nat → Nat,
    vx_Met l (sg_Y P j) (sg_hw P j :: Tw) ⟨sg_fr P j, mc, ms, sg_lo P j⟩ (sg_Pc D cl tys B b Ls xs Sx Ax Nx av μ M) (sg_Qc D cl tys B b r μ M M1) (sg_XC D cl tys B b r μ M M1) mc ms (sg_A B)
/-- what the handlers' table says is so -/
def sg_Hd (hd : Nat → Nat → Nat → Option (Option Nat)) (Nx : List (String × String)) (P : sg_P) (Tw : List Cond) : Prop := ∀ k pc E : Nat,
  (hd k pc E = some none → ∀ z ∈ tableOf (sg_hh P k), covers z pc = false) ∧
  ∀ h : Nat, hd k pc E = some (some h) → ∃ (pre : List ExceptionTableEntry) (x : ExceptionTableEntry) (suf : List ExceptionTableEntry) (nm : String), tableOf (sg_hh P k) = pre ++ x :: suf ∧ x.handlerPc = h ∧ covers x pc = true ∧ x.catchType ≠ 0 ∧ Cond.classLink (sg_Y P k).cls x.catchType nm ∈ Tw ∧ Cond.castable (sg_nm E) nm ∈ Tw ∧
    ∀ z ∈ pre, covers z pc = false ∨ (z.catchType ≠ 0 ∧ ∃ n1 : String, Cond.classLink (sg_Y P k).cls z.catchType n1 ∈ Tw ∧ (sg_nm E, n1) ∈ Nx)
/-- the ends of a walk -/
def sg_End (tab : Nat → Nat → Option sg_F) (hd : Nat → Nat → Nat → Option (Option Nat)) (D : va_G) (cl : List vw_C) (tys : List (ClassId × FieldType)) (B : Nat) (b : Nat → Nat) (P : sg_P) (k : Nat) (p : Program) (l : Launch) (e : Env) (R : Room) (s : State) (m : MethodId) (args : Array Value) (below : List Frame) (meth : Method) (c : Code) (Q : State → Prop) (r : Option Value ⊕ Nat) (Mf : sg_M) (mc ms : Nat) (μ0 : Nat → Nat) (n0 : Nat) : Prop :=
  (∀ (pc : Nat) (f : sg_F) (L : sg_L) (st : List Value) (μ : Nat → Nat) (H : Heap) (locs : List Loc) (ls : Array Slot) (cells slots : Nat) (v : Option Value), tab k pc = some f → f L st Mf = some (.inr (.inr (.inl v))) → r = .inl v → sg_J D cl tys B b (sg_N P k) s μ Mf H ls L st locs → sg_X μ0 μ n0 → n0 ≤ Mf.2 → cells ≤ mc → slots ≤ ms → W p l e R s m args below meth c H locs cells slots Q (F0 m pc ls (st.map (sg_v μ)))) ∧
  (∀ (pc : Nat) (f : sg_F) (L : sg_L) (st : List Value) (μ : Nat → Nat) (H : Heap) (locs : List Loc) (ls : Array Slot) (cells slots : Nat) (E : Nat), tab k pc = some f → f L st Mf = some (.inr (.inr (.inr E))) → r = .inr E → sg_J D cl tys B b (sg_N P k) s μ Mf H ls L st locs → sg_X μ0 μ n0 → n0 ≤ Mf.2 → cells + 1 ≤ mc → slots + 6 ≤ ms → W p l e R s m args below meth c H locs cells slots Q (F0 m pc ls (st.map (sg_v μ)))) ∧
  (∀ (pc : Nat) (rest : List Value) (μ : Nat → Nat) (H : Heap) (locs : List Loc) (ls : Array Slot) (cells slots : Nat) (E : Nat) (ce : Cell) (q : Addr), hd k pc E = some none → r = .inr E → sg_I D cl tys B b μ Mf H → va_S (sg_A B) s.heap H locs → sg_X μ0 μ n0 → n0 ≤ Mf.2 → H[q]? = some ce → ce.vm = .none → s.vm.findClass (sg_nm E) = some ce.cls → cells ≤ mc → slots ≤ ms → vx_W p l e R s m args below meth c H locs cells slots Q (F0 m pc ls rest) q)
section
variable {tab : Nat → Nat → Option sg_F} {hd : Nat → Nat → Nat → Option (Option Nat)} {D : va_G} {cl : List vw_C} {tys : List (ClassId × FieldType)} {B : Nat} {b : Nat → Nat} {Ls : Nat} {xs : Nat → Int32} {Sx : List (String × Nat × String)} {Ax : List String} {Nx : List (String × String)} {P : sg_P} {Tw : List Cond} {l : Launch}
theorem sg_blind {av : List Value} {μ : Nat → Nat} {M : sg_M} : FrameBlind (sg_Pc D cl tys B b Ls xs Sx Ax Nx av μ M) := fun a U g mk h => ⟨h.1, h.2.1, h.2.2.1.same rfl, h.2.2.2.1, h.2.2.2.2⟩
set_option maxHeartbeats 4000000 in
theorem sg_run (hok : ∀ k pc f, tab k pc = some f → sg_Ok D cl tys B b Ls xs Sx Ax P Tw k pc f) (hhd : sg_Hd hd Nx P Tw) (N : Nat) (hcon : ∀ i, i < N → sg_Con tab hd D cl tys B b Ls xs Sx Ax Nx P Tw l i)
    {k : Nat} {p : Program} {e : Env} {R : Room} {s : State} {m : MethodId} {args : Array Value} {below : List Frame} {meth : Method} {c : Code} {Q : State → Prop} {r : Option Value ⊕ Nat} {Mf : sg_M} {mc ms : Nat} {μ0 : Nat → Nat} {n0 : Nat} (hF : sg_Fr P Tw k p l R s m args meth c) (hC : sg_Cx D cl tys B b Ls xs Sx Ax s s.heap) (hNx : ∀ z ∈ Nx, va_Nc z.1 z.2 s) (hmc : mc ≤ R.cells) (hms : ms ≤ R.slots)
    (hE : sg_End tab hd D cl tys B b P k p l e R s m args below meth c Q r Mf mc ms μ0 n0) :
    ∀ (n : Nat), n ≤ N → ∀ (pc : Nat) (L : sg_L) (st : List Value) (M : sg_M) (c0 s0 : Nat), sg_ev tab hd n k pc L st M = some (r, Mf, c0, s0) → ∀ (μ : Nat → Nat) (H : Heap) (locs : List Loc) (cells slots : Nat) (ls : Array Slot), sg_J D cl tys B b (sg_N P k) s μ M H ls L st locs → sg_X μ0 μ n0 → n0 ≤ M.2 → cells + c0 ≤ mc → slots + s0 ≤ ms → W p l e R s m args below meth c H locs cells slots Q (F0 m pc ls (st.map (sg_v μ))) := by
  intro n
  induction n with
  | zero => intro _ pc L st M c0 s0 hev; cases hev
  | succ n ih =>
    intro hnN pc L st M c0 s0 hev μ H locs cells slots ls hJ hX hn0 hc0 hs0
    have ih := ih (by omega)
    unfold sg_ev at hev
    split at hev
    · cases hev
    · rename_i f hf
      have hr := hok k pc f hf p l e R s m args below meth c hF hC L st M μ H locs cells slots ls hJ
      split at hev
      · cases hev
      · rename_i pc1 L1 st1 M1 dc ds hfe
        rw [hfe] at hr
        obtain ⟨hle, hr⟩ := hr
        split at hev
        · cases hev
        · rename_i r2 M2 c2 s2 hev2
          cases hev
          exact hr Q (by omega) (by omega) fun μ1 H1 locs1 ls1 hX1 hJ1 => ih pc1 L1 st1 M1 c2 s2 hev2 μ1 H1 locs1 _ _ ls1 hJ1 (hX.tr hX1 hn0) (Nat.le_trans hn0 hle) (by omega) (by omega)
      · rename_i j av rest hfe
        rw [hfe] at hr
        obtain ⟨w1, w2, hlen, hr⟩ := hr
        split at hev
        · cases hev
        · rename_i v M1 c1 s1 hcall
          split at hev
          · cases hev
          · rename_i r2 M2 c2 s2 hev2
            cases hev
            have hM := hcon n (by omega) j av M _ M1 c1 s1 hcall hlen μ
            have hrun := hr _ _ _ c1 s1 hM sg_blind (fun U hU hW => ⟨rfl, by rw [hU]; exact hJ.1, by rw [hU]; exact hC.moved hW hJ.2.2.2.2.1 hJ.2.2.2.2.2.1, fun z hz => (hNx z hz).moved hW.alike, w1⟩) (by omega) (by omega)
            intro T hT X
            rcases hrun T hT X with ⟨vo, st₀, t, T1, L9, h0, X1, hL9, e1, e2, ⟨v9, μ1, hr9, ho, hX1, hle, hI1, hwv, hFr⟩, goes⟩ | ⟨q, st₀, t, T1, L9, E, ce, h0, X1, hL9, e1, e2, ⟨En, μ1, hr9, -⟩, -⟩
            · cases hr9
              cases ho
              obtain ⟨k1, k2, k3⟩ := vx_keep h0 e1 hJ.2.2.2.2 (fun q _ h => h) (fun q h => h) hL9 hFr
              have hst : (v.map (sg_v μ1)).toList ++ rest.map (sg_v μ) = (v.toList ++ rest).map (sg_v μ1) := by
                rw [List.map_append, sg_vs_x w2 hX1]
                cases v <;> rfl
              have hwst : ∀ x ∈ v.toList ++ rest, sg_wV M1.2 x := fun x hx => by
                rcases List.mem_append.mp hx with z | z
                · cases v with
                  | none => cases z
                  | some y => rcases List.mem_singleton.mp z with rfl; exact hwv _ rfl
                · exact (w2 x z).mono hle
              have hk := ih (pc + 3) L (v.toList ++ rest) M1 c2 s2 hev2 μ1 T1.heap (locs ++ L9) (cells + c1) (slots + s1) ls ⟨by rw [e1]; exact hI1, fun z hz => (hJ.2.1 z hz).mono hle, hwst, by rw [sg_ls_x hJ.2.1 hX1]; exact hJ.2.2.2.1, k3⟩ (hX.tr hX1 hn0) (Nat.le_trans hn0 hle) (by omega) (by omega)
              obtain ⟨t2, a1, b1⟩ := hk T1 rfl X1
              exact ⟨t2, goes t2 (by rw [hst]; exact a1), b1⟩
            · cases hr9
        · rename_i En M1 c1 s1 hcall
          have hM := hcon n (by omega) j av M _ M1 c1 s1 hcall hlen μ
          have hexc : ∀ (_ : c1 ≤ c0) (_ : s1 ≤ s0), (∀ (μ1 : Nat → Nat) (H1 : Heap) (locs1 : List Loc) (ce : Cell) (q : Addr), sg_I D cl tys B b μ1 M1 H1 → va_S (sg_A B) s.heap H1 locs1 → sg_X μ μ1 M.2 → M.2 ≤ M1.2 → H1[q]? = some ce → ce.vm = .none → s.vm.findClass (sg_nm En) = some ce.cls → vx_W p l e R s m args below meth c H1 locs1 (cells + c1) (slots + s1) Q (F0 m pc ls (rest.map (sg_v μ))) q) → W p l e R s m args below meth c H locs cells slots Q (F0 m pc ls (st.map (sg_v μ))) := by
            intro hl1 hl2 kx
            have hrun := hr _ _ _ c1 s1 hM sg_blind (fun U hU hW => ⟨rfl, by rw [hU]; exact hJ.1, by rw [hU]; exact hC.moved hW hJ.2.2.2.2.1 hJ.2.2.2.2.2.1, fun z hz => (hNx z hz).moved hW.alike, w1⟩) (by omega) (by omega)
            intro T hT X
            rcases hrun T hT X with ⟨vo, st₀, t, T1, L9, h0, X1, hL9, e1, e2, ⟨v9, μ1, hr9, -⟩, goes⟩ | ⟨q, st₀, t, T1, L9, E, ce, h0, X1, hL9, e1, e2, ⟨E9, μ1, hr9, hE9, hX1, hle, hI1, hFr⟩, hce, hcv, hcl, goes⟩
            · cases hr9
            · cases hr9
              subst hE9
              obtain ⟨k1, k2, k3⟩ := vx_keep h0 e1 hJ.2.2.2.2 (fun q _ h => h) (fun q h => h) hL9 hFr
              obtain ⟨t2, a1, b1⟩ := kx μ1 T1.heap (locs ++ L9) ce q (by rw [e1]; exact hI1) k3 hX1 hle (by rw [e1]; exact hce) hcv hcl T1 rfl X1
              exact ⟨t2, goes.trans a1, b1⟩
          split at hev
          · cases hev
          · rename_i hhn
            cases hev
            exact hexc (Nat.le_refl _) (Nat.le_refl _) fun μ1 H1 locs1 ce q hI1 hS1 hX1 hle hce hcv hcl => hE.2.2 pc _ μ1 H1 locs1 ls _ _ En ce q hhn rfl hI1 hS1 (hX.tr hX1 hn0) (Nat.le_trans hn0 hle) hce hcv hcl hc0 hs0
          · rename_i h hhs
            split at hev
            · cases hev
            · rename_i r2 M2 c2 s2 hev2
              cases hev
              obtain ⟨hx, hb, hml, hown, hts, hret, hlk, hfr, hlo, hnm, htr, htb⟩ := id hF
              obtain ⟨pre, x, suf, nm, t1, t2, t3, t4, t5, t6, t7⟩ := (hhd k pc En).2 h hhs
              refine hexc (by omega) (by omega) fun μ1 H1 locs1 ce q hI1 hS1 hX1 hle hce hcv hcl => ?_
              obtain ⟨i1, i2⟩ := hI1.skip q
              have hX2 : sg_X μ _ M.2 := hX1.tr i2 hle
              have hk := ih h L [.ref M1.2] (M1.1, M1.2 + 1) c2 s2 hev2 _ H1 locs1 (cells + c1) (slots + s1) ls ⟨i1, fun z hz => (hJ.2.1 z hz).mono (Nat.le_succ_of_le hle), sg_cc (fun a e => by rcases e with e | e <;> cases e <;> exact Nat.lt_succ_self _) (fun _ h9 => nomatch h9), by rw [sg_ls_x hJ.2.1 hX2]; exact hJ.2.2.2.1, hS1⟩ (hX.tr hX2 hn0) (Nat.le_trans hn0 (Nat.le_succ_of_le hle)) (by omega) (by omega)
              have e8 : ([.ref M1.2] : List Value).map (sg_v (fun x => if x = M1.2 then q else μ1 x)) = [.ref q] := by
                show [Value.ref (if M1.2 = M1.2 then q else μ1 M1.2)] = _
                rw [if_pos rfl]
              rw [e8, ← t2] at hk
              exact vx_catch hown pre x suf (htb.trans t1) (fun z hz => by
                rcases t7 z hz with z1 | ⟨z1, n1, z2, z3⟩
                · exact Or.inl z1
                · exact Or.inr ⟨z1, n1, hts _ z2, hNx _ z3⟩) t3 t4 (hts _ t5) (hts _ t6) hce hcv hcl hk
      · rename_i v hfe
        cases hev
        exact hE.1 pc f L st μ H locs ls cells slots v hf hfe rfl hJ hX hn0 (by omega) (by omega)
      · rename_i E hfe
        cases hev
        exact hE.2.1 pc f L st μ H locs ls cells slots E hf hfe rfl hJ hX hn0 hc0 hs0
/-- the ends of a method's own walk -/
theorem sg_ends (hok : ∀ k pc f, tab k pc = some f → sg_Ok D cl tys B b Ls xs Sx Ax P Tw k pc f) (hhd : sg_Hd hd Nx P Tw) {k : Nat} {p : Program} {e : Env} {R : Room} {s : State} {m : MethodId} {args : Array Value} {below : List Frame} {meth : Method} {c : Code} {r : Option Value ⊕ Nat} {Mf M : sg_M} {mc ms : Nat} {μ : Nat → Nat} (hF : sg_Fr P Tw k p l R s m args meth c) (hC : sg_Cx D cl tys B b Ls xs Sx Ax s s.heap) (hmc : mc ≤ R.cells) (hms : ms ≤ R.slots) :
    sg_End tab hd D cl tys B b P k p l e R s m args below meth c (vx_MQ below (sg_Qc D cl tys B b r μ M Mf) (sg_XC D cl tys B b r μ M Mf) args s mc ms (sg_A B)) r Mf mc ms μ M.2 := by
  refine ⟨fun pc f L st μ1 H locs ls cells slots v hf hfe hrv hJ hX hn0 h1 h2 => ?_, fun pc f L st μ1 H locs ls cells slots E hf hfe hrv hJ hX hn0 h1 h2 => ?_, fun pc rest μ1 H locs ls cells slots E ce q hhn hrv hI hS hX hn0 hce hcv hcl h1 h2 => ?_⟩
  · refine W.widen h1 h2 ?_
    have hr := hok k pc f hf p l e R s m args below meth c hF hC L st Mf μ1 H locs mc ms ls hJ
    rw [hfe] at hr
    exact hr.2 _ _ _ (fun t ht hW => ⟨v, μ1, hrv, rfl, hX, hn0, by rw [ht]; exact hJ.1, hr.1, hJ.2.2.2.2.F ht⟩) hJ.2.2.2.2.2.2
  · have hr := hok k pc f hf p l e R s m args below meth c hF hC L st Mf μ1 H locs cells slots ls hJ
    rw [hfe] at hr
    refine hr _ _ _ mc ms (fun t hA hz hq => ⟨E, μ1, hrv, rfl, hX, hn0, ?_, ?_⟩) hJ.2.2.2.2.2.2 h1 h2 (by omega) (by omega)
    · exact ⟨fun a e9 he => by
        obtain ⟨q1, q2, q3, q4⟩ := hJ.1.1 a e9 he
        exact ⟨q1, q2, q3.kept (hq _ q3.lt), q4⟩, hJ.1.2⟩
    · exact ⟨Nat.le_trans hJ.2.2.2.2.1 hz, fun q g1 g2 => (hq q (Nat.lt_of_lt_of_le g1 hJ.2.2.2.2.1)).trans (hJ.2.2.2.2.2.1 q g1 g2)⟩
  · obtain ⟨hx, hb, hml, hown, hts, hret, hlk, hfr, hlo, hnm, htr, htb⟩ := hF
    exact vx_out (fun z hz => (hhd k pc E).1 hhn z (by rw [← htb]; exact hz)) hlk hce hcv hcl (fun t ht hA => ⟨E, μ1, hrv, rfl, hX, hn0, by rw [ht]; exact hI, hS.F ht⟩) hS.2.2 h1 h2
set_option maxHeartbeats 4000000 in
theorem sg_sound (hok : ∀ k pc f, tab k pc = some f → sg_Ok D cl tys B b Ls xs Sx Ax P Tw k pc f) (hhd : sg_Hd hd Nx P Tw) (hpl : ∀ k pc f, tab k pc = some f → plainName (sg_Y P k).cls = true) (hst : l.stackTraces = false) : ∀ n : Nat, sg_Con tab hd D cl tys B b Ls xs Sx Ax Nx P Tw l n := by
  intro n
  induction n using Nat.strongRecOn with
  | ind n ih =>
    intro j av M r M1 mc ms hev hlen μ
    have hy : plainName (sg_Y P j).cls = true := by
      cases n with
      | zero => cases hev
      | succ n =>
        unfold sg_ev at hev
        split at hev
        · cases hev
        · rename_i f hf
          exact hpl j 0 f hf
    have body : ∀ (p : Program) (e : Env) (s : State) (m : MethodId) (args : Array Value) (below : List Frame) (meth : Method) (c : Code), sg_Fr P Tw j p l ⟨sg_fr P j, mc, ms, sg_lo P j⟩ s m args meth c → sg_Pc D cl tys B b Ls xs Sx Ax Nx av μ M args s → W p l e ⟨sg_fr P j, mc, ms, sg_lo P j⟩ s m args below meth c s.heap [] 0 0 (vx_MQ below (sg_Qc D cl tys B b r μ M M1) (sg_XC D cl tys B b r μ M M1) args s mc ms (sg_A B)) (entryFrame m args (sg_N P j)) := by
      intro p e s m args below meth c hF hPc
      obtain ⟨rfl, hI, hC, hNx, hwa⟩ := hPc
      have hl := lv_entry (av.map (sg_v μ)) (n := sg_N P j) (by rw [sg_lg] at hlen ⊢; rw [show sg_cs (av.map (sg_v μ)) = sg_cs av from sg_cs_map]; exact hlen)
      rw [lg_entry_eq]
      rw [← sg_args_map] at hl
      exact sg_run (mc := mc) (ms := ms) hok hhd n ih hF hC hNx (Nat.le_refl _) (Nat.le_refl _) (sg_ends hok hhd hF hC (Nat.le_refl _) (Nat.le_refl _)) n (Nat.le_refl _) 0 (lv_args 0 av) [] M mc ms hev μ s.heap [] 0 0 _ ⟨hI, sg_args_w av 0 hwa, fun _ h => (nomatch h), hl, va_S.rf⟩ sg_X.rf (Nat.le_refl _) (by omega) (by omega)
    cases hh : sg_hh P j with
    | nil =>
      refine vx_ofW (cc := sg_C P j) (maxL := sg_N P j) (ret := sg_T P j) hy (by rw [sg_hw0 hh]) ?_
      intro p e s m args below meth c s₁ BB hml ht hPc
      exact body p e s m args below meth c ⟨BB.exec, BB.bytes, hml, findClass_of_methodNamed BB.named, fun w hw => atoms_spec (ws := sg_hw P j :: Tw) BB.pre w (List.mem_cons_of_mem _ hw), BB.returns, BB.notSynchronized, rfl, rfl, (name_of_methodNamed BB.named BB.method).1, hst, by
        rw [hh]
        cases he : c.exceptionTable.toList with
        | nil => rfl
        | cons x xs9 => exact (ht x (by rw [he]; exact List.mem_cons_self)).elim⟩ hPc
    | cons h0 hs =>
      have hw : sg_hw P j = .codeWith (sg_Y P j) (sg_C P j) (sg_N P j) (sg_T P j) (h0 :: hs) := by
        unfold sg_hw
        rw [hh]
      refine vx_ofWH (cc := sg_C P j) (maxL := sg_N P j) (ret := sg_T P j) (hh := h0 :: hs) hy (by rw [hw]) ?_
      intro p e s m args below meth c s₁ BB hml hPc
      have hts := atoms_spec (ws := sg_hw P j :: Tw) BB.pre
      have hcw : (Cond.codeWith (sg_Y P j) (sg_C P j) (sg_N P j) (sg_T P j) (h0 :: hs)).before args s = true := by
        have h9 := hts _ List.mem_cons_self
        rw [hw] at h9
        exact h9
      have htb : c.exceptionTable.toList = tableOf (sg_hh P j) := by
        rw [hh]
        exact vx_table (x := sg_Y P j) BB hcw
      exact body p e s m args below meth c ⟨BB.exec, BB.bytes, hml, findClass_of_methodNamed BB.named, fun w hw => hts w (List.mem_cons_of_mem _ hw), BB.returns, BB.notSynchronized, rfl, rfl, (name_of_methodNamed BB.named BB.method).1, hst, htb⟩ hPc
end
end SGE
end
