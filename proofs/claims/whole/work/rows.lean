section
-- ===== PART A: goes FIRST, ahead of the names: the tables' words, and 'selects' of the private methods out of them =====
/-- a private method of a class that the tables say can be made, by its rows of tables_1 -/
def lw_okq (q : MethodName × Nat) : Prop := (q.1.cls ≠ "java/lang/invoke/MethodHandle" ∧ q.1.cls ≠ "java/lang/invoke/VarHandle") ∧ Cond.instantiable q.1.cls q.2 ∈ tables_1 ∧ Cond.privateMethod q.1 ∈ tables_1 ∧ Cond.instanceMethod q.1 ∈ tables_1
theorem lw_p0 : lw_okq (⟨"BoardEnds$Grid", "fillSteps", "()V"⟩, 7) := ⟨⟨by decide +kernel, by decide +kernel⟩, List.mem_of_getElem? (i := 23) (by decide +kernel), List.mem_of_getElem? (i := 29) (by decide +kernel), List.mem_of_getElem? (i := 30) (by decide +kernel)⟩
theorem lw_p1 : lw_okq (⟨"BoardEnds$Grid", "fillPairs", "()V"⟩, 7) := ⟨⟨by decide +kernel, by decide +kernel⟩, List.mem_of_getElem? (i := 23) (by decide +kernel), List.mem_of_getElem? (i := 39) (by decide +kernel), List.mem_of_getElem? (i := 40) (by decide +kernel)⟩
theorem lw_p2 : lw_okq (⟨"BoardEnds$Grid", "fillImages", "()V"⟩, 7) := ⟨⟨by decide +kernel, by decide +kernel⟩, List.mem_of_getElem? (i := 23) (by decide +kernel), List.mem_of_getElem? (i := 43) (by decide +kernel), List.mem_of_getElem? (i := 44) (by decide +kernel)⟩
theorem lw_p3 : lw_okq (⟨"BoardEnds$History", "dropOldest", "()V"⟩, 2) := ⟨⟨by decide +kernel, by decide +kernel⟩, List.mem_of_getElem? (i := 205) (by decide +kernel), List.mem_of_getElem? (i := 288) (by decide +kernel), List.mem_of_getElem? (i := 289) (by decide +kernel)⟩
theorem lw_p4 : lw_okq (⟨"BoardEnds", "errorOf", "(IIII)I"⟩, 11) := ⟨⟨by decide +kernel, by decide +kernel⟩, List.mem_of_getElem? (i := 15) (by decide +kernel), List.mem_of_getElem? (i := 329) (by decide +kernel), List.mem_of_getElem? (i := 330) (by decide +kernel)⟩
theorem lw_p5 : lw_okq (⟨"BoardEnds", "distanceNow", "()I"⟩, 11) := ⟨⟨by decide +kernel, by decide +kernel⟩, List.mem_of_getElem? (i := 15) (by decide +kernel), List.mem_of_getElem? (i := 333) (by decide +kernel), List.mem_of_getElem? (i := 334) (by decide +kernel)⟩
theorem lw_p6 : lw_okq (⟨"BoardEnds$Game", "foxSteps", "(LBoardEnds$State;)I"⟩, 2) := ⟨⟨by decide +kernel, by decide +kernel⟩, List.mem_of_getElem? (i := 154) (by decide +kernel), List.mem_of_getElem? (i := 345) (by decide +kernel), List.mem_of_getElem? (i := 346) (by decide +kernel)⟩
theorem lw_p7 : lw_okq (⟨"BoardEnds$Ends", "workOut", "()V"⟩, 9) := ⟨⟨by decide +kernel, by decide +kernel⟩, List.mem_of_getElem? (i := 70) (by decide +kernel), List.mem_of_getElem? (i := 364) (by decide +kernel), List.mem_of_getElem? (i := 365) (by decide +kernel)⟩
theorem lw_p8 : lw_okq (⟨"BoardEnds$Ends", "foxLevel", "(II)I"⟩, 9) := ⟨⟨by decide +kernel, by decide +kernel⟩, List.mem_of_getElem? (i := 70) (by decide +kernel), List.mem_of_getElem? (i := 371) (by decide +kernel), List.mem_of_getElem? (i := 372) (by decide +kernel)⟩
theorem lw_p9 : lw_okq (⟨"BoardEnds$Ends", "placesForFox", "(I)I"⟩, 9) := ⟨⟨by decide +kernel, by decide +kernel⟩, List.mem_of_getElem? (i := 70) (by decide +kernel), List.mem_of_getElem? (i := 375) (by decide +kernel), List.mem_of_getElem? (i := 376) (by decide +kernel)⟩
theorem lw_p10 : lw_okq (⟨"BoardEnds$Ends", "keep", "(IIII)V"⟩, 9) := ⟨⟨by decide +kernel, by decide +kernel⟩, List.mem_of_getElem? (i := 70) (by decide +kernel), List.mem_of_getElem? (i := 384) (by decide +kernel), List.mem_of_getElem? (i := 385) (by decide +kernel)⟩
theorem lw_p11 : lw_okq (⟨"BoardEnds$Ends", "huntersLevel", "(II)I"⟩, 9) := ⟨⟨by decide +kernel, by decide +kernel⟩, List.mem_of_getElem? (i := 70) (by decide +kernel), List.mem_of_getElem? (i := 388) (by decide +kernel), List.mem_of_getElem? (i := 389) (by decide +kernel)⟩
theorem lw_p12 : lw_okq (⟨"BoardEnds$Ends", "reachedBy", "(II)I"⟩, 9) := ⟨⟨by decide +kernel, by decide +kernel⟩, List.mem_of_getElem? (i := 70) (by decide +kernel), List.mem_of_getElem? (i := 400) (by decide +kernel), List.mem_of_getElem? (i := 401) (by decide +kernel)⟩
theorem lw_p13 : lw_okq (⟨"BoardEnds", "numberNow", "(LBoardEnds$State;)I"⟩, 11) := ⟨⟨by decide +kernel, by decide +kernel⟩, List.mem_of_getElem? (i := 15) (by decide +kernel), List.mem_of_getElem? (i := 408) (by decide +kernel), List.mem_of_getElem? (i := 409) (by decide +kernel)⟩
theorem lw_p14 : lw_okq (⟨"BoardEnds$Game", "hunterSteps", "(LBoardEnds$State;I)I"⟩, 2) := ⟨⟨by decide +kernel, by decide +kernel⟩, List.mem_of_getElem? (i := 154) (by decide +kernel), List.mem_of_getElem? (i := 430) (by decide +kernel), List.mem_of_getElem? (i := 431) (by decide +kernel)⟩
theorem lw_p15 : lw_okq (⟨"BoardEnds", "makeMove", "(II)I"⟩, 11) := ⟨⟨by decide +kernel, by decide +kernel⟩, List.mem_of_getElem? (i := 15) (by decide +kernel), List.mem_of_getElem? (i := 434) (by decide +kernel), List.mem_of_getElem? (i := 435) (by decide +kernel)⟩
def lw_privs_1 : List (MethodName × Nat) := [(⟨"BoardEnds$Grid", "fillSteps", "()V"⟩, 7), (⟨"BoardEnds$Grid", "fillPairs", "()V"⟩, 7), (⟨"BoardEnds$Grid", "fillImages", "()V"⟩, 7), (⟨"BoardEnds$History", "dropOldest", "()V"⟩, 2), (⟨"BoardEnds", "errorOf", "(IIII)I"⟩, 11), (⟨"BoardEnds", "distanceNow", "()I"⟩, 11), (⟨"BoardEnds$Game", "foxSteps", "(LBoardEnds$State;)I"⟩, 2), (⟨"BoardEnds$Ends", "workOut", "()V"⟩, 9), (⟨"BoardEnds$Ends", "foxLevel", "(II)I"⟩, 9), (⟨"BoardEnds$Ends", "placesForFox", "(I)I"⟩, 9), (⟨"BoardEnds$Ends", "keep", "(IIII)V"⟩, 9), (⟨"BoardEnds$Ends", "huntersLevel", "(II)I"⟩, 9), (⟨"BoardEnds$Ends", "reachedBy", "(II)I"⟩, 9), (⟨"BoardEnds", "numberNow", "(LBoardEnds$State;)I"⟩, 11), (⟨"BoardEnds$Game", "hunterSteps", "(LBoardEnds$State;I)I"⟩, 2), (⟨"BoardEnds", "makeMove", "(II)I"⟩, 11)]
theorem lw_r1 : ∀ q ∈ lw_privs_1, lw_okq q := List.forall_mem_cons.mpr ⟨lw_p0, List.forall_mem_cons.mpr ⟨lw_p1, List.forall_mem_cons.mpr ⟨lw_p2, List.forall_mem_cons.mpr ⟨lw_p3, List.forall_mem_cons.mpr ⟨lw_p4, List.forall_mem_cons.mpr ⟨lw_p5, List.forall_mem_cons.mpr ⟨lw_p6, List.forall_mem_cons.mpr ⟨lw_p7, List.forall_mem_cons.mpr ⟨lw_p8, List.forall_mem_cons.mpr ⟨lw_p9, List.forall_mem_cons.mpr ⟨lw_p10, List.forall_mem_cons.mpr ⟨lw_p11, List.forall_mem_cons.mpr ⟨lw_p12, List.forall_mem_cons.mpr ⟨lw_p13, List.forall_mem_cons.mpr ⟨lw_p14, List.forall_mem_cons.mpr ⟨lw_p15, fun _ h => absurd h List.not_mem_nil⟩⟩⟩⟩⟩⟩⟩⟩⟩⟩⟩⟩⟩⟩⟩⟩
theorem lw_p16 : lw_okq (⟨"BoardEnds$Game", "bestOfFox", "(LBoardEnds$State;)I"⟩, 2) := ⟨⟨by decide +kernel, by decide +kernel⟩, List.mem_of_getElem? (i := 154) (by decide +kernel), List.mem_of_getElem? (i := 452) (by decide +kernel), List.mem_of_getElem? (i := 453) (by decide +kernel)⟩
theorem lw_p17 : lw_okq (⟨"BoardEnds$Game", "lengthOf", "(IIII)I"⟩, 2) := ⟨⟨by decide +kernel, by decide +kernel⟩, List.mem_of_getElem? (i := 154) (by decide +kernel), List.mem_of_getElem? (i := 456) (by decide +kernel), List.mem_of_getElem? (i := 457) (by decide +kernel)⟩
theorem lw_p18 : lw_okq (⟨"BoardEnds$Game", "bestOfHunters", "(LBoardEnds$State;)I"⟩, 2) := ⟨⟨by decide +kernel, by decide +kernel⟩, List.mem_of_getElem? (i := 154) (by decide +kernel), List.mem_of_getElem? (i := 463) (by decide +kernel), List.mem_of_getElem? (i := 464) (by decide +kernel)⟩
theorem lw_p19 : lw_okq (⟨"BoardEnds$Game", "worthOf", "(LBoardEnds$State;II)I"⟩, 2) := ⟨⟨by decide +kernel, by decide +kernel⟩, List.mem_of_getElem? (i := 154) (by decide +kernel), List.mem_of_getElem? (i := 468) (by decide +kernel), List.mem_of_getElem? (i := 469) (by decide +kernel)⟩
theorem lw_p20 : lw_okq (⟨"BoardEnds", "foldedNumber", "(I)I"⟩, 11) := ⟨⟨by decide +kernel, by decide +kernel⟩, List.mem_of_getElem? (i := 15) (by decide +kernel), List.mem_of_getElem? (i := 512) (by decide +kernel), List.mem_of_getElem? (i := 513) (by decide +kernel)⟩
theorem lw_p21 : lw_okq (⟨"BoardEnds$Folding", "imageOf", "(II)I"⟩, 4) := ⟨⟨by decide +kernel, by decide +kernel⟩, List.mem_of_getElem? (i := 104) (by decide +kernel), List.mem_of_getElem? (i := 520) (by decide +kernel), List.mem_of_getElem? (i := 521) (by decide +kernel)⟩
theorem lw_p22 : lw_okq (⟨"BoardEnds$Folding", "imageOfNumber", "(II)I"⟩, 4) := ⟨⟨by decide +kernel, by decide +kernel⟩, List.mem_of_getElem? (i := 104) (by decide +kernel), List.mem_of_getElem? (i := 532) (by decide +kernel), List.mem_of_getElem? (i := 533) (by decide +kernel)⟩
theorem lw_p23 : lw_okq (⟨"BoardEnds$Survey", "goThrough", "(I)V"⟩, 8) := ⟨⟨by decide +kernel, by decide +kernel⟩, List.mem_of_getElem? (i := 123) (by decide +kernel), List.mem_of_getElem? (i := 597) (by decide +kernel), List.mem_of_getElem? (i := 598) (by decide +kernel)⟩
theorem lw_p24 : lw_okq (⟨"BoardEnds$Survey", "collect", "(I)V"⟩, 8) := ⟨⟨by decide +kernel, by decide +kernel⟩, List.mem_of_getElem? (i := 123) (by decide +kernel), List.mem_of_getElem? (i := 607) (by decide +kernel), List.mem_of_getElem? (i := 608) (by decide +kernel)⟩
theorem lw_p25 : lw_okq (⟨"BoardEnds$Survey", "makeRule", "()V"⟩, 8) := ⟨⟨by decide +kernel, by decide +kernel⟩, List.mem_of_getElem? (i := 123) (by decide +kernel), List.mem_of_getElem? (i := 620) (by decide +kernel), List.mem_of_getElem? (i := 621) (by decide +kernel)⟩
theorem lw_p26 : lw_okq (⟨"BoardEnds$Survey", "commonest", "(I)I"⟩, 8) := ⟨⟨by decide +kernel, by decide +kernel⟩, List.mem_of_getElem? (i := 123) (by decide +kernel), List.mem_of_getElem? (i := 624) (by decide +kernel), List.mem_of_getElem? (i := 625) (by decide +kernel)⟩
theorem lw_p27 : lw_okq (⟨"BoardEnds$Survey", "countExceptions", "()V"⟩, 8) := ⟨⟨by decide +kernel, by decide +kernel⟩, List.mem_of_getElem? (i := 123) (by decide +kernel), List.mem_of_getElem? (i := 631) (by decide +kernel), List.mem_of_getElem? (i := 632) (by decide +kernel)⟩
theorem lw_p28 : lw_okq (⟨"BoardEnds$Survey", "countException", "(IZ)V"⟩, 8) := ⟨⟨by decide +kernel, by decide +kernel⟩, List.mem_of_getElem? (i := 123) (by decide +kernel), List.mem_of_getElem? (i := 639) (by decide +kernel), List.mem_of_getElem? (i := 640) (by decide +kernel)⟩
theorem lw_p29 : lw_okq (⟨"BoardEndsModel", "keep", "()V"⟩, 21) := ⟨⟨by decide +kernel, by decide +kernel⟩, List.mem_of_getElem? (i := 713) (by decide +kernel), List.mem_of_getElem? (i := 790) (by decide +kernel), List.mem_of_getElem? (i := 791) (by decide +kernel)⟩
theorem lw_p30 : lw_okq (⟨"BoardEndsModel", "isFree", "(I)Z"⟩, 21) := ⟨⟨by decide +kernel, by decide +kernel⟩, List.mem_of_getElem? (i := 713) (by decide +kernel), List.mem_of_getElem? (i := 801) (by decide +kernel), List.mem_of_getElem? (i := 802) (by decide +kernel)⟩
theorem lw_p31 : lw_okq (⟨"BoardEndsModel", "whyNot", "(IIII)I"⟩, 21) := ⟨⟨by decide +kernel, by decide +kernel⟩, List.mem_of_getElem? (i := 713) (by decide +kernel), List.mem_of_getElem? (i := 815) (by decide +kernel), List.mem_of_getElem? (i := 816) (by decide +kernel)⟩
def lw_privs_2 : List (MethodName × Nat) := [(⟨"BoardEnds$Game", "bestOfFox", "(LBoardEnds$State;)I"⟩, 2), (⟨"BoardEnds$Game", "lengthOf", "(IIII)I"⟩, 2), (⟨"BoardEnds$Game", "bestOfHunters", "(LBoardEnds$State;)I"⟩, 2), (⟨"BoardEnds$Game", "worthOf", "(LBoardEnds$State;II)I"⟩, 2), (⟨"BoardEnds", "foldedNumber", "(I)I"⟩, 11), (⟨"BoardEnds$Folding", "imageOf", "(II)I"⟩, 4), (⟨"BoardEnds$Folding", "imageOfNumber", "(II)I"⟩, 4), (⟨"BoardEnds$Survey", "goThrough", "(I)V"⟩, 8), (⟨"BoardEnds$Survey", "collect", "(I)V"⟩, 8), (⟨"BoardEnds$Survey", "makeRule", "()V"⟩, 8), (⟨"BoardEnds$Survey", "commonest", "(I)I"⟩, 8), (⟨"BoardEnds$Survey", "countExceptions", "()V"⟩, 8), (⟨"BoardEnds$Survey", "countException", "(IZ)V"⟩, 8), (⟨"BoardEndsModel", "keep", "()V"⟩, 21), (⟨"BoardEndsModel", "isFree", "(I)Z"⟩, 21), (⟨"BoardEndsModel", "whyNot", "(IIII)I"⟩, 21)]
theorem lw_r2 : ∀ q ∈ lw_privs_2, lw_okq q := List.forall_mem_cons.mpr ⟨lw_p16, List.forall_mem_cons.mpr ⟨lw_p17, List.forall_mem_cons.mpr ⟨lw_p18, List.forall_mem_cons.mpr ⟨lw_p19, List.forall_mem_cons.mpr ⟨lw_p20, List.forall_mem_cons.mpr ⟨lw_p21, List.forall_mem_cons.mpr ⟨lw_p22, List.forall_mem_cons.mpr ⟨lw_p23, List.forall_mem_cons.mpr ⟨lw_p24, List.forall_mem_cons.mpr ⟨lw_p25, List.forall_mem_cons.mpr ⟨lw_p26, List.forall_mem_cons.mpr ⟨lw_p27, List.forall_mem_cons.mpr ⟨lw_p28, List.forall_mem_cons.mpr ⟨lw_p29, List.forall_mem_cons.mpr ⟨lw_p30, List.forall_mem_cons.mpr ⟨lw_p31, fun _ h => absurd h List.not_mem_nil⟩⟩⟩⟩⟩⟩⟩⟩⟩⟩⟩⟩⟩⟩⟩⟩
theorem lw_p32 : lw_okq (⟨"BoardEndsModel", "lay", "(IIII)V"⟩, 21) := ⟨⟨by decide +kernel, by decide +kernel⟩, List.mem_of_getElem? (i := 713) (by decide +kernel), List.mem_of_getElem? (i := 819) (by decide +kernel), List.mem_of_getElem? (i := 820) (by decide +kernel)⟩
theorem lw_p33 : lw_okq (⟨"BoardEndsModel", "distanceNow", "()I"⟩, 21) := ⟨⟨by decide +kernel, by decide +kernel⟩, List.mem_of_getElem? (i := 713) (by decide +kernel), List.mem_of_getElem? (i := 829) (by decide +kernel), List.mem_of_getElem? (i := 830) (by decide +kernel)⟩
theorem lw_p34 : lw_okq (⟨"BoardEndsModel", "isCaught", "()Z"⟩, 21) := ⟨⟨by decide +kernel, by decide +kernel⟩, List.mem_of_getElem? (i := 713) (by decide +kernel), List.mem_of_getElem? (i := 833) (by decide +kernel), List.mem_of_getElem? (i := 834) (by decide +kernel)⟩
theorem lw_p35 : lw_okq (⟨"BoardEndsModel", "work", "()V"⟩, 21) := ⟨⟨by decide +kernel, by decide +kernel⟩, List.mem_of_getElem? (i := 713) (by decide +kernel), List.mem_of_getElem? (i := 837) (by decide +kernel), List.mem_of_getElem? (i := 838) (by decide +kernel)⟩
theorem lw_p36 : lw_okq (⟨"BoardEndsModel", "isAsWorked", "()Z"⟩, 21) := ⟨⟨by decide +kernel, by decide +kernel⟩, List.mem_of_getElem? (i := 713) (by decide +kernel), List.mem_of_getElem? (i := 841) (by decide +kernel), List.mem_of_getElem? (i := 842) (by decide +kernel)⟩
theorem lw_p37 : lw_okq (⟨"BoardEndsModel", "workOutAll", "()V"⟩, 21) := ⟨⟨by decide +kernel, by decide +kernel⟩, List.mem_of_getElem? (i := 713) (by decide +kernel), List.mem_of_getElem? (i := 845) (by decide +kernel), List.mem_of_getElem? (i := 846) (by decide +kernel)⟩
theorem lw_p38 : lw_okq (⟨"BoardEndsModel", "workOut", "(I)Z"⟩, 21) := ⟨⟨by decide +kernel, by decide +kernel⟩, List.mem_of_getElem? (i := 713) (by decide +kernel), List.mem_of_getElem? (i := 849) (by decide +kernel), List.mem_of_getElem? (i := 850) (by decide +kernel)⟩
theorem lw_p39 : lw_okq (⟨"BoardEndsModel", "isPosition", "(I)Z"⟩, 21) := ⟨⟨by decide +kernel, by decide +kernel⟩, List.mem_of_getElem? (i := 713) (by decide +kernel), List.mem_of_getElem? (i := 853) (by decide +kernel), List.mem_of_getElem? (i := 854) (by decide +kernel)⟩
theorem lw_p40 : lw_okq (⟨"BoardEndsModel", "ofHunters", "(II)I"⟩, 21) := ⟨⟨by decide +kernel, by decide +kernel⟩, List.mem_of_getElem? (i := 713) (by decide +kernel), List.mem_of_getElem? (i := 857) (by decide +kernel), List.mem_of_getElem? (i := 858) (by decide +kernel)⟩
theorem lw_p41 : lw_okq (⟨"BoardEndsModel", "canCatch", "(II)Z"⟩, 21) := ⟨⟨by decide +kernel, by decide +kernel⟩, List.mem_of_getElem? (i := 713) (by decide +kernel), List.mem_of_getElem? (i := 861) (by decide +kernel), List.mem_of_getElem? (i := 862) (by decide +kernel)⟩
theorem lw_p42 : lw_okq (⟨"BoardEndsModel", "ofHunter", "(III)I"⟩, 21) := ⟨⟨by decide +kernel, by decide +kernel⟩, List.mem_of_getElem? (i := 713) (by decide +kernel), List.mem_of_getElem? (i := 880) (by decide +kernel), List.mem_of_getElem? (i := 881) (by decide +kernel)⟩
theorem lw_p43 : lw_okq (⟨"BoardEndsModel", "ofFox", "(II)I"⟩, 21) := ⟨⟨by decide +kernel, by decide +kernel⟩, List.mem_of_getElem? (i := 713) (by decide +kernel), List.mem_of_getElem? (i := 893) (by decide +kernel), List.mem_of_getElem? (i := 894) (by decide +kernel)⟩
theorem lw_p44 : lw_okq (⟨"BoardEndsModel", "findSymmetries", "()V"⟩, 21) := ⟨⟨by decide +kernel, by decide +kernel⟩, List.mem_of_getElem? (i := 713) (by decide +kernel), List.mem_of_getElem? (i := 897) (by decide +kernel), List.mem_of_getElem? (i := 898) (by decide +kernel)⟩
theorem lw_p45 : lw_okq (⟨"BoardEndsModel", "fold", "()V"⟩, 21) := ⟨⟨by decide +kernel, by decide +kernel⟩, List.mem_of_getElem? (i := 713) (by decide +kernel), List.mem_of_getElem? (i := 904) (by decide +kernel), List.mem_of_getElem? (i := 905) (by decide +kernel)⟩
theorem lw_p46 : lw_okq (⟨"BoardEndsModel", "foldOne", "(I)V"⟩, 21) := ⟨⟨by decide +kernel, by decide +kernel⟩, List.mem_of_getElem? (i := 713) (by decide +kernel), List.mem_of_getElem? (i := 908) (by decide +kernel), List.mem_of_getElem? (i := 909) (by decide +kernel)⟩
theorem lw_p47 : lw_okq (⟨"BoardEndsModel", "madeBy", "(II)I"⟩, 21) := ⟨⟨by decide +kernel, by decide +kernel⟩, List.mem_of_getElem? (i := 713) (by decide +kernel), List.mem_of_getElem? (i := 912) (by decide +kernel), List.mem_of_getElem? (i := 913) (by decide +kernel)⟩
def lw_privs_3 : List (MethodName × Nat) := [(⟨"BoardEndsModel", "lay", "(IIII)V"⟩, 21), (⟨"BoardEndsModel", "distanceNow", "()I"⟩, 21), (⟨"BoardEndsModel", "isCaught", "()Z"⟩, 21), (⟨"BoardEndsModel", "work", "()V"⟩, 21), (⟨"BoardEndsModel", "isAsWorked", "()Z"⟩, 21), (⟨"BoardEndsModel", "workOutAll", "()V"⟩, 21), (⟨"BoardEndsModel", "workOut", "(I)Z"⟩, 21), (⟨"BoardEndsModel", "isPosition", "(I)Z"⟩, 21), (⟨"BoardEndsModel", "ofHunters", "(II)I"⟩, 21), (⟨"BoardEndsModel", "canCatch", "(II)Z"⟩, 21), (⟨"BoardEndsModel", "ofHunter", "(III)I"⟩, 21), (⟨"BoardEndsModel", "ofFox", "(II)I"⟩, 21), (⟨"BoardEndsModel", "findSymmetries", "()V"⟩, 21), (⟨"BoardEndsModel", "fold", "()V"⟩, 21), (⟨"BoardEndsModel", "foldOne", "(I)V"⟩, 21), (⟨"BoardEndsModel", "madeBy", "(II)I"⟩, 21)]
theorem lw_r3 : ∀ q ∈ lw_privs_3, lw_okq q := List.forall_mem_cons.mpr ⟨lw_p32, List.forall_mem_cons.mpr ⟨lw_p33, List.forall_mem_cons.mpr ⟨lw_p34, List.forall_mem_cons.mpr ⟨lw_p35, List.forall_mem_cons.mpr ⟨lw_p36, List.forall_mem_cons.mpr ⟨lw_p37, List.forall_mem_cons.mpr ⟨lw_p38, List.forall_mem_cons.mpr ⟨lw_p39, List.forall_mem_cons.mpr ⟨lw_p40, List.forall_mem_cons.mpr ⟨lw_p41, List.forall_mem_cons.mpr ⟨lw_p42, List.forall_mem_cons.mpr ⟨lw_p43, List.forall_mem_cons.mpr ⟨lw_p44, List.forall_mem_cons.mpr ⟨lw_p45, List.forall_mem_cons.mpr ⟨lw_p46, List.forall_mem_cons.mpr ⟨lw_p47, fun _ h => absurd h List.not_mem_nil⟩⟩⟩⟩⟩⟩⟩⟩⟩⟩⟩⟩⟩⟩⟩⟩
theorem lw_p48 : lw_okq (⟨"BoardEndsModel", "ruleOf", "(I)I"⟩, 21) := ⟨⟨by decide +kernel, by decide +kernel⟩, List.mem_of_getElem? (i := 713) (by decide +kernel), List.mem_of_getElem? (i := 916) (by decide +kernel), List.mem_of_getElem? (i := 917) (by decide +kernel)⟩
theorem lw_p49 : lw_okq (⟨"BoardEndsModel", "key", "(I)I"⟩, 21) := ⟨⟨by decide +kernel, by decide +kernel⟩, List.mem_of_getElem? (i := 713) (by decide +kernel), List.mem_of_getElem? (i := 920) (by decide +kernel), List.mem_of_getElem? (i := 921) (by decide +kernel)⟩
theorem lw_p50 : lw_okq (⟨"BoardEndsModel", "isHit", "()Z"⟩, 21) := ⟨⟨by decide +kernel, by decide +kernel⟩, List.mem_of_getElem? (i := 713) (by decide +kernel), List.mem_of_getElem? (i := 924) (by decide +kernel), List.mem_of_getElem? (i := 925) (by decide +kernel)⟩
theorem lw_p51 : lw_okq (⟨"BoardEndsModel", "numberNow", "()I"⟩, 21) := ⟨⟨by decide +kernel, by decide +kernel⟩, List.mem_of_getElem? (i := 713) (by decide +kernel), List.mem_of_getElem? (i := 928) (by decide +kernel), List.mem_of_getElem? (i := 929) (by decide +kernel)⟩
theorem lw_p52 : lw_okq (⟨"BoardEndsModel", "isMove", "(II)Z"⟩, 21) := ⟨⟨by decide +kernel, by decide +kernel⟩, List.mem_of_getElem? (i := 713) (by decide +kernel), List.mem_of_getElem? (i := 936) (by decide +kernel), List.mem_of_getElem? (i := 937) (by decide +kernel)⟩
theorem lw_p53 : lw_okq (⟨"BoardEndsModel", "isHunterMove", "(II)Z"⟩, 21) := ⟨⟨by decide +kernel, by decide +kernel⟩, List.mem_of_getElem? (i := 713) (by decide +kernel), List.mem_of_getElem? (i := 940) (by decide +kernel), List.mem_of_getElem? (i := 941) (by decide +kernel)⟩
theorem lw_p54 : lw_okq (⟨"BoardEndsModel", "isFoxMove", "(II)Z"⟩, 21) := ⟨⟨by decide +kernel, by decide +kernel⟩, List.mem_of_getElem? (i := 713) (by decide +kernel), List.mem_of_getElem? (i := 944) (by decide +kernel), List.mem_of_getElem? (i := 945) (by decide +kernel)⟩
theorem lw_p55 : lw_okq (⟨"BoardEndsModel", "make", "(II)I"⟩, 21) := ⟨⟨by decide +kernel, by decide +kernel⟩, List.mem_of_getElem? (i := 713) (by decide +kernel), List.mem_of_getElem? (i := 948) (by decide +kernel), List.mem_of_getElem? (i := 949) (by decide +kernel)⟩
theorem lw_p56 : lw_okq (⟨"BoardEndsModel", "findBest", "()Z"⟩, 21) := ⟨⟨by decide +kernel, by decide +kernel⟩, List.mem_of_getElem? (i := 713) (by decide +kernel), List.mem_of_getElem? (i := 956) (by decide +kernel), List.mem_of_getElem? (i := 957) (by decide +kernel)⟩
theorem lw_p57 : lw_okq (⟨"BoardEndsModel", "worth", "(II)I"⟩, 21) := ⟨⟨by decide +kernel, by decide +kernel⟩, List.mem_of_getElem? (i := 713) (by decide +kernel), List.mem_of_getElem? (i := 960) (by decide +kernel), List.mem_of_getElem? (i := 961) (by decide +kernel)⟩
theorem lw_p58 : lw_okq (⟨"BoardEndsModel", "best", "(I)I"⟩, 21) := ⟨⟨by decide +kernel, by decide +kernel⟩, List.mem_of_getElem? (i := 713) (by decide +kernel), List.mem_of_getElem? (i := 968) (by decide +kernel), List.mem_of_getElem? (i := 969) (by decide +kernel)⟩
theorem lw_p59 : lw_okq (⟨"BoardEndsModel", "standsNow", "()I"⟩, 21) := ⟨⟨by decide +kernel, by decide +kernel⟩, List.mem_of_getElem? (i := 713) (by decide +kernel), List.mem_of_getElem? (i := 972) (by decide +kernel), List.mem_of_getElem? (i := 973) (by decide +kernel)⟩
theorem lw_p60 : lw_okq (⟨"BoardEndsModel", "positions", "(Z)I"⟩, 21) := ⟨⟨by decide +kernel, by decide +kernel⟩, List.mem_of_getElem? (i := 713) (by decide +kernel), List.mem_of_getElem? (i := 1000) (by decide +kernel), List.mem_of_getElem? (i := 1001) (by decide +kernel)⟩
theorem lw_p61 : lw_okq (⟨"BoardEndsModel", "greatest", "()I"⟩, 21) := ⟨⟨by decide +kernel, by decide +kernel⟩, List.mem_of_getElem? (i := 713) (by decide +kernel), List.mem_of_getElem? (i := 1004) (by decide +kernel), List.mem_of_getElem? (i := 1005) (by decide +kernel)⟩
theorem lw_p62 : lw_okq (⟨"BoardEndsModel", "lowestWith", "(I)I"⟩, 21) := ⟨⟨by decide +kernel, by decide +kernel⟩, List.mem_of_getElem? (i := 713) (by decide +kernel), List.mem_of_getElem? (i := 1008) (by decide +kernel), List.mem_of_getElem? (i := 1009) (by decide +kernel)⟩
theorem lw_p63 : lw_okq (⟨"BoardEndsModel", "standingWith", "(I)I"⟩, 21) := ⟨⟨by decide +kernel, by decide +kernel⟩, List.mem_of_getElem? (i := 713) (by decide +kernel), List.mem_of_getElem? (i := 1012) (by decide +kernel), List.mem_of_getElem? (i := 1013) (by decide +kernel)⟩
def lw_privs_4 : List (MethodName × Nat) := [(⟨"BoardEndsModel", "ruleOf", "(I)I"⟩, 21), (⟨"BoardEndsModel", "key", "(I)I"⟩, 21), (⟨"BoardEndsModel", "isHit", "()Z"⟩, 21), (⟨"BoardEndsModel", "numberNow", "()I"⟩, 21), (⟨"BoardEndsModel", "isMove", "(II)Z"⟩, 21), (⟨"BoardEndsModel", "isHunterMove", "(II)Z"⟩, 21), (⟨"BoardEndsModel", "isFoxMove", "(II)Z"⟩, 21), (⟨"BoardEndsModel", "make", "(II)I"⟩, 21), (⟨"BoardEndsModel", "findBest", "()Z"⟩, 21), (⟨"BoardEndsModel", "worth", "(II)I"⟩, 21), (⟨"BoardEndsModel", "best", "(I)I"⟩, 21), (⟨"BoardEndsModel", "standsNow", "()I"⟩, 21), (⟨"BoardEndsModel", "positions", "(Z)I"⟩, 21), (⟨"BoardEndsModel", "greatest", "()I"⟩, 21), (⟨"BoardEndsModel", "lowestWith", "(I)I"⟩, 21), (⟨"BoardEndsModel", "standingWith", "(I)I"⟩, 21)]
theorem lw_r4 : ∀ q ∈ lw_privs_4, lw_okq q := List.forall_mem_cons.mpr ⟨lw_p48, List.forall_mem_cons.mpr ⟨lw_p49, List.forall_mem_cons.mpr ⟨lw_p50, List.forall_mem_cons.mpr ⟨lw_p51, List.forall_mem_cons.mpr ⟨lw_p52, List.forall_mem_cons.mpr ⟨lw_p53, List.forall_mem_cons.mpr ⟨lw_p54, List.forall_mem_cons.mpr ⟨lw_p55, List.forall_mem_cons.mpr ⟨lw_p56, List.forall_mem_cons.mpr ⟨lw_p57, List.forall_mem_cons.mpr ⟨lw_p58, List.forall_mem_cons.mpr ⟨lw_p59, List.forall_mem_cons.mpr ⟨lw_p60, List.forall_mem_cons.mpr ⟨lw_p61, List.forall_mem_cons.mpr ⟨lw_p62, List.forall_mem_cons.mpr ⟨lw_p63, fun _ h => absurd h List.not_mem_nil⟩⟩⟩⟩⟩⟩⟩⟩⟩⟩⟩⟩⟩⟩⟩⟩
theorem lw_p64 : lw_okq (⟨"BoardEndsModel", "exceptions", "()I"⟩, 21) := ⟨⟨by decide +kernel, by decide +kernel⟩, List.mem_of_getElem? (i := 713) (by decide +kernel), List.mem_of_getElem? (i := 1016) (by decide +kernel), List.mem_of_getElem? (i := 1017) (by decide +kernel)⟩
theorem lw_p65 : lw_okq (⟨"BoardEndsModel", "isException", "(I)Z"⟩, 21) := ⟨⟨by decide +kernel, by decide +kernel⟩, List.mem_of_getElem? (i := 713) (by decide +kernel), List.mem_of_getElem? (i := 1020) (by decide +kernel), List.mem_of_getElem? (i := 1021) (by decide +kernel)⟩
theorem lw_p66 : lw_okq (⟨"BoardEndsModel", "runs", "(I)I"⟩, 21) := ⟨⟨by decide +kernel, by decide +kernel⟩, List.mem_of_getElem? (i := 713) (by decide +kernel), List.mem_of_getElem? (i := 1024) (by decide +kernel), List.mem_of_getElem? (i := 1025) (by decide +kernel)⟩
theorem lw_p67 : lw_okq (⟨"BoardEndsModel", "blocks", "()I"⟩, 21) := ⟨⟨by decide +kernel, by decide +kernel⟩, List.mem_of_getElem? (i := 713) (by decide +kernel), List.mem_of_getElem? (i := 1028) (by decide +kernel), List.mem_of_getElem? (i := 1029) (by decide +kernel)⟩
theorem lw_p68 : lw_okq (⟨"BoardEndsModel", "keys", "()I"⟩, 21) := ⟨⟨by decide +kernel, by decide +kernel⟩, List.mem_of_getElem? (i := 713) (by decide +kernel), List.mem_of_getElem? (i := 1032) (by decide +kernel), List.mem_of_getElem? (i := 1033) (by decide +kernel)⟩
theorem lw_p69 : lw_okq (⟨"BoardEndsModel", "placesOf", "(I)I"⟩, 21) := ⟨⟨by decide +kernel, by decide +kernel⟩, List.mem_of_getElem? (i := 713) (by decide +kernel), List.mem_of_getElem? (i := 1065) (by decide +kernel), List.mem_of_getElem? (i := 1066) (by decide +kernel)⟩
def lw_privs_5 : List (MethodName × Nat) := [(⟨"BoardEndsModel", "exceptions", "()I"⟩, 21), (⟨"BoardEndsModel", "isException", "(I)Z"⟩, 21), (⟨"BoardEndsModel", "runs", "(I)I"⟩, 21), (⟨"BoardEndsModel", "blocks", "()I"⟩, 21), (⟨"BoardEndsModel", "keys", "()I"⟩, 21), (⟨"BoardEndsModel", "placesOf", "(I)I"⟩, 21)]
theorem lw_r5 : ∀ q ∈ lw_privs_5, lw_okq q := List.forall_mem_cons.mpr ⟨lw_p64, List.forall_mem_cons.mpr ⟨lw_p65, List.forall_mem_cons.mpr ⟨lw_p66, List.forall_mem_cons.mpr ⟨lw_p67, List.forall_mem_cons.mpr ⟨lw_p68, List.forall_mem_cons.mpr ⟨lw_p69, fun _ h => absurd h List.not_mem_nil⟩⟩⟩⟩⟩⟩
def lw_privs : List (MethodName × Nat) := lw_privs_1 ++ (lw_privs_2 ++ (lw_privs_3 ++ (lw_privs_4 ++ (lw_privs_5))))
def lw_tbl : List Cond := k2_sels lw_privs ++ tables_1
theorem lw_privs_ok : ∀ q ∈ lw_privs, lw_okq q := by
  show ∀ q ∈ lw_privs_1 ++ (lw_privs_2 ++ (lw_privs_3 ++ (lw_privs_4 ++ (lw_privs_5)))), lw_okq q
  exact List.forall_mem_append.mpr ⟨lw_r1, List.forall_mem_append.mpr ⟨lw_r2, List.forall_mem_append.mpr ⟨lw_r3, List.forall_mem_append.mpr ⟨lw_r4, lw_r5⟩⟩⟩⟩
-- ===== end of PART A; then your names; then what follows =====
end
section
def RX0 : String := "BoardEnds$Ends"
def TX0 : u_T := fun k => match k with
  | 0 => ("BoardEnds$Ends", "grid", "LBoardEnds$Grid;", true)
  | 1 => ("BoardEnds$Ends", "distances", "[I", true)
  | 2 => ("BoardEnds$Ends", "foxKnown", "[I", true)
  | 3 => ("BoardEnds$Ends", "huntersKnown", "[I", true)
  | 4 => ("BoardEnds$Ends", "prepared", "I", false)
  | 5 => ("BoardEnds$Ends", "free", "I", false)
  | 6 => ("BoardEnds$Ends", "foxCorners", "Z", false)
  | 7 => ("BoardEnds$Ends", "huntCorners", "Z", false)
  | _ => ("BoardEnds$Ends", "mayStay", "Z", false)
def tyX0 : Nat → FieldType := fun k => match k with
  | 0 => .object "BoardEnds$Grid"
  | 1 => .array .int
  | 2 => .array .int
  | 3 => .array .int
  | 4 => .int
  | 5 => .int
  | 6 => .boolean
  | 7 => .boolean
  | _ => .boolean
theorem nmX0 : ∀ a, a < 9 → ∀ b, b < 9 → a ≠ b → (TX0 a).2.1 ≠ (TX0 b).2.1 := by decide +kernel
theorem tyX0_ok : ∀ k, k < 9 → parseFieldDescriptor (TX0 k).2.2.1 = some (tyX0 k) := by decide +kernel
abbrev cX0_init : ByteArray := prog_2_method_1_code
def yX0_init : MethodName := ⟨RX0, "<init>", "(LBoardEnds$Grid;)V"⟩
abbrev cX0_signOf : ByteArray := prog_2_method_2_code
def yX0_signOf : MethodName := ⟨RX0, "signOf", "(LBoardEnds$State;)I"⟩
abbrev cX0_at : ByteArray := prog_2_method_3_code
def yX0_at : MethodName := ⟨RX0, "at", "(I)I"⟩
abbrev cX0_prepare : ByteArray := prog_2_method_4_code
def yX0_prepare : MethodName := ⟨RX0, "prepare", "(LBoardEnds$State;)V"⟩
abbrev cX0_workOut : ByteArray := prog_2_method_5_code
def yX0_workOut : MethodName := ⟨RX0, "workOut", "()V"⟩
abbrev cX0_placesForFox : ByteArray := prog_2_method_6_code
def yX0_placesForFox : MethodName := ⟨RX0, "placesForFox", "(I)I"⟩
abbrev cX0_foxLevel : ByteArray := prog_2_method_7_code
def yX0_foxLevel : MethodName := ⟨RX0, "foxLevel", "(II)I"⟩
abbrev cX0_huntersLevel : ByteArray := prog_2_method_8_code
def yX0_huntersLevel : MethodName := ⟨RX0, "huntersLevel", "(II)I"⟩
abbrev cX0_reachedBy : ByteArray := prog_2_method_9_code
def yX0_reachedBy : MethodName := ⟨RX0, "reachedBy", "(II)I"⟩
abbrev cX0_keep : ByteArray := prog_2_method_10_code
def yX0_keep : MethodName := ⟨RX0, "keep", "(IIII)V"⟩
def RX1 : String := "BoardEnds$Folding"
def TX1 : u_T := fun k => match k with
  | 0 => ("BoardEnds$Folding", "grid", "LBoardEnds$Grid;", true)
  | 1 => ("BoardEnds$Folding", "kept", "[I", true)
  | 2 => ("BoardEnds$Folding", "keptCount", "I", false)
  | _ => ("BoardEnds$Folding", "prepared", "I", false)
def tyX1 : Nat → FieldType := fun k => match k with
  | 0 => .object "BoardEnds$Grid"
  | 1 => .array .int
  | 2 => .int
  | _ => .int
theorem nmX1 : ∀ a, a < 4 → ∀ b, b < 4 → a ≠ b → (TX1 a).2.1 ≠ (TX1 b).2.1 := by decide +kernel
theorem tyX1_ok : ∀ k, k < 4 → parseFieldDescriptor (TX1 k).2.2.1 = some (tyX1 k) := by decide +kernel
abbrev cX1_init : ByteArray := prog_3_method_1_code
def yX1_init : MethodName := ⟨RX1, "<init>", "(LBoardEnds$Grid;)V"⟩
abbrev cX1_prepare : ByteArray := prog_3_method_2_code
def yX1_prepare : MethodName := ⟨RX1, "prepare", "(I)V"⟩
abbrev cX1_imageOf : ByteArray := prog_3_method_3_code
def yX1_imageOf : MethodName := ⟨RX1, "imageOf", "(II)I"⟩
abbrev cX1_symmetries : ByteArray := prog_3_method_4_code
def yX1_symmetries : MethodName := ⟨RX1, "symmetries", "()I"⟩
abbrev cX1_imageOfNumber : ByteArray := prog_3_method_5_code
def yX1_imageOfNumber : MethodName := ⟨RX1, "imageOfNumber", "(II)I"⟩
abbrev cX1_lowestAlike : ByteArray := prog_3_method_6_code
def yX1_lowestAlike : MethodName := ⟨RX1, "lowestAlike", "(I)I"⟩
abbrev cX1_standsForItself : ByteArray := prog_3_method_7_code
def yX1_standsForItself : MethodName := ⟨RX1, "standsForItself", "(I)Z"⟩
abbrev cX1_alike : ByteArray := prog_3_method_8_code
def yX1_alike : MethodName := ⟨RX1, "alike", "(I)I"⟩
def RX2 : String := "BoardEnds$Game"
def TX2 : u_T := fun k => match k with
  | 0 => ("BoardEnds$Game", "grid", "LBoardEnds$Grid;", true)
  | _ => ("BoardEnds$Game", "ends", "LBoardEnds$Ends;", true)
def tyX2 : Nat → FieldType := fun k => match k with
  | 0 => .object "BoardEnds$Grid"
  | _ => .object "BoardEnds$Ends"
theorem nmX2 : ∀ a, a < 2 → ∀ b, b < 2 → a ≠ b → (TX2 a).2.1 ≠ (TX2 b).2.1 := by decide +kernel
theorem tyX2_ok : ∀ k, k < 2 → parseFieldDescriptor (TX2 k).2.2.1 = some (tyX2 k) := by decide +kernel
abbrev cX2_init : ByteArray := prog_4_method_1_code
def yX2_init : MethodName := ⟨RX2, "<init>", "(LBoardEnds$Grid;LBoardEnds$Ends;)V"⟩
abbrev cX2_fromOf : ByteArray := prog_4_method_2_code
def yX2_fromOf : MethodName := ⟨RX2, "fromOf", "(I)I"⟩
abbrev cX2_toOf : ByteArray := prog_4_method_3_code
def yX2_toOf : MethodName := ⟨RX2, "toOf", "(I)I"⟩
abbrev cX2_caught : ByteArray := prog_4_method_4_code
def yX2_caught : MethodName := ⟨RX2, "caught", "(LBoardEnds$State;)Z"⟩
abbrev cX2_foxSteps : ByteArray := prog_4_method_5_code
def yX2_foxSteps : MethodName := ⟨RX2, "foxSteps", "(LBoardEnds$State;)I"⟩
abbrev cX2_hunterSteps : ByteArray := prog_4_method_6_code
def yX2_hunterSteps : MethodName := ⟨RX2, "hunterSteps", "(LBoardEnds$State;I)I"⟩
abbrev cX2_allows : ByteArray := prog_4_method_7_code
def yX2_allows : MethodName := ⟨RX2, "allows", "(LBoardEnds$State;II)Z"⟩
abbrev cX2_make : ByteArray := prog_4_method_8_code
def yX2_make : MethodName := ⟨RX2, "make", "(LBoardEnds$State;II)V"⟩
abbrev cX2_bestMove : ByteArray := prog_4_method_9_code
def yX2_bestMove : MethodName := ⟨RX2, "bestMove", "(LBoardEnds$State;)I"⟩
abbrev cX2_bestOfFox : ByteArray := prog_4_method_10_code
def yX2_bestOfFox : MethodName := ⟨RX2, "bestOfFox", "(LBoardEnds$State;)I"⟩
abbrev cX2_bestOfHunters : ByteArray := prog_4_method_11_code
def yX2_bestOfHunters : MethodName := ⟨RX2, "bestOfHunters", "(LBoardEnds$State;)I"⟩
abbrev cX2_worthOf : ByteArray := prog_4_method_12_code
def yX2_worthOf : MethodName := ⟨RX2, "worthOf", "(LBoardEnds$State;II)I"⟩
abbrev cX2_lengthOf : ByteArray := prog_4_method_13_code
def yX2_lengthOf : MethodName := ⟨RX2, "lengthOf", "(IIII)I"⟩
def RX3 : String := "BoardEnds$Grid"
def TX3 : u_T := fun k => match k with
  | 0 => ("BoardEnds$Grid", "straight", "[I", true)
  | 1 => ("BoardEnds$Grid", "corner", "[I", true)
  | 2 => ("BoardEnds$Grid", "pairs", "[I", true)
  | 3 => ("BoardEnds$Grid", "lowers", "[I", true)
  | 4 => ("BoardEnds$Grid", "highers", "[I", true)
  | 5 => ("BoardEnds$Grid", "places", "[I", true)
  | _ => ("BoardEnds$Grid", "images", "[I", true)
def tyX3 : Nat → FieldType := fun k => match k with
  | 0 => .array .int
  | 1 => .array .int
  | 2 => .array .int
  | 3 => .array .int
  | 4 => .array .int
  | 5 => .array .int
  | _ => .array .int
theorem nmX3 : ∀ a, a < 7 → ∀ b, b < 7 → a ≠ b → (TX3 a).2.1 ≠ (TX3 b).2.1 := by decide +kernel
theorem tyX3_ok : ∀ k, k < 7 → parseFieldDescriptor (TX3 k).2.2.1 = some (tyX3 k) := by decide +kernel
abbrev cX3_init : ByteArray := prog_5_method_1_code
def yX3_init : MethodName := ⟨RX3, "<init>", "()V"⟩
abbrev cX3_fillSteps : ByteArray := prog_5_method_2_code
def yX3_fillSteps : MethodName := ⟨RX3, "fillSteps", "()V"⟩
abbrev cX3_fillPairs : ByteArray := prog_5_method_3_code
def yX3_fillPairs : MethodName := ⟨RX3, "fillPairs", "()V"⟩
abbrev cX3_fillImages : ByteArray := prog_5_method_4_code
def yX3_fillImages : MethodName := ⟨RX3, "fillImages", "()V"⟩
abbrev cX3_isPlace : ByteArray := prog_5_method_5_code
def yX3_isPlace : MethodName := ⟨RX3, "isPlace", "(I)Z"⟩
abbrev cX3_lowest : ByteArray := prog_5_method_6_code
def yX3_lowest : MethodName := ⟨RX3, "lowest", "(I)I"⟩
abbrev cX3_highest : ByteArray := prog_5_method_7_code
def yX3_highest : MethodName := ⟨RX3, "highest", "(I)I"⟩
abbrev cX3_far : ByteArray := prog_5_method_8_code
def yX3_far : MethodName := ⟨RX3, "far", "(II)I"⟩
abbrev cX3_stepsFrom : ByteArray := prog_5_method_9_code
def yX3_stepsFrom : MethodName := ⟨RX3, "stepsFrom", "(IZ)I"⟩
abbrev cX3_pairOf : ByteArray := prog_5_method_10_code
def yX3_pairOf : MethodName := ⟨RX3, "pairOf", "(II)I"⟩
abbrev cX3_lowerOf : ByteArray := prog_5_method_11_code
def yX3_lowerOf : MethodName := ⟨RX3, "lowerOf", "(I)I"⟩
abbrev cX3_higherOf : ByteArray := prog_5_method_12_code
def yX3_higherOf : MethodName := ⟨RX3, "higherOf", "(I)I"⟩
abbrev cX3_placesOf : ByteArray := prog_5_method_13_code
def yX3_placesOf : MethodName := ⟨RX3, "placesOf", "(I)I"⟩
abbrev cX3_image : ByteArray := prog_5_method_14_code
def yX3_image : MethodName := ⟨RX3, "image", "(II)I"⟩
abbrev cX3_numberOf : ByteArray := prog_5_method_15_code
def yX3_numberOf : MethodName := ⟨RX3, "numberOf", "(IIII)I"⟩
abbrev cX3_whoOf : ByteArray := prog_5_method_16_code
def yX3_whoOf : MethodName := ⟨RX3, "whoOf", "(I)I"⟩
abbrev cX3_foxOf : ByteArray := prog_5_method_17_code
def yX3_foxOf : MethodName := ⟨RX3, "foxOf", "(I)I"⟩
abbrev cX3_pairIn : ByteArray := prog_5_method_18_code
def yX3_pairIn : MethodName := ⟨RX3, "pairIn", "(I)I"⟩
abbrev cX3_isPosition : ByteArray := prog_5_method_19_code
def yX3_isPosition : MethodName := ⟨RX3, "isPosition", "(II)Z"⟩
abbrev cX3_keyOf : ByteArray := prog_5_method_20_code
def yX3_keyOf : MethodName := ⟨RX3, "keyOf", "(I)I"⟩
def RX4 : String := "BoardEnds$History"
def TX4 : u_T := fun k => match k with
  | 0 => ("BoardEnds$History", "states", "[LBoardEnds$State;", true)
  | _ => ("BoardEnds$History", "length", "I", false)
def tyX4 : Nat → FieldType := fun k => match k with
  | 0 => .array (.object "BoardEnds$State")
  | _ => .int
theorem nmX4 : ∀ a, a < 2 → ∀ b, b < 2 → a ≠ b → (TX4 a).2.1 ≠ (TX4 b).2.1 := by decide +kernel
theorem tyX4_ok : ∀ k, k < 2 → parseFieldDescriptor (TX4 k).2.2.1 = some (tyX4 k) := by decide +kernel
abbrev cX4_init : ByteArray := prog_6_method_1_code
def yX4_init : MethodName := ⟨RX4, "<init>", "()V"⟩
abbrev cX4_length : ByteArray := prog_6_method_2_code
def yX4_length : MethodName := ⟨RX4, "length", "()I"⟩
abbrev cX4_record : ByteArray := prog_6_method_3_code
def yX4_record : MethodName := ⟨RX4, "record", "(LBoardEnds$State;)V"⟩
abbrev cX4_dropOldest : ByteArray := prog_6_method_4_code
def yX4_dropOldest : MethodName := ⟨RX4, "dropOldest", "()V"⟩
abbrev cX4_takeBack : ByteArray := prog_6_method_5_code
def yX4_takeBack : MethodName := ⟨RX4, "takeBack", "(LBoardEnds$State;)V"⟩
def RX5 : String := "BoardEnds$Pad"
def TX5 : u_T := fun k => match k with
  | 0 => ("BoardEnds$Pad", "signs", "[C", true)
  | _ => ("BoardEnds$Pad", "length", "I", false)
def tyX5 : Nat → FieldType := fun k => match k with
  | 0 => .array .char
  | _ => .int
theorem nmX5 : ∀ a, a < 2 → ∀ b, b < 2 → a ≠ b → (TX5 a).2.1 ≠ (TX5 b).2.1 := by decide +kernel
theorem tyX5_ok : ∀ k, k < 2 → parseFieldDescriptor (TX5 k).2.2.1 = some (tyX5 k) := by decide +kernel
abbrev cX5_init : ByteArray := prog_7_method_1_code
def yX5_init : MethodName := ⟨RX5, "<init>", "()V"⟩
abbrev cX5_length : ByteArray := prog_7_method_2_code
def yX5_length : MethodName := ⟨RX5, "length", "()I"⟩
abbrev cX5_empty : ByteArray := prog_7_method_3_code
def yX5_empty : MethodName := ⟨RX5, "empty", "()V"⟩
abbrev cX5_countIn : ByteArray := prog_7_method_4_code
def yX5_countIn : MethodName := ⟨RX5, "countIn", "(J)I"⟩
abbrev cX5_append : ByteArray := prog_7_method_5_code
def yX5_append : MethodName := ⟨RX5, "append", "(JI)V"⟩
abbrev cX5_firstFault : ByteArray := prog_7_method_6_code
def yX5_firstFault : MethodName := ⟨RX5, "firstFault", "()I"⟩
abbrev cX5_canStand : ByteArray := prog_7_method_7_code
def yX5_canStand : MethodName := ⟨RX5, "canStand", "(CI)Z"⟩
abbrev cX5_placesOf : ByteArray := prog_7_method_8_code
def yX5_placesOf : MethodName := ⟨RX5, "placesOf", "(C)I"⟩
abbrev cX5_foxMoves : ByteArray := prog_7_method_9_code
def yX5_foxMoves : MethodName := ⟨RX5, "foxMoves", "()Z"⟩
def RX6 : String := "BoardEnds$State"
def TX6 : u_T := fun k => match k with
  | 0 => ("BoardEnds$State", "settings", "I", false)
  | 1 => ("BoardEnds$State", "blocked", "I", false)
  | 2 => ("BoardEnds$State", "who", "I", false)
  | 3 => ("BoardEnds$State", "fox", "I", false)
  | 4 => ("BoardEnds$State", "low", "I", false)
  | _ => ("BoardEnds$State", "high", "I", false)
def tyX6 : Nat → FieldType := fun k => match k with
  | 0 => .int
  | 1 => .int
  | 2 => .int
  | 3 => .int
  | 4 => .int
  | _ => .int
theorem nmX6 : ∀ a, a < 6 → ∀ b, b < 6 → a ≠ b → (TX6 a).2.1 ≠ (TX6 b).2.1 := by decide +kernel
theorem tyX6_ok : ∀ k, k < 6 → parseFieldDescriptor (TX6 k).2.2.1 = some (tyX6 k) := by decide +kernel
abbrev cX6_init : ByteArray := prog_8_method_1_code
def yX6_init : MethodName := ⟨RX6, "<init>", "()V"⟩
abbrev cX6_take : ByteArray := prog_8_method_2_code
def yX6_take : MethodName := ⟨RX6, "take", "(LBoardEnds$State;)V"⟩
abbrev cX6_place : ByteArray := prog_8_method_3_code
def yX6_place : MethodName := ⟨RX6, "place", "(IIII)V"⟩
abbrev cX6_setting : ByteArray := prog_8_method_4_code
def yX6_setting : MethodName := ⟨RX6, "setting", "(I)I"⟩
abbrev cX6_change : ByteArray := prog_8_method_5_code
def yX6_change : MethodName := ⟨RX6, "change", "(II)V"⟩
abbrev cX6_hunters : ByteArray := prog_8_method_6_code
def yX6_hunters : MethodName := ⟨RX6, "hunters", "()I"⟩
abbrev cX6_taken : ByteArray := prog_8_method_7_code
def yX6_taken : MethodName := ⟨RX6, "taken", "()I"⟩
abbrev cX6_hunterOnFox : ByteArray := prog_8_method_8_code
def yX6_hunterOnFox : MethodName := ⟨RX6, "hunterOnFox", "()Z"⟩
def RX7 : String := "BoardEnds$Survey"
def TX7 : u_T := fun k => match k with
  | 0 => ("BoardEnds$Survey", "grid", "LBoardEnds$Grid;", true)
  | 1 => ("BoardEnds$Survey", "ends", "LBoardEnds$Ends;", true)
  | 2 => ("BoardEnds$Survey", "folding", "LBoardEnds$Folding;", true)
  | 3 => ("BoardEnds$Survey", "totals", "[I", true)
  | 4 => ("BoardEnds$Survey", "standing", "[I", true)
  | 5 => ("BoardEnds$Survey", "counts", "[I", true)
  | 6 => ("BoardEnds$Survey", "told", "[I", true)
  | _ => ("BoardEnds$Survey", "prepared", "I", false)
def tyX7 : Nat → FieldType := fun k => match k with
  | 0 => .object "BoardEnds$Grid"
  | 1 => .object "BoardEnds$Ends"
  | 2 => .object "BoardEnds$Folding"
  | 3 => .array .int
  | 4 => .array .int
  | 5 => .array .int
  | 6 => .array .int
  | _ => .int
theorem nmX7 : ∀ a, a < 8 → ∀ b, b < 8 → a ≠ b → (TX7 a).2.1 ≠ (TX7 b).2.1 := by decide +kernel
theorem tyX7_ok : ∀ k, k < 8 → parseFieldDescriptor (TX7 k).2.2.1 = some (tyX7 k) := by decide +kernel
abbrev cX7_init : ByteArray := prog_9_method_1_code
def yX7_init : MethodName := ⟨RX7, "<init>", "(LBoardEnds$Grid;LBoardEnds$Ends;LBoardEnds$Folding;)V"⟩
abbrev cX7_total : ByteArray := prog_9_method_2_code
def yX7_total : MethodName := ⟨RX7, "total", "(I)I"⟩
abbrev cX7_told : ByteArray := prog_9_method_3_code
def yX7_told : MethodName := ⟨RX7, "told", "(I)I"⟩
abbrev cX7_countWith : ByteArray := prog_9_method_4_code
def yX7_countWith : MethodName := ⟨RX7, "countWith", "(I)I"⟩
abbrev cX7_distanceOf : ByteArray := prog_9_method_5_code
def yX7_distanceOf : MethodName := ⟨RX7, "distanceOf", "(I)I"⟩
abbrev cX7_prepare : ByteArray := prog_9_method_6_code
def yX7_prepare : MethodName := ⟨RX7, "prepare", "(LBoardEnds$State;)V"⟩
abbrev cX7_goThrough : ByteArray := prog_9_method_7_code
def yX7_goThrough : MethodName := ⟨RX7, "goThrough", "(I)V"⟩
abbrev cX7_collect : ByteArray := prog_9_method_8_code
def yX7_collect : MethodName := ⟨RX7, "collect", "(I)V"⟩
abbrev cX7_makeRule : ByteArray := prog_9_method_9_code
def yX7_makeRule : MethodName := ⟨RX7, "makeRule", "()V"⟩
abbrev cX7_commonest : ByteArray := prog_9_method_10_code
def yX7_commonest : MethodName := ⟨RX7, "commonest", "(I)I"⟩
abbrev cX7_countExceptions : ByteArray := prog_9_method_11_code
def yX7_countExceptions : MethodName := ⟨RX7, "countExceptions", "()V"⟩
abbrev cX7_countException : ByteArray := prog_9_method_12_code
def yX7_countException : MethodName := ⟨RX7, "countException", "(IZ)V"⟩
def RX8 : String := "BoardEnds"
def TX8 : u_T := fun k => match k with
  | 0 => ("BoardEnds", "grid", "LBoardEnds$Grid;", true)
  | 1 => ("BoardEnds", "ends", "LBoardEnds$Ends;", true)
  | 2 => ("BoardEnds", "folding", "LBoardEnds$Folding;", true)
  | 3 => ("BoardEnds", "survey", "LBoardEnds$Survey;", true)
  | 4 => ("BoardEnds", "game", "LBoardEnds$Game;", true)
  | 5 => ("BoardEnds", "state", "LBoardEnds$State;", true)
  | 6 => ("BoardEnds", "ahead", "LBoardEnds$State;", true)
  | 7 => ("BoardEnds", "history", "LBoardEnds$History;", true)
  | 8 => ("BoardEnds", "pad", "LBoardEnds$Pad;", true)
  | 9 => ("BoardEnds", "slots", "[LBoardEnds$State;", true)
  | _ => ("BoardEnds", "saved", "[Z", true)
def tyX8 : Nat → FieldType := fun k => match k with
  | 0 => .object "BoardEnds$Grid"
  | 1 => .object "BoardEnds$Ends"
  | 2 => .object "BoardEnds$Folding"
  | 3 => .object "BoardEnds$Survey"
  | 4 => .object "BoardEnds$Game"
  | 5 => .object "BoardEnds$State"
  | 6 => .object "BoardEnds$State"
  | 7 => .object "BoardEnds$History"
  | 8 => .object "BoardEnds$Pad"
  | 9 => .array (.object "BoardEnds$State")
  | _ => .array .boolean
theorem nmX8 : ∀ a, a < 11 → ∀ b, b < 11 → a ≠ b → (TX8 a).2.1 ≠ (TX8 b).2.1 := by decide +kernel
theorem tyX8_ok : ∀ k, k < 11 → parseFieldDescriptor (TX8 k).2.2.1 = some (tyX8 k) := by decide +kernel
abbrev cX8_init : ByteArray := prog_1_method_1_code
def yX8_init : MethodName := ⟨RX8, "<init>", "()V"⟩
abbrev cX8_set : ByteArray := prog_1_method_2_code
def yX8_set : MethodName := ⟨RX8, "set", "(II)I"⟩
abbrev cX8_block : ByteArray := prog_1_method_3_code
def yX8_block : MethodName := ⟨RX8, "block", "(I)I"⟩
abbrev cX8_setUp : ByteArray := prog_1_method_4_code
def yX8_setUp : MethodName := ⟨RX8, "setUp", "(IIII)I"⟩
abbrev cX8_move : ByteArray := prog_1_method_5_code
def yX8_move : MethodName := ⟨RX8, "move", "(II)I"⟩
abbrev cX8_play : ByteArray := prog_1_method_6_code
def yX8_play : MethodName := ⟨RX8, "play", "()I"⟩
abbrev cX8_readPad : ByteArray := prog_1_method_7_code
def yX8_readPad : MethodName := ⟨RX8, "readPad", "()I"⟩
abbrev cX8_now : ByteArray := prog_1_method_8_code
def yX8_now : MethodName := ⟨RX8, "now", "(I)I"⟩
abbrev cX8_distance : ByteArray := prog_1_method_9_code
def yX8_distance : MethodName := ⟨RX8, "distance", "(IIII)I"⟩
abbrev cX8_number : ByteArray := prog_1_method_10_code
def yX8_number : MethodName := ⟨RX8, "number", "(IIII)I"⟩
abbrev cX8_folded : ByteArray := prog_1_method_11_code
def yX8_folded : MethodName := ⟨RX8, "folded", "(IIII)I"⟩
abbrev cX8_of : ByteArray := prog_1_method_12_code
def yX8_of : MethodName := ⟨RX8, "of", "(II)I"⟩
abbrev cX8_line : ByteArray := prog_1_method_13_code
def yX8_line : MethodName := ⟨RX8, "line", "(I)I"⟩
abbrev cX8_all : ByteArray := prog_1_method_14_code
def yX8_all : MethodName := ⟨RX8, "all", "(I)I"⟩
abbrev cX8_withDistance : ByteArray := prog_1_method_15_code
def yX8_withDistance : MethodName := ⟨RX8, "withDistance", "(I)I"⟩
abbrev cX8_rule : ByteArray := prog_1_method_16_code
def yX8_rule : MethodName := ⟨RX8, "rule", "(I)I"⟩
abbrev cX8_put : ByteArray := prog_1_method_17_code
def yX8_put : MethodName := ⟨RX8, "put", "(J)I"⟩
abbrev cX8_wipe : ByteArray := prog_1_method_18_code
def yX8_wipe : MethodName := ⟨RX8, "wipe", "()I"⟩
abbrev cX8_fault : ByteArray := prog_1_method_19_code
def yX8_fault : MethodName := ⟨RX8, "fault", "()I"⟩
abbrev cX8_undo : ByteArray := prog_1_method_20_code
def yX8_undo : MethodName := ⟨RX8, "undo", "()I"⟩
abbrev cX8_save : ByteArray := prog_1_method_21_code
def yX8_save : MethodName := ⟨RX8, "save", "(I)I"⟩
abbrev cX8_restore : ByteArray := prog_1_method_22_code
def yX8_restore : MethodName := ⟨RX8, "restore", "(I)I"⟩
abbrev cX8_errorOf : ByteArray := prog_1_method_23_code
def yX8_errorOf : MethodName := ⟨RX8, "errorOf", "(IIII)I"⟩
abbrev cX8_makeMove : ByteArray := prog_1_method_24_code
def yX8_makeMove : MethodName := ⟨RX8, "makeMove", "(II)I"⟩
abbrev cX8_distanceNow : ByteArray := prog_1_method_25_code
def yX8_distanceNow : MethodName := ⟨RX8, "distanceNow", "()I"⟩
abbrev cX8_numberNow : ByteArray := prog_1_method_26_code
def yX8_numberNow : MethodName := ⟨RX8, "numberNow", "(LBoardEnds$State;)I"⟩
abbrev cX8_foldedNumber : ByteArray := prog_1_method_27_code
def yX8_foldedNumber : MethodName := ⟨RX8, "foldedNumber", "(I)I"⟩
def RX9 : String := "BoardEndsModel"
def TX9 : u_T := fun k => match k with
  | 0 => ("BoardEndsModel", "at", "[I", true)
  | 1 => ("BoardEndsModel", "past", "[I", true)
  | 2 => ("BoardEndsModel", "pastFirst", "I", false)
  | 3 => ("BoardEndsModel", "pastMany", "I", false)
  | 4 => ("BoardEndsModel", "slots", "[I", true)
  | 5 => ("BoardEndsModel", "isSaved", "[Z", true)
  | 6 => ("BoardEndsModel", "pairLow", "[I", true)
  | 7 => ("BoardEndsModel", "pairHigh", "[I", true)
  | 8 => ("BoardEndsModel", "far", "[I", true)
  | 9 => ("BoardEndsModel", "stands", "[I", true)
  | 10 => ("BoardEndsModel", "alike", "[I", true)
  | 11 => ("BoardEndsModel", "ways", "[I", true)
  | 12 => ("BoardEndsModel", "symmetries", "I", false)
  | 13 => ("BoardEndsModel", "rules", "[I", true)
  | 14 => ("BoardEndsModel", "counts", "[I", true)
  | 15 => ("BoardEndsModel", "worked", "[I", true)
  | 16 => ("BoardEndsModel", "isWorked", "Z", false)
  | 17 => ("BoardEndsModel", "bestFrom", "I", false)
  | 18 => ("BoardEndsModel", "bestTo", "I", false)
  | 19 => ("BoardEndsModel", "pad", "[I", true)
  | _ => ("BoardEndsModel", "padMany", "I", false)
def tyX9 : Nat → FieldType := fun k => match k with
  | 0 => .array .int
  | 1 => .array .int
  | 2 => .int
  | 3 => .int
  | 4 => .array .int
  | 5 => .array .boolean
  | 6 => .array .int
  | 7 => .array .int
  | 8 => .array .int
  | 9 => .array .int
  | 10 => .array .int
  | 11 => .array .int
  | 12 => .int
  | 13 => .array .int
  | 14 => .array .int
  | 15 => .array .int
  | 16 => .boolean
  | 17 => .int
  | 18 => .int
  | 19 => .array .int
  | _ => .int
theorem nmX9 : ∀ a, a < 21 → ∀ b, b < 21 → a ≠ b → (TX9 a).2.1 ≠ (TX9 b).2.1 := by decide +kernel
theorem tyX9_ok : ∀ k, k < 21 → parseFieldDescriptor (TX9 k).2.2.1 = some (tyX9 k) := by decide +kernel
abbrev cX9_init : ByteArray := prog_11_method_1_code
def yX9_init : MethodName := ⟨RX9, "<init>", "()V"⟩
abbrev cX9_in : ByteArray := prog_11_method_3_code
def yX9_in : MethodName := ⟨RX9, "in", "(III)Z"⟩
abbrev cX9_isPlace : ByteArray := prog_11_method_4_code
def yX9_isPlace : MethodName := ⟨RX9, "isPlace", "(I)Z"⟩
abbrev cX9_has : ByteArray := prog_11_method_5_code
def yX9_has : MethodName := ⟨RX9, "has", "(II)Z"⟩
abbrev cX9_many : ByteArray := prog_11_method_6_code
def yX9_many : MethodName := ⟨RX9, "many", "(I)I"⟩
abbrev cX9_lesser : ByteArray := prog_11_method_7_code
def yX9_lesser : MethodName := ⟨RX9, "lesser", "(II)I"⟩
abbrev cX9_greater : ByteArray := prog_11_method_8_code
def yX9_greater : MethodName := ⟨RX9, "greater", "(II)I"⟩
abbrev cX9_size : ByteArray := prog_11_method_9_code
def yX9_size : MethodName := ⟨RX9, "size", "(I)I"⟩
abbrev cX9_keep : ByteArray := prog_11_method_10_code
def yX9_keep : MethodName := ⟨RX9, "keep", "()V"⟩
abbrev cX9_rowsBetween : ByteArray := prog_11_method_11_code
def yX9_rowsBetween : MethodName := ⟨RX9, "rowsBetween", "(II)I"⟩
abbrev cX9_columnsBetween : ByteArray := prog_11_method_12_code
def yX9_columnsBetween : MethodName := ⟨RX9, "columnsBetween", "(II)I"⟩
abbrev cX9_between : ByteArray := prog_11_method_13_code
def yX9_between : MethodName := ⟨RX9, "between", "(II)I"⟩
abbrev cX9_isStep : ByteArray := prog_11_method_14_code
def yX9_isStep : MethodName := ⟨RX9, "isStep", "(IIZ)Z"⟩
abbrev cX9_isFree : ByteArray := prog_11_method_15_code
def yX9_isFree : MethodName := ⟨RX9, "isFree", "(I)Z"⟩
abbrev cX9_pair : ByteArray := prog_11_method_16_code
def yX9_pair : MethodName := ⟨RX9, "pair", "(II)I"⟩
abbrev cX9_numberOf : ByteArray := prog_11_method_17_code
def yX9_numberOf : MethodName := ⟨RX9, "numberOf", "(IIII)I"⟩
abbrev cX9_isPosition : ByteArray := prog_11_method_18_code
def yX9_isPosition : MethodName := ⟨RX9, "isPosition", "(I)Z"⟩
abbrev cX9_canCatch : ByteArray := prog_11_method_19_code
def yX9_canCatch : MethodName := ⟨RX9, "canCatch", "(II)Z"⟩
abbrev cX9_ofFox : ByteArray := prog_11_method_20_code
def yX9_ofFox : MethodName := ⟨RX9, "ofFox", "(II)I"⟩
abbrev cX9_ofHunter : ByteArray := prog_11_method_21_code
def yX9_ofHunter : MethodName := ⟨RX9, "ofHunter", "(III)I"⟩
abbrev cX9_nearer : ByteArray := prog_11_method_22_code
def yX9_nearer : MethodName := ⟨RX9, "nearer", "(II)I"⟩
abbrev cX9_ofHunters : ByteArray := prog_11_method_23_code
def yX9_ofHunters : MethodName := ⟨RX9, "ofHunters", "(II)I"⟩
abbrev cX9_workOut : ByteArray := prog_11_method_24_code
def yX9_workOut : MethodName := ⟨RX9, "workOut", "(I)Z"⟩
abbrev cX9_workOutAll : ByteArray := prog_11_method_25_code
def yX9_workOutAll : MethodName := ⟨RX9, "workOutAll", "()V"⟩
abbrev cX9_turned : ByteArray := prog_11_method_26_code
def yX9_turned : MethodName := ⟨RX9, "turned", "(II)I"⟩
abbrev cX9_findSymmetries : ByteArray := prog_11_method_27_code
def yX9_findSymmetries : MethodName := ⟨RX9, "findSymmetries", "()V"⟩
abbrev cX9_madeBy : ByteArray := prog_11_method_28_code
def yX9_madeBy : MethodName := ⟨RX9, "madeBy", "(II)I"⟩
abbrev cX9_fold : ByteArray := prog_11_method_29_code
def yX9_fold : MethodName := ⟨RX9, "fold", "()V"⟩
abbrev cX9_foldOne : ByteArray := prog_11_method_30_code
def yX9_foldOne : MethodName := ⟨RX9, "foldOne", "(I)V"⟩
abbrev cX9_key : ByteArray := prog_11_method_31_code
def yX9_key : MethodName := ⟨RX9, "key", "(I)I"⟩
abbrev cX9_ruleOf : ByteArray := prog_11_method_32_code
def yX9_ruleOf : MethodName := ⟨RX9, "ruleOf", "(I)I"⟩
abbrev cX9_isAsWorked : ByteArray := prog_11_method_33_code
def yX9_isAsWorked : MethodName := ⟨RX9, "isAsWorked", "()Z"⟩
abbrev cX9_work : ByteArray := prog_11_method_34_code
def yX9_work : MethodName := ⟨RX9, "work", "()V"⟩
abbrev cX9_isHit : ByteArray := prog_11_method_35_code
def yX9_isHit : MethodName := ⟨RX9, "isHit", "()Z"⟩
abbrev cX9_numberNow : ByteArray := prog_11_method_36_code
def yX9_numberNow : MethodName := ⟨RX9, "numberNow", "()I"⟩
abbrev cX9_isCaught : ByteArray := prog_11_method_37_code
def yX9_isCaught : MethodName := ⟨RX9, "isCaught", "()Z"⟩
abbrev cX9_distanceNow : ByteArray := prog_11_method_38_code
def yX9_distanceNow : MethodName := ⟨RX9, "distanceNow", "()I"⟩
abbrev cX9_isHunterMove : ByteArray := prog_11_method_39_code
def yX9_isHunterMove : MethodName := ⟨RX9, "isHunterMove", "(II)Z"⟩
abbrev cX9_isFoxMove : ByteArray := prog_11_method_40_code
def yX9_isFoxMove : MethodName := ⟨RX9, "isFoxMove", "(II)Z"⟩
abbrev cX9_isMove : ByteArray := prog_11_method_41_code
def yX9_isMove : MethodName := ⟨RX9, "isMove", "(II)Z"⟩
abbrev cX9_worth : ByteArray := prog_11_method_42_code
def yX9_worth : MethodName := ⟨RX9, "worth", "(II)I"⟩
abbrev cX9_findBest : ByteArray := prog_11_method_43_code
def yX9_findBest : MethodName := ⟨RX9, "findBest", "()Z"⟩
abbrev cX9_make : ByteArray := prog_11_method_44_code
def yX9_make : MethodName := ⟨RX9, "make", "(II)I"⟩
abbrev cX9_set : ByteArray := prog_11_method_45_code
def yX9_set : MethodName := ⟨RX9, "set", "(II)I"⟩
abbrev cX9_block : ByteArray := prog_11_method_46_code
def yX9_block : MethodName := ⟨RX9, "block", "(I)I"⟩
abbrev cX9_whyNot : ByteArray := prog_11_method_47_code
def yX9_whyNot : MethodName := ⟨RX9, "whyNot", "(IIII)I"⟩
abbrev cX9_lay : ByteArray := prog_11_method_48_code
def yX9_lay : MethodName := ⟨RX9, "lay", "(IIII)V"⟩
abbrev cX9_setUp : ByteArray := prog_11_method_49_code
def yX9_setUp : MethodName := ⟨RX9, "setUp", "(IIII)I"⟩
abbrev cX9_move : ByteArray := prog_11_method_50_code
def yX9_move : MethodName := ⟨RX9, "move", "(II)I"⟩
abbrev cX9_play : ByteArray := prog_11_method_51_code
def yX9_play : MethodName := ⟨RX9, "play", "()I"⟩
abbrev cX9_best : ByteArray := prog_11_method_52_code
def yX9_best : MethodName := ⟨RX9, "best", "(I)I"⟩
abbrev cX9_standsNow : ByteArray := prog_11_method_53_code
def yX9_standsNow : MethodName := ⟨RX9, "standsNow", "()I"⟩
abbrev cX9_now : ByteArray := prog_11_method_54_code
def yX9_now : MethodName := ⟨RX9, "now", "(I)I"⟩
abbrev cX9_distance : ByteArray := prog_11_method_55_code
def yX9_distance : MethodName := ⟨RX9, "distance", "(IIII)I"⟩
abbrev cX9_number : ByteArray := prog_11_method_56_code
def yX9_number : MethodName := ⟨RX9, "number", "(IIII)I"⟩
abbrev cX9_folded : ByteArray := prog_11_method_57_code
def yX9_folded : MethodName := ⟨RX9, "folded", "(IIII)I"⟩
abbrev cX9_of : ByteArray := prog_11_method_58_code
def yX9_of : MethodName := ⟨RX9, "of", "(II)I"⟩
abbrev cX9_line : ByteArray := prog_11_method_59_code
def yX9_line : MethodName := ⟨RX9, "line", "(I)I"⟩
abbrev cX9_positions : ByteArray := prog_11_method_60_code
def yX9_positions : MethodName := ⟨RX9, "positions", "(Z)I"⟩
abbrev cX9_greatest : ByteArray := prog_11_method_61_code
def yX9_greatest : MethodName := ⟨RX9, "greatest", "()I"⟩
abbrev cX9_lowestWith : ByteArray := prog_11_method_62_code
def yX9_lowestWith : MethodName := ⟨RX9, "lowestWith", "(I)I"⟩
abbrev cX9_standingWith : ByteArray := prog_11_method_63_code
def yX9_standingWith : MethodName := ⟨RX9, "standingWith", "(I)I"⟩
abbrev cX9_isException : ByteArray := prog_11_method_64_code
def yX9_isException : MethodName := ⟨RX9, "isException", "(I)Z"⟩
abbrev cX9_exceptions : ByteArray := prog_11_method_65_code
def yX9_exceptions : MethodName := ⟨RX9, "exceptions", "()I"⟩
abbrev cX9_runs : ByteArray := prog_11_method_66_code
def yX9_runs : MethodName := ⟨RX9, "runs", "(I)I"⟩
abbrev cX9_blocks : ByteArray := prog_11_method_67_code
def yX9_blocks : MethodName := ⟨RX9, "blocks", "()I"⟩
abbrev cX9_keys : ByteArray := prog_11_method_68_code
def yX9_keys : MethodName := ⟨RX9, "keys", "()I"⟩
abbrev cX9_all : ByteArray := prog_11_method_69_code
def yX9_all : MethodName := ⟨RX9, "all", "(I)I"⟩
abbrev cX9_withDistance : ByteArray := prog_11_method_70_code
def yX9_withDistance : MethodName := ⟨RX9, "withDistance", "(I)I"⟩
abbrev cX9_rule : ByteArray := prog_11_method_71_code
def yX9_rule : MethodName := ⟨RX9, "rule", "(I)I"⟩
abbrev cX9_put : ByteArray := prog_11_method_72_code
def yX9_put : MethodName := ⟨RX9, "put", "(J)I"⟩
abbrev cX9_wipe : ByteArray := prog_11_method_73_code
def yX9_wipe : MethodName := ⟨RX9, "wipe", "()I"⟩
abbrev cX9_canStand : ByteArray := prog_11_method_74_code
def yX9_canStand : MethodName := ⟨RX9, "canStand", "(II)Z"⟩
abbrev cX9_fault : ByteArray := prog_11_method_75_code
def yX9_fault : MethodName := ⟨RX9, "fault", "()I"⟩
abbrev cX9_placesOf : ByteArray := prog_11_method_76_code
def yX9_placesOf : MethodName := ⟨RX9, "placesOf", "(I)I"⟩
abbrev cX9_lowest : ByteArray := prog_11_method_77_code
def yX9_lowest : MethodName := ⟨RX9, "lowest", "(I)I"⟩
abbrev cX9_readPad : ByteArray := prog_11_method_78_code
def yX9_readPad : MethodName := ⟨RX9, "readPad", "()I"⟩
abbrev cX9_undo : ByteArray := prog_11_method_79_code
def yX9_undo : MethodName := ⟨RX9, "undo", "()I"⟩
abbrev cX9_save : ByteArray := prog_11_method_80_code
def yX9_save : MethodName := ⟨RX9, "save", "(I)I"⟩
abbrev cX9_restore : ByteArray := prog_11_method_81_code
def yX9_restore : MethodName := ⟨RX9, "restore", "(I)I"⟩
def RJ6 : String := "java/lang/Integer"
abbrev cJ6_bitCount_0f7a4 : ByteArray := prog_12_method_49_code
def yJ6_bitCount_0f7a4 : MethodName := ⟨RJ6, "bitCount", "(I)I"⟩
def RJ9 : String := "java/lang/Math"
abbrev cJ9_abs_0f7a4 : ByteArray := prog_13_method_59_code
def yJ9_abs_0f7a4 : MethodName := ⟨RJ9, "abs", "(I)I"⟩
abbrev cJ9_max_7cf53 : ByteArray := prog_13_method_65_code
def yJ9_max_7cf53 : MethodName := ⟨RJ9, "max", "(II)I"⟩
abbrev cJ9_min_7cf53 : ByteArray := prog_13_method_69_code
def yJ9_min_7cf53 : MethodName := ⟨RJ9, "min", "(II)I"⟩
def RJ7 : String := "java/util/Arrays"
abbrev cJ7_fill_53178 : ByteArray := prog_14_method_103_code
def yJ7_fill_53178 : MethodName := ⟨RJ7, "fill", "([II)V"⟩
def RL : String := "BoardEndsLaw"
abbrev cL_law : ByteArray := code
def yL_law : MethodName := ⟨RL, "law", "([I)Z"⟩
abbrev vwCl : List vw_C := [(RX0, TX0, 9), (RX1, TX1, 4), (RX2, TX2, 2), (RX3, TX3, 7), (RX4, TX4, 2), (RX5, TX5, 2), (RX6, TX6, 6), (RX7, TX7, 8), (RX8, TX8, 11), (RX9, TX9, 21)]
def gw : List Cond := tables_1.filter goodWord ++ (k2_sels lw_privs).filter goodWord
theorem gw_of {w : Cond} (h : w ∈ tables_1) (hg : goodWord w = true) : w ∈ gw := List.mem_append_left _ (List.mem_filter.mpr ⟨h, hg⟩)
theorem gw_sel {w : Cond} (h : w ∈ k2_sels lw_privs) (hg : goodWord w = true) : w ∈ gw := List.mem_append_right _ (List.mem_filter.mpr ⟨h, hg⟩)
theorem gw_good : GoodIn gw gw := fun w h => ⟨h, good_of_word ((List.mem_append.mp h).elim (fun q => (List.mem_filter.mp q).2) (fun q => (List.mem_filter.mp q).2))⟩
theorem gw_tbl {w : Cond} (h : w ∈ gw) : w ∈ lw_tbl := (List.mem_append.mp h).elim (fun q => List.mem_append_right _ (List.mem_filter.mp q).1) (fun q => List.mem_append_left _ (List.mem_filter.mp q).1)
def xCS (own : String) (idx : Nat) (y : MethodName) (cc : ByteArray) (nL : Nat) (ret : Option FieldType) (n : Nat) : Prop := Cond.methodLink own idx y ∈ gw ∧ Cond.static y ∈ gw ∧ Cond.initialized y.cls ∈ gw ∧ Cond.code y cc nL ret ∈ gw ∧ y.cls ≠ "java/lang/invoke/MethodHandle" ∧ y.cls ≠ "java/lang/invoke/VarHandle" ∧ (parseMethodDescriptor y.desc).map (fun d => d.parameters.length) = some n
def xCV (own : String) (idx : Nat) (y : MethodName) (cc : ByteArray) (nL : Nat) (ret : Option FieldType) (n : Nat) : Prop := Cond.methodLink own idx y ∈ gw ∧ Cond.instanceMethod y ∈ gw ∧ Cond.selects y.cls y y ∈ gw ∧ Cond.initialized y.cls ∈ gw ∧ Cond.code y cc nL ret ∈ gw ∧ y.cls ≠ "java/lang/invoke/MethodHandle" ∧ y.cls ≠ "java/lang/invoke/VarHandle" ∧ (parseMethodDescriptor y.desc).map (fun d => d.parameters.length) = some n
def xCI (own : String) (idx : Nat) (y : MethodName) (cc : ByteArray) (nL : Nat) (n : Nat) : Prop := Cond.methodLink own idx y ∈ gw ∧ Cond.instanceMethod y ∈ gw ∧ Cond.initialized y.cls ∈ gw ∧ Cond.code y cc nL none ∈ gw ∧ y.name = "<init>" ∧ y.cls ≠ "java/lang/invoke/MethodHandle" ∧ y.cls ≠ "java/lang/invoke/VarHandle" ∧ (parseMethodDescriptor y.desc).map (fun d => d.parameters.length) = some n
def xCN (y : MethodName) (cc : ByteArray) (nL : Nat) (n : Nat) : Prop := Cond.instanceMethod y ∈ gw ∧ Cond.initialized y.cls ∈ gw ∧ Cond.code y cc nL none ∈ gw ∧ y.name = "<init>" ∧ y.cls ≠ "java/lang/invoke/MethodHandle" ∧ y.cls ≠ "java/lang/invoke/VarHandle" ∧ (parseMethodDescriptor y.desc).map (fun d => d.parameters.length) = some n
def xKl (C : String) (T : u_T) (N ci : Nat) (ty : Nat → FieldType) : Prop := (∀ w ∈ u_ws C T N, w ∈ gw) ∧ vwCl[ci]? = some (C, T, N) ∧ (∀ k, k < N → parseFieldDescriptor (T k).2.2.1 = some (ty k)) ∧ (∀ a, a < N → ∀ b, b < N → a ≠ b → (T a).2.1 ≠ (T b).2.1)
def xFl (own : String) (idx : Nat) (T : u_T) (N k : Nat) : Prop := Cond.fieldLink own idx (T k).1 (T k).2.1 (T k).2.2.1 ∈ gw ∧ k < N
theorem m0 : Cond.initialized RL ∈ gw := gw_of (List.mem_of_getElem? (i := 0) (by decide +kernel)) (by decide +kernel)
theorem m1 : Cond.initialized RX8 ∈ gw := gw_of (List.mem_of_getElem? (i := 1) (by decide +kernel)) (by decide +kernel)
theorem m2 : Cond.initialized RX3 ∈ gw := gw_of (List.mem_of_getElem? (i := 2) (by decide +kernel)) (by decide +kernel)
theorem m3 : Cond.initialized RJ9 ∈ gw := gw_of (List.mem_of_getElem? (i := 3) (by decide +kernel)) (by decide +kernel)
theorem m4 : Cond.initialized RX0 ∈ gw := gw_of (List.mem_of_getElem? (i := 4) (by decide +kernel)) (by decide +kernel)
theorem m5 : Cond.initialized RX1 ∈ gw := gw_of (List.mem_of_getElem? (i := 5) (by decide +kernel)) (by decide +kernel)
theorem m6 : Cond.initialized RX7 ∈ gw := gw_of (List.mem_of_getElem? (i := 6) (by decide +kernel)) (by decide +kernel)
theorem m7 : Cond.initialized RX2 ∈ gw := gw_of (List.mem_of_getElem? (i := 7) (by decide +kernel)) (by decide +kernel)
theorem m8 : Cond.initialized RX6 ∈ gw := gw_of (List.mem_of_getElem? (i := 8) (by decide +kernel)) (by decide +kernel)
theorem m9 : Cond.initialized RX4 ∈ gw := gw_of (List.mem_of_getElem? (i := 9) (by decide +kernel)) (by decide +kernel)
theorem m10 : Cond.initialized RX5 ∈ gw := gw_of (List.mem_of_getElem? (i := 10) (by decide +kernel)) (by decide +kernel)
theorem m11 : Cond.initialized RX9 ∈ gw := gw_of (List.mem_of_getElem? (i := 11) (by decide +kernel)) (by decide +kernel)
theorem m12 : Cond.initialized RJ6 ∈ gw := gw_of (List.mem_of_getElem? (i := 12) (by decide +kernel)) (by decide +kernel)
theorem m13 : Cond.initialized RJ7 ∈ gw := gw_of (List.mem_of_getElem? (i := 13) (by decide +kernel)) (by decide +kernel)
theorem m14 : Cond.classLink RL 7 RX8 ∈ gw := gw_of (List.mem_of_getElem? (i := 14) (by decide +kernel)) (by decide +kernel)
theorem m15 : Cond.instantiable RX8 11 ∈ gw := gw_of (List.mem_of_getElem? (i := 15) (by decide +kernel)) (by decide +kernel)
theorem m16 : Cond.methodLink RL 9 yX8_init ∈ gw := gw_of (List.mem_of_getElem? (i := 16) (by decide +kernel)) (by decide +kernel)
theorem m17 : Cond.instanceMethod yX8_init ∈ gw := gw_of (List.mem_of_getElem? (i := 17) (by decide +kernel)) (by decide +kernel)
theorem m18 : Cond.code yX8_init cX8_init 2 none ∈ gw := gw_of (List.mem_of_getElem? (i := 18) (by decide +kernel)) (by decide +kernel)
theorem m19 : Cond.methodLink RX8 1 objectInit ∈ gw := gw_of (List.mem_of_getElem? (i := 19) (by decide +kernel)) (by decide +kernel)
theorem m20 : Cond.instanceMethod objectInit ∈ gw := gw_of (List.mem_of_getElem? (i := 20) (by decide +kernel)) (by decide +kernel)
theorem m21 : Cond.code objectInit ⟨#[0xb1]⟩ 1 none ∈ gw := gw_of (List.mem_of_getElem? (i := 21) (by decide +kernel)) (by decide +kernel)
theorem m22 : Cond.classLink RX8 7 RX3 ∈ gw := gw_of (List.mem_of_getElem? (i := 22) (by decide +kernel)) (by decide +kernel)
theorem m23 : Cond.instantiable RX3 7 ∈ gw := gw_of (List.mem_of_getElem? (i := 23) (by decide +kernel)) (by decide +kernel)
theorem m24 : Cond.methodLink RX8 9 yX3_init ∈ gw := gw_of (List.mem_of_getElem? (i := 24) (by decide +kernel)) (by decide +kernel)
theorem m25 : Cond.instanceMethod yX3_init ∈ gw := gw_of (List.mem_of_getElem? (i := 25) (by decide +kernel)) (by decide +kernel)
theorem m26 : Cond.code yX3_init cX3_init 1 none ∈ gw := gw_of (List.mem_of_getElem? (i := 26) (by decide +kernel)) (by decide +kernel)
theorem m27 : Cond.methodLink RX3 1 objectInit ∈ gw := gw_of (List.mem_of_getElem? (i := 27) (by decide +kernel)) (by decide +kernel)
theorem m28 : Cond.methodLink RX3 31 yX3_fillSteps ∈ gw := gw_of (List.mem_of_getElem? (i := 28) (by decide +kernel)) (by decide +kernel)
theorem m30 : Cond.instanceMethod yX3_fillSteps ∈ gw := gw_of (List.mem_of_getElem? (i := 30) (by decide +kernel)) (by decide +kernel)
theorem m31 : Cond.code yX3_fillSteps cX3_fillSteps 4 none ∈ gw := gw_of (List.mem_of_getElem? (i := 31) (by decide +kernel)) (by decide +kernel)
theorem m32 : Cond.methodLink RX3 40 yX3_far ∈ gw := gw_of (List.mem_of_getElem? (i := 32) (by decide +kernel)) (by decide +kernel)
theorem m33 : Cond.static yX3_far ∈ gw := gw_of (List.mem_of_getElem? (i := 33) (by decide +kernel)) (by decide +kernel)
theorem m34 : Cond.code yX3_far cX3_far 2 (some .int) ∈ gw := gw_of (List.mem_of_getElem? (i := 34) (by decide +kernel)) (by decide +kernel)
theorem m35 : Cond.methodLink RX3 44 yJ9_abs_0f7a4 ∈ gw := gw_of (List.mem_of_getElem? (i := 35) (by decide +kernel)) (by decide +kernel)
theorem m36 : Cond.static yJ9_abs_0f7a4 ∈ gw := gw_of (List.mem_of_getElem? (i := 36) (by decide +kernel)) (by decide +kernel)
theorem m37 : Cond.code yJ9_abs_0f7a4 cJ9_abs_0f7a4 1 (some .int) ∈ gw := gw_of (List.mem_of_getElem? (i := 37) (by decide +kernel)) (by decide +kernel)
theorem m38 : Cond.methodLink RX3 34 yX3_fillPairs ∈ gw := gw_of (List.mem_of_getElem? (i := 38) (by decide +kernel)) (by decide +kernel)
theorem m40 : Cond.instanceMethod yX3_fillPairs ∈ gw := gw_of (List.mem_of_getElem? (i := 40) (by decide +kernel)) (by decide +kernel)
theorem m41 : Cond.code yX3_fillPairs cX3_fillPairs 4 none ∈ gw := gw_of (List.mem_of_getElem? (i := 41) (by decide +kernel)) (by decide +kernel)
theorem m42 : Cond.methodLink RX3 37 yX3_fillImages ∈ gw := gw_of (List.mem_of_getElem? (i := 42) (by decide +kernel)) (by decide +kernel)
theorem m44 : Cond.instanceMethod yX3_fillImages ∈ gw := gw_of (List.mem_of_getElem? (i := 44) (by decide +kernel)) (by decide +kernel)
theorem m45 : Cond.code yX3_fillImages cX3_fillImages 5 none ∈ gw := gw_of (List.mem_of_getElem? (i := 45) (by decide +kernel)) (by decide +kernel)
theorem m46 : Cond.fieldLink RX3 9 "BoardEnds$Grid" "straight" "[I" ∈ gw := gw_of (List.mem_of_getElem? (i := 46) (by decide +kernel)) (by decide +kernel)
theorem m47 : Cond.fieldLink RX3 13 "BoardEnds$Grid" "corner" "[I" ∈ gw := gw_of (List.mem_of_getElem? (i := 47) (by decide +kernel)) (by decide +kernel)
theorem m48 : Cond.fieldLink RX3 16 "BoardEnds$Grid" "pairs" "[I" ∈ gw := gw_of (List.mem_of_getElem? (i := 48) (by decide +kernel)) (by decide +kernel)
theorem m49 : Cond.fieldLink RX3 19 "BoardEnds$Grid" "lowers" "[I" ∈ gw := gw_of (List.mem_of_getElem? (i := 49) (by decide +kernel)) (by decide +kernel)
theorem m50 : Cond.fieldLink RX3 22 "BoardEnds$Grid" "highers" "[I" ∈ gw := gw_of (List.mem_of_getElem? (i := 50) (by decide +kernel)) (by decide +kernel)
theorem m51 : Cond.fieldLink RX3 25 "BoardEnds$Grid" "places" "[I" ∈ gw := gw_of (List.mem_of_getElem? (i := 51) (by decide +kernel)) (by decide +kernel)
theorem m52 : Cond.fieldLink RX3 28 "BoardEnds$Grid" "images" "[I" ∈ gw := gw_of (List.mem_of_getElem? (i := 52) (by decide +kernel)) (by decide +kernel)
theorem m68 : Cond.arrayClass .int ∈ gw := gw_of (List.mem_of_getElem? (i := 68) (by decide +kernel)) (by decide +kernel)
theorem m69 : Cond.classLink RX8 16 RX0 ∈ gw := gw_of (List.mem_of_getElem? (i := 69) (by decide +kernel)) (by decide +kernel)
theorem m70 : Cond.instantiable RX0 9 ∈ gw := gw_of (List.mem_of_getElem? (i := 70) (by decide +kernel)) (by decide +kernel)
theorem m71 : Cond.methodLink RX8 18 yX0_init ∈ gw := gw_of (List.mem_of_getElem? (i := 71) (by decide +kernel)) (by decide +kernel)
theorem m72 : Cond.instanceMethod yX0_init ∈ gw := gw_of (List.mem_of_getElem? (i := 72) (by decide +kernel)) (by decide +kernel)
theorem m73 : Cond.code yX0_init cX0_init 2 none ∈ gw := gw_of (List.mem_of_getElem? (i := 73) (by decide +kernel)) (by decide +kernel)
theorem m74 : Cond.methodLink RX0 3 objectInit ∈ gw := gw_of (List.mem_of_getElem? (i := 74) (by decide +kernel)) (by decide +kernel)
theorem m75 : Cond.fieldLink RX0 9 "BoardEnds$Ends" "grid" "LBoardEnds$Grid;" ∈ gw := gw_of (List.mem_of_getElem? (i := 75) (by decide +kernel)) (by decide +kernel)
theorem m76 : Cond.fieldLink RX0 17 "BoardEnds$Ends" "distances" "[I" ∈ gw := gw_of (List.mem_of_getElem? (i := 76) (by decide +kernel)) (by decide +kernel)
theorem m77 : Cond.fieldLink RX0 21 "BoardEnds$Ends" "foxKnown" "[I" ∈ gw := gw_of (List.mem_of_getElem? (i := 77) (by decide +kernel)) (by decide +kernel)
theorem m78 : Cond.fieldLink RX0 24 "BoardEnds$Ends" "huntersKnown" "[I" ∈ gw := gw_of (List.mem_of_getElem? (i := 78) (by decide +kernel)) (by decide +kernel)
theorem m79 : Cond.fieldLink RX0 27 "BoardEnds$Ends" "prepared" "I" ∈ gw := gw_of (List.mem_of_getElem? (i := 79) (by decide +kernel)) (by decide +kernel)
theorem m80 : Cond.fieldLink RX0 44 "BoardEnds$Ends" "free" "I" ∈ gw := gw_of (List.mem_of_getElem? (i := 80) (by decide +kernel)) (by decide +kernel)
theorem m81 : Cond.fieldLink RX0 51 "BoardEnds$Ends" "foxCorners" "Z" ∈ gw := gw_of (List.mem_of_getElem? (i := 81) (by decide +kernel)) (by decide +kernel)
theorem m82 : Cond.fieldLink RX0 55 "BoardEnds$Ends" "huntCorners" "Z" ∈ gw := gw_of (List.mem_of_getElem? (i := 82) (by decide +kernel)) (by decide +kernel)
theorem m83 : Cond.fieldLink RX0 58 "BoardEnds$Ends" "mayStay" "Z" ∈ gw := gw_of (List.mem_of_getElem? (i := 83) (by decide +kernel)) (by decide +kernel)
theorem m103 : Cond.classLink RX8 25 RX1 ∈ gw := gw_of (List.mem_of_getElem? (i := 103) (by decide +kernel)) (by decide +kernel)
theorem m104 : Cond.instantiable RX1 4 ∈ gw := gw_of (List.mem_of_getElem? (i := 104) (by decide +kernel)) (by decide +kernel)
theorem m105 : Cond.methodLink RX8 27 yX1_init ∈ gw := gw_of (List.mem_of_getElem? (i := 105) (by decide +kernel)) (by decide +kernel)
theorem m106 : Cond.instanceMethod yX1_init ∈ gw := gw_of (List.mem_of_getElem? (i := 106) (by decide +kernel)) (by decide +kernel)
theorem m107 : Cond.code yX1_init cX1_init 2 none ∈ gw := gw_of (List.mem_of_getElem? (i := 107) (by decide +kernel)) (by decide +kernel)
theorem m108 : Cond.methodLink RX1 1 objectInit ∈ gw := gw_of (List.mem_of_getElem? (i := 108) (by decide +kernel)) (by decide +kernel)
theorem m109 : Cond.fieldLink RX1 7 "BoardEnds$Folding" "grid" "LBoardEnds$Grid;" ∈ gw := gw_of (List.mem_of_getElem? (i := 109) (by decide +kernel)) (by decide +kernel)
theorem m110 : Cond.fieldLink RX1 15 "BoardEnds$Folding" "kept" "[I" ∈ gw := gw_of (List.mem_of_getElem? (i := 110) (by decide +kernel)) (by decide +kernel)
theorem m111 : Cond.fieldLink RX1 23 "BoardEnds$Folding" "keptCount" "I" ∈ gw := gw_of (List.mem_of_getElem? (i := 111) (by decide +kernel)) (by decide +kernel)
theorem m112 : Cond.fieldLink RX1 19 "BoardEnds$Folding" "prepared" "I" ∈ gw := gw_of (List.mem_of_getElem? (i := 112) (by decide +kernel)) (by decide +kernel)
theorem m122 : Cond.classLink RX8 32 RX7 ∈ gw := gw_of (List.mem_of_getElem? (i := 122) (by decide +kernel)) (by decide +kernel)
theorem m123 : Cond.instantiable RX7 8 ∈ gw := gw_of (List.mem_of_getElem? (i := 123) (by decide +kernel)) (by decide +kernel)
theorem m124 : Cond.methodLink RX8 34 yX7_init ∈ gw := gw_of (List.mem_of_getElem? (i := 124) (by decide +kernel)) (by decide +kernel)
theorem m125 : Cond.instanceMethod yX7_init ∈ gw := gw_of (List.mem_of_getElem? (i := 125) (by decide +kernel)) (by decide +kernel)
theorem m126 : Cond.code yX7_init cX7_init 4 none ∈ gw := gw_of (List.mem_of_getElem? (i := 126) (by decide +kernel)) (by decide +kernel)
theorem m127 : Cond.methodLink RX7 5 objectInit ∈ gw := gw_of (List.mem_of_getElem? (i := 127) (by decide +kernel)) (by decide +kernel)
theorem m128 : Cond.fieldLink RX7 11 "BoardEnds$Survey" "grid" "LBoardEnds$Grid;" ∈ gw := gw_of (List.mem_of_getElem? (i := 128) (by decide +kernel)) (by decide +kernel)
theorem m129 : Cond.fieldLink RX7 15 "BoardEnds$Survey" "ends" "LBoardEnds$Ends;" ∈ gw := gw_of (List.mem_of_getElem? (i := 129) (by decide +kernel)) (by decide +kernel)
theorem m130 : Cond.fieldLink RX7 19 "BoardEnds$Survey" "folding" "LBoardEnds$Folding;" ∈ gw := gw_of (List.mem_of_getElem? (i := 130) (by decide +kernel)) (by decide +kernel)
theorem m131 : Cond.fieldLink RX7 23 "BoardEnds$Survey" "totals" "[I" ∈ gw := gw_of (List.mem_of_getElem? (i := 131) (by decide +kernel)) (by decide +kernel)
theorem m132 : Cond.fieldLink RX7 29 "BoardEnds$Survey" "standing" "[I" ∈ gw := gw_of (List.mem_of_getElem? (i := 132) (by decide +kernel)) (by decide +kernel)
theorem m133 : Cond.fieldLink RX7 32 "BoardEnds$Survey" "counts" "[I" ∈ gw := gw_of (List.mem_of_getElem? (i := 133) (by decide +kernel)) (by decide +kernel)
theorem m134 : Cond.fieldLink RX7 35 "BoardEnds$Survey" "told" "[I" ∈ gw := gw_of (List.mem_of_getElem? (i := 134) (by decide +kernel)) (by decide +kernel)
theorem m135 : Cond.fieldLink RX7 38 "BoardEnds$Survey" "prepared" "I" ∈ gw := gw_of (List.mem_of_getElem? (i := 135) (by decide +kernel)) (by decide +kernel)
theorem m153 : Cond.classLink RX8 41 RX2 ∈ gw := gw_of (List.mem_of_getElem? (i := 153) (by decide +kernel)) (by decide +kernel)
theorem m154 : Cond.instantiable RX2 2 ∈ gw := gw_of (List.mem_of_getElem? (i := 154) (by decide +kernel)) (by decide +kernel)
theorem m155 : Cond.methodLink RX8 43 yX2_init ∈ gw := gw_of (List.mem_of_getElem? (i := 155) (by decide +kernel)) (by decide +kernel)
theorem m156 : Cond.instanceMethod yX2_init ∈ gw := gw_of (List.mem_of_getElem? (i := 156) (by decide +kernel)) (by decide +kernel)
theorem m157 : Cond.code yX2_init cX2_init 3 none ∈ gw := gw_of (List.mem_of_getElem? (i := 157) (by decide +kernel)) (by decide +kernel)
theorem m158 : Cond.methodLink RX2 3 objectInit ∈ gw := gw_of (List.mem_of_getElem? (i := 158) (by decide +kernel)) (by decide +kernel)
theorem m159 : Cond.fieldLink RX2 9 "BoardEnds$Game" "grid" "LBoardEnds$Grid;" ∈ gw := gw_of (List.mem_of_getElem? (i := 159) (by decide +kernel)) (by decide +kernel)
theorem m160 : Cond.fieldLink RX2 15 "BoardEnds$Game" "ends" "LBoardEnds$Ends;" ∈ gw := gw_of (List.mem_of_getElem? (i := 160) (by decide +kernel)) (by decide +kernel)
theorem m166 : Cond.classLink RX8 50 RX6 ∈ gw := gw_of (List.mem_of_getElem? (i := 166) (by decide +kernel)) (by decide +kernel)
theorem m167 : Cond.instantiable RX6 6 ∈ gw := gw_of (List.mem_of_getElem? (i := 167) (by decide +kernel)) (by decide +kernel)
theorem m169 : Cond.instanceMethod yX6_init ∈ gw := gw_of (List.mem_of_getElem? (i := 169) (by decide +kernel)) (by decide +kernel)
theorem m170 : Cond.code yX6_init cX6_init 1 none ∈ gw := gw_of (List.mem_of_getElem? (i := 170) (by decide +kernel)) (by decide +kernel)
theorem m171 : Cond.methodLink RX6 1 objectInit ∈ gw := gw_of (List.mem_of_getElem? (i := 171) (by decide +kernel)) (by decide +kernel)
theorem m172 : Cond.fieldLink RX0 31 "BoardEnds$State" "settings" "I" ∈ gw := gw_of (List.mem_of_getElem? (i := 172) (by decide +kernel)) (by decide +kernel)
theorem m173 : Cond.fieldLink RX6 7 "BoardEnds$State" "settings" "I" ∈ gw := gw_of (List.mem_of_getElem? (i := 173) (by decide +kernel)) (by decide +kernel)
theorem m174 : Cond.fieldLink RX0 36 "BoardEnds$State" "blocked" "I" ∈ gw := gw_of (List.mem_of_getElem? (i := 174) (by decide +kernel)) (by decide +kernel)
theorem m175 : Cond.fieldLink RX6 13 "BoardEnds$State" "blocked" "I" ∈ gw := gw_of (List.mem_of_getElem? (i := 175) (by decide +kernel)) (by decide +kernel)
theorem m176 : Cond.fieldLink RX8 102 "BoardEnds$State" "blocked" "I" ∈ gw := gw_of (List.mem_of_getElem? (i := 176) (by decide +kernel)) (by decide +kernel)
theorem m177 : Cond.fieldLink RX2 46 "BoardEnds$State" "blocked" "I" ∈ gw := gw_of (List.mem_of_getElem? (i := 177) (by decide +kernel)) (by decide +kernel)
theorem m178 : Cond.fieldLink RX7 56 "BoardEnds$State" "blocked" "I" ∈ gw := gw_of (List.mem_of_getElem? (i := 178) (by decide +kernel)) (by decide +kernel)
theorem m179 : Cond.fieldLink RX6 16 "BoardEnds$State" "who" "I" ∈ gw := gw_of (List.mem_of_getElem? (i := 179) (by decide +kernel)) (by decide +kernel)
theorem m180 : Cond.fieldLink RX2 27 "BoardEnds$State" "who" "I" ∈ gw := gw_of (List.mem_of_getElem? (i := 180) (by decide +kernel)) (by decide +kernel)
theorem m181 : Cond.fieldLink RX8 160 "BoardEnds$State" "who" "I" ∈ gw := gw_of (List.mem_of_getElem? (i := 181) (by decide +kernel)) (by decide +kernel)
theorem m182 : Cond.fieldLink RX6 19 "BoardEnds$State" "fox" "I" ∈ gw := gw_of (List.mem_of_getElem? (i := 182) (by decide +kernel)) (by decide +kernel)
theorem m183 : Cond.fieldLink RX2 35 "BoardEnds$State" "fox" "I" ∈ gw := gw_of (List.mem_of_getElem? (i := 183) (by decide +kernel)) (by decide +kernel)
theorem m184 : Cond.fieldLink RX8 163 "BoardEnds$State" "fox" "I" ∈ gw := gw_of (List.mem_of_getElem? (i := 184) (by decide +kernel)) (by decide +kernel)
theorem m185 : Cond.fieldLink RX6 22 "BoardEnds$State" "low" "I" ∈ gw := gw_of (List.mem_of_getElem? (i := 185) (by decide +kernel)) (by decide +kernel)
theorem m186 : Cond.fieldLink RX2 57 "BoardEnds$State" "low" "I" ∈ gw := gw_of (List.mem_of_getElem? (i := 186) (by decide +kernel)) (by decide +kernel)
theorem m187 : Cond.fieldLink RX8 166 "BoardEnds$State" "low" "I" ∈ gw := gw_of (List.mem_of_getElem? (i := 187) (by decide +kernel)) (by decide +kernel)
theorem m188 : Cond.fieldLink RX6 25 "BoardEnds$State" "high" "I" ∈ gw := gw_of (List.mem_of_getElem? (i := 188) (by decide +kernel)) (by decide +kernel)
theorem m189 : Cond.fieldLink RX2 60 "BoardEnds$State" "high" "I" ∈ gw := gw_of (List.mem_of_getElem? (i := 189) (by decide +kernel)) (by decide +kernel)
theorem m190 : Cond.fieldLink RX8 169 "BoardEnds$State" "high" "I" ∈ gw := gw_of (List.mem_of_getElem? (i := 190) (by decide +kernel)) (by decide +kernel)
theorem m204 : Cond.classLink RX8 60 RX4 ∈ gw := gw_of (List.mem_of_getElem? (i := 204) (by decide +kernel)) (by decide +kernel)
theorem m205 : Cond.instantiable RX4 2 ∈ gw := gw_of (List.mem_of_getElem? (i := 205) (by decide +kernel)) (by decide +kernel)
theorem m206 : Cond.methodLink RX8 62 yX4_init ∈ gw := gw_of (List.mem_of_getElem? (i := 206) (by decide +kernel)) (by decide +kernel)
theorem m207 : Cond.instanceMethod yX4_init ∈ gw := gw_of (List.mem_of_getElem? (i := 207) (by decide +kernel)) (by decide +kernel)
theorem m208 : Cond.code yX4_init cX4_init 2 none ∈ gw := gw_of (List.mem_of_getElem? (i := 208) (by decide +kernel)) (by decide +kernel)
theorem m209 : Cond.methodLink RX4 1 objectInit ∈ gw := gw_of (List.mem_of_getElem? (i := 209) (by decide +kernel)) (by decide +kernel)
theorem m210 : Cond.classLink RX4 9 RX6 ∈ gw := gw_of (List.mem_of_getElem? (i := 210) (by decide +kernel)) (by decide +kernel)
theorem m213 : Cond.fieldLink RX4 11 "BoardEnds$History" "states" "[LBoardEnds$State;" ∈ gw := gw_of (List.mem_of_getElem? (i := 213) (by decide +kernel)) (by decide +kernel)
theorem m214 : Cond.fieldLink RX4 16 "BoardEnds$History" "length" "I" ∈ gw := gw_of (List.mem_of_getElem? (i := 214) (by decide +kernel)) (by decide +kernel)
theorem m220 : Cond.classLink RX8 67 RX5 ∈ gw := gw_of (List.mem_of_getElem? (i := 220) (by decide +kernel)) (by decide +kernel)
theorem m221 : Cond.instantiable RX5 2 ∈ gw := gw_of (List.mem_of_getElem? (i := 221) (by decide +kernel)) (by decide +kernel)
theorem m222 : Cond.methodLink RX8 69 yX5_init ∈ gw := gw_of (List.mem_of_getElem? (i := 222) (by decide +kernel)) (by decide +kernel)
theorem m223 : Cond.instanceMethod yX5_init ∈ gw := gw_of (List.mem_of_getElem? (i := 223) (by decide +kernel)) (by decide +kernel)
theorem m224 : Cond.code yX5_init cX5_init 1 none ∈ gw := gw_of (List.mem_of_getElem? (i := 224) (by decide +kernel)) (by decide +kernel)
theorem m225 : Cond.methodLink RX5 3 objectInit ∈ gw := gw_of (List.mem_of_getElem? (i := 225) (by decide +kernel)) (by decide +kernel)
theorem m226 : Cond.fieldLink RX5 11 "BoardEnds$Pad" "signs" "[C" ∈ gw := gw_of (List.mem_of_getElem? (i := 226) (by decide +kernel)) (by decide +kernel)
theorem m227 : Cond.fieldLink RX5 15 "BoardEnds$Pad" "length" "I" ∈ gw := gw_of (List.mem_of_getElem? (i := 227) (by decide +kernel)) (by decide +kernel)
theorem m233 : Cond.arrayClass .char ∈ gw := gw_of (List.mem_of_getElem? (i := 233) (by decide +kernel)) (by decide +kernel)
theorem m234 : Cond.methodLink RX8 82 yX6_place ∈ gw := gw_of (List.mem_of_getElem? (i := 234) (by decide +kernel)) (by decide +kernel)
theorem m235 : Cond.instanceMethod yX6_place ∈ gw := gw_of (List.mem_of_getElem? (i := 235) (by decide +kernel)) (by decide +kernel)
theorem m236 : Cond.selects RX6 yX6_place yX6_place ∈ gw := gw_of (List.mem_of_getElem? (i := 236) (by decide +kernel)) (by decide +kernel)
theorem m237 : Cond.code yX6_place cX6_place 5 none ∈ gw := gw_of (List.mem_of_getElem? (i := 237) (by decide +kernel)) (by decide +kernel)
theorem m238 : Cond.methodLink RX6 28 yJ9_min_7cf53 ∈ gw := gw_of (List.mem_of_getElem? (i := 238) (by decide +kernel)) (by decide +kernel)
theorem m239 : Cond.static yJ9_min_7cf53 ∈ gw := gw_of (List.mem_of_getElem? (i := 239) (by decide +kernel)) (by decide +kernel)
theorem m240 : Cond.code yJ9_min_7cf53 cJ9_min_7cf53 2 (some .int) ∈ gw := gw_of (List.mem_of_getElem? (i := 240) (by decide +kernel)) (by decide +kernel)
theorem m241 : Cond.methodLink RX6 34 yJ9_max_7cf53 ∈ gw := gw_of (List.mem_of_getElem? (i := 241) (by decide +kernel)) (by decide +kernel)
theorem m242 : Cond.static yJ9_max_7cf53 ∈ gw := gw_of (List.mem_of_getElem? (i := 242) (by decide +kernel)) (by decide +kernel)
theorem m243 : Cond.code yJ9_max_7cf53 cJ9_max_7cf53 2 (some .int) ∈ gw := gw_of (List.mem_of_getElem? (i := 243) (by decide +kernel)) (by decide +kernel)
theorem m244 : Cond.fieldLink RX8 10 "BoardEnds" "grid" "LBoardEnds$Grid;" ∈ gw := gw_of (List.mem_of_getElem? (i := 244) (by decide +kernel)) (by decide +kernel)
theorem m245 : Cond.fieldLink RX8 21 "BoardEnds" "ends" "LBoardEnds$Ends;" ∈ gw := gw_of (List.mem_of_getElem? (i := 245) (by decide +kernel)) (by decide +kernel)
theorem m246 : Cond.fieldLink RX8 28 "BoardEnds" "folding" "LBoardEnds$Folding;" ∈ gw := gw_of (List.mem_of_getElem? (i := 246) (by decide +kernel)) (by decide +kernel)
theorem m247 : Cond.fieldLink RX8 37 "BoardEnds" "survey" "LBoardEnds$Survey;" ∈ gw := gw_of (List.mem_of_getElem? (i := 247) (by decide +kernel)) (by decide +kernel)
theorem m248 : Cond.fieldLink RX8 46 "BoardEnds" "game" "LBoardEnds$Game;" ∈ gw := gw_of (List.mem_of_getElem? (i := 248) (by decide +kernel)) (by decide +kernel)
theorem m249 : Cond.fieldLink RX8 53 "BoardEnds" "state" "LBoardEnds$State;" ∈ gw := gw_of (List.mem_of_getElem? (i := 249) (by decide +kernel)) (by decide +kernel)
theorem m250 : Cond.fieldLink RX8 57 "BoardEnds" "ahead" "LBoardEnds$State;" ∈ gw := gw_of (List.mem_of_getElem? (i := 250) (by decide +kernel)) (by decide +kernel)
theorem m251 : Cond.fieldLink RX8 63 "BoardEnds" "history" "LBoardEnds$History;" ∈ gw := gw_of (List.mem_of_getElem? (i := 251) (by decide +kernel)) (by decide +kernel)
theorem m252 : Cond.fieldLink RX8 70 "BoardEnds" "pad" "LBoardEnds$Pad;" ∈ gw := gw_of (List.mem_of_getElem? (i := 252) (by decide +kernel)) (by decide +kernel)
theorem m253 : Cond.fieldLink RX8 74 "BoardEnds" "slots" "[LBoardEnds$State;" ∈ gw := gw_of (List.mem_of_getElem? (i := 253) (by decide +kernel)) (by decide +kernel)
theorem m254 : Cond.fieldLink RX8 78 "BoardEnds" "saved" "[Z" ∈ gw := gw_of (List.mem_of_getElem? (i := 254) (by decide +kernel)) (by decide +kernel)
theorem m278 : Cond.arrayClass .boolean ∈ gw := gw_of (List.mem_of_getElem? (i := 278) (by decide +kernel)) (by decide +kernel)
theorem m279 : Cond.methodLink RL 13 yX8_set ∈ gw := gw_of (List.mem_of_getElem? (i := 279) (by decide +kernel)) (by decide +kernel)
theorem m280 : Cond.instanceMethod yX8_set ∈ gw := gw_of (List.mem_of_getElem? (i := 280) (by decide +kernel)) (by decide +kernel)
theorem m281 : Cond.selects RX8 yX8_set yX8_set ∈ gw := gw_of (List.mem_of_getElem? (i := 281) (by decide +kernel)) (by decide +kernel)
theorem m282 : Cond.code yX8_set cX8_set 4 (some .int) ∈ gw := gw_of (List.mem_of_getElem? (i := 282) (by decide +kernel)) (by decide +kernel)
theorem m283 : Cond.methodLink RX8 86 yX4_record ∈ gw := gw_of (List.mem_of_getElem? (i := 283) (by decide +kernel)) (by decide +kernel)
theorem m284 : Cond.instanceMethod yX4_record ∈ gw := gw_of (List.mem_of_getElem? (i := 284) (by decide +kernel)) (by decide +kernel)
theorem m285 : Cond.selects RX4 yX4_record yX4_record ∈ gw := gw_of (List.mem_of_getElem? (i := 285) (by decide +kernel)) (by decide +kernel)
theorem m286 : Cond.code yX4_record cX4_record 2 none ∈ gw := gw_of (List.mem_of_getElem? (i := 286) (by decide +kernel)) (by decide +kernel)
theorem m287 : Cond.methodLink RX4 20 yX4_dropOldest ∈ gw := gw_of (List.mem_of_getElem? (i := 287) (by decide +kernel)) (by decide +kernel)
theorem m289 : Cond.instanceMethod yX4_dropOldest ∈ gw := gw_of (List.mem_of_getElem? (i := 289) (by decide +kernel)) (by decide +kernel)
theorem m290 : Cond.code yX4_dropOldest cX4_dropOldest 3 none ∈ gw := gw_of (List.mem_of_getElem? (i := 290) (by decide +kernel)) (by decide +kernel)
theorem m291 : Cond.methodLink RX4 23 yX6_take ∈ gw := gw_of (List.mem_of_getElem? (i := 291) (by decide +kernel)) (by decide +kernel)
theorem m292 : Cond.instanceMethod yX6_take ∈ gw := gw_of (List.mem_of_getElem? (i := 292) (by decide +kernel)) (by decide +kernel)
theorem m293 : Cond.selects RX6 yX6_take yX6_take ∈ gw := gw_of (List.mem_of_getElem? (i := 293) (by decide +kernel)) (by decide +kernel)
theorem m294 : Cond.code yX6_take cX6_take 2 none ∈ gw := gw_of (List.mem_of_getElem? (i := 294) (by decide +kernel)) (by decide +kernel)
theorem m295 : Cond.methodLink RX8 90 yX6_setting ∈ gw := gw_of (List.mem_of_getElem? (i := 295) (by decide +kernel)) (by decide +kernel)
theorem m296 : Cond.instanceMethod yX6_setting ∈ gw := gw_of (List.mem_of_getElem? (i := 296) (by decide +kernel)) (by decide +kernel)
theorem m297 : Cond.selects RX6 yX6_setting yX6_setting ∈ gw := gw_of (List.mem_of_getElem? (i := 297) (by decide +kernel)) (by decide +kernel)
theorem m298 : Cond.code yX6_setting cX6_setting 2 (some .int) ∈ gw := gw_of (List.mem_of_getElem? (i := 298) (by decide +kernel)) (by decide +kernel)
theorem m299 : Cond.methodLink RX8 94 yX6_change ∈ gw := gw_of (List.mem_of_getElem? (i := 299) (by decide +kernel)) (by decide +kernel)
theorem m300 : Cond.instanceMethod yX6_change ∈ gw := gw_of (List.mem_of_getElem? (i := 300) (by decide +kernel)) (by decide +kernel)
theorem m301 : Cond.selects RX6 yX6_change yX6_change ∈ gw := gw_of (List.mem_of_getElem? (i := 301) (by decide +kernel)) (by decide +kernel)
theorem m302 : Cond.code yX6_change cX6_change 3 none ∈ gw := gw_of (List.mem_of_getElem? (i := 302) (by decide +kernel)) (by decide +kernel)
theorem m303 : Cond.methodLink RL 18 yX8_block ∈ gw := gw_of (List.mem_of_getElem? (i := 303) (by decide +kernel)) (by decide +kernel)
theorem m304 : Cond.instanceMethod yX8_block ∈ gw := gw_of (List.mem_of_getElem? (i := 304) (by decide +kernel)) (by decide +kernel)
theorem m305 : Cond.selects RX8 yX8_block yX8_block ∈ gw := gw_of (List.mem_of_getElem? (i := 305) (by decide +kernel)) (by decide +kernel)
theorem m306 : Cond.code yX8_block cX8_block 4 (some .int) ∈ gw := gw_of (List.mem_of_getElem? (i := 306) (by decide +kernel)) (by decide +kernel)
theorem m307 : Cond.methodLink RX8 98 yX3_isPlace ∈ gw := gw_of (List.mem_of_getElem? (i := 307) (by decide +kernel)) (by decide +kernel)
theorem m308 : Cond.static yX3_isPlace ∈ gw := gw_of (List.mem_of_getElem? (i := 308) (by decide +kernel)) (by decide +kernel)
theorem m309 : Cond.code yX3_isPlace cX3_isPlace 1 (some .boolean) ∈ gw := gw_of (List.mem_of_getElem? (i := 309) (by decide +kernel)) (by decide +kernel)
theorem m310 : Cond.methodLink RX8 106 yJ6_bitCount_0f7a4 ∈ gw := gw_of (List.mem_of_getElem? (i := 310) (by decide +kernel)) (by decide +kernel)
theorem m311 : Cond.static yJ6_bitCount_0f7a4 ∈ gw := gw_of (List.mem_of_getElem? (i := 311) (by decide +kernel)) (by decide +kernel)
theorem m312 : Cond.code yJ6_bitCount_0f7a4 cJ6_bitCount_0f7a4 1 (some .int) ∈ gw := gw_of (List.mem_of_getElem? (i := 312) (by decide +kernel)) (by decide +kernel)
theorem m313 : Cond.constant RJ6 265 1431655765 ∈ gw := gw_of (List.mem_of_getElem? (i := 313) (by decide +kernel)) (by decide +kernel)
theorem m314 : Cond.constant RJ6 266 858993459 ∈ gw := gw_of (List.mem_of_getElem? (i := 314) (by decide +kernel)) (by decide +kernel)
theorem m315 : Cond.constant RJ6 267 252645135 ∈ gw := gw_of (List.mem_of_getElem? (i := 315) (by decide +kernel)) (by decide +kernel)
theorem m316 : Cond.methodLink RX8 111 yX6_taken ∈ gw := gw_of (List.mem_of_getElem? (i := 316) (by decide +kernel)) (by decide +kernel)
theorem m317 : Cond.instanceMethod yX6_taken ∈ gw := gw_of (List.mem_of_getElem? (i := 317) (by decide +kernel)) (by decide +kernel)
theorem m318 : Cond.selects RX6 yX6_taken yX6_taken ∈ gw := gw_of (List.mem_of_getElem? (i := 318) (by decide +kernel)) (by decide +kernel)
theorem m319 : Cond.code yX6_taken cX6_taken 1 (some .int) ∈ gw := gw_of (List.mem_of_getElem? (i := 319) (by decide +kernel)) (by decide +kernel)
theorem m320 : Cond.methodLink RX6 37 yX6_hunters ∈ gw := gw_of (List.mem_of_getElem? (i := 320) (by decide +kernel)) (by decide +kernel)
theorem m321 : Cond.instanceMethod yX6_hunters ∈ gw := gw_of (List.mem_of_getElem? (i := 321) (by decide +kernel)) (by decide +kernel)
theorem m322 : Cond.selects RX6 yX6_hunters yX6_hunters ∈ gw := gw_of (List.mem_of_getElem? (i := 322) (by decide +kernel)) (by decide +kernel)
theorem m323 : Cond.code yX6_hunters cX6_hunters 1 (some .int) ∈ gw := gw_of (List.mem_of_getElem? (i := 323) (by decide +kernel)) (by decide +kernel)
theorem m324 : Cond.methodLink RL 23 yX8_setUp ∈ gw := gw_of (List.mem_of_getElem? (i := 324) (by decide +kernel)) (by decide +kernel)
theorem m325 : Cond.instanceMethod yX8_setUp ∈ gw := gw_of (List.mem_of_getElem? (i := 325) (by decide +kernel)) (by decide +kernel)
theorem m326 : Cond.selects RX8 yX8_setUp yX8_setUp ∈ gw := gw_of (List.mem_of_getElem? (i := 326) (by decide +kernel)) (by decide +kernel)
theorem m327 : Cond.code yX8_setUp cX8_setUp 6 (some .int) ∈ gw := gw_of (List.mem_of_getElem? (i := 327) (by decide +kernel)) (by decide +kernel)
theorem m328 : Cond.methodLink RX8 115 yX8_errorOf ∈ gw := gw_of (List.mem_of_getElem? (i := 328) (by decide +kernel)) (by decide +kernel)
theorem m330 : Cond.instanceMethod yX8_errorOf ∈ gw := gw_of (List.mem_of_getElem? (i := 330) (by decide +kernel)) (by decide +kernel)
theorem m331 : Cond.code yX8_errorOf cX8_errorOf 8 (some .int) ∈ gw := gw_of (List.mem_of_getElem? (i := 331) (by decide +kernel)) (by decide +kernel)
theorem m332 : Cond.methodLink RX8 119 yX8_distanceNow ∈ gw := gw_of (List.mem_of_getElem? (i := 332) (by decide +kernel)) (by decide +kernel)
theorem m334 : Cond.instanceMethod yX8_distanceNow ∈ gw := gw_of (List.mem_of_getElem? (i := 334) (by decide +kernel)) (by decide +kernel)
theorem m335 : Cond.code yX8_distanceNow cX8_distanceNow 1 (some .int) ∈ gw := gw_of (List.mem_of_getElem? (i := 335) (by decide +kernel)) (by decide +kernel)
theorem m336 : Cond.methodLink RX8 172 yX2_caught ∈ gw := gw_of (List.mem_of_getElem? (i := 336) (by decide +kernel)) (by decide +kernel)
theorem m337 : Cond.instanceMethod yX2_caught ∈ gw := gw_of (List.mem_of_getElem? (i := 337) (by decide +kernel)) (by decide +kernel)
theorem m338 : Cond.selects RX2 yX2_caught yX2_caught ∈ gw := gw_of (List.mem_of_getElem? (i := 338) (by decide +kernel)) (by decide +kernel)
theorem m339 : Cond.code yX2_caught cX2_caught 2 (some .boolean) ∈ gw := gw_of (List.mem_of_getElem? (i := 339) (by decide +kernel)) (by decide +kernel)
theorem m340 : Cond.methodLink RX2 21 yX6_hunterOnFox ∈ gw := gw_of (List.mem_of_getElem? (i := 340) (by decide +kernel)) (by decide +kernel)
theorem m341 : Cond.instanceMethod yX6_hunterOnFox ∈ gw := gw_of (List.mem_of_getElem? (i := 341) (by decide +kernel)) (by decide +kernel)
theorem m342 : Cond.selects RX6 yX6_hunterOnFox yX6_hunterOnFox ∈ gw := gw_of (List.mem_of_getElem? (i := 342) (by decide +kernel)) (by decide +kernel)
theorem m343 : Cond.code yX6_hunterOnFox cX6_hunterOnFox 1 (some .boolean) ∈ gw := gw_of (List.mem_of_getElem? (i := 343) (by decide +kernel)) (by decide +kernel)
theorem m344 : Cond.methodLink RX2 31 yX2_foxSteps ∈ gw := gw_of (List.mem_of_getElem? (i := 344) (by decide +kernel)) (by decide +kernel)
theorem m346 : Cond.instanceMethod yX2_foxSteps ∈ gw := gw_of (List.mem_of_getElem? (i := 346) (by decide +kernel)) (by decide +kernel)
theorem m347 : Cond.code yX2_foxSteps cX2_foxSteps 2 (some .int) ∈ gw := gw_of (List.mem_of_getElem? (i := 347) (by decide +kernel)) (by decide +kernel)
theorem m348 : Cond.methodLink RX2 38 yX6_setting ∈ gw := gw_of (List.mem_of_getElem? (i := 348) (by decide +kernel)) (by decide +kernel)
theorem m349 : Cond.methodLink RX2 42 yX3_stepsFrom ∈ gw := gw_of (List.mem_of_getElem? (i := 349) (by decide +kernel)) (by decide +kernel)
theorem m350 : Cond.instanceMethod yX3_stepsFrom ∈ gw := gw_of (List.mem_of_getElem? (i := 350) (by decide +kernel)) (by decide +kernel)
theorem m351 : Cond.selects RX3 yX3_stepsFrom yX3_stepsFrom ∈ gw := gw_of (List.mem_of_getElem? (i := 351) (by decide +kernel)) (by decide +kernel)
theorem m352 : Cond.code yX3_stepsFrom cX3_stepsFrom 4 (some .int) ∈ gw := gw_of (List.mem_of_getElem? (i := 352) (by decide +kernel)) (by decide +kernel)
theorem m353 : Cond.methodLink RX2 49 yX6_hunters ∈ gw := gw_of (List.mem_of_getElem? (i := 353) (by decide +kernel)) (by decide +kernel)
theorem m354 : Cond.methodLink RX8 189 yX0_prepare ∈ gw := gw_of (List.mem_of_getElem? (i := 354) (by decide +kernel)) (by decide +kernel)
theorem m355 : Cond.instanceMethod yX0_prepare ∈ gw := gw_of (List.mem_of_getElem? (i := 355) (by decide +kernel)) (by decide +kernel)
theorem m356 : Cond.selects RX0 yX0_prepare yX0_prepare ∈ gw := gw_of (List.mem_of_getElem? (i := 356) (by decide +kernel)) (by decide +kernel)
theorem m357 : Cond.code yX0_prepare cX0_prepare 2 none ∈ gw := gw_of (List.mem_of_getElem? (i := 357) (by decide +kernel)) (by decide +kernel)
theorem m358 : Cond.methodLink RX0 39 yX0_signOf ∈ gw := gw_of (List.mem_of_getElem? (i := 358) (by decide +kernel)) (by decide +kernel)
theorem m359 : Cond.static yX0_signOf ∈ gw := gw_of (List.mem_of_getElem? (i := 359) (by decide +kernel)) (by decide +kernel)
theorem m360 : Cond.code yX0_signOf cX0_signOf 1 (some .int) ∈ gw := gw_of (List.mem_of_getElem? (i := 360) (by decide +kernel)) (by decide +kernel)
theorem m361 : Cond.constant RX0 43 65535 ∈ gw := gw_of (List.mem_of_getElem? (i := 361) (by decide +kernel)) (by decide +kernel)
theorem m362 : Cond.methodLink RX0 47 yX6_setting ∈ gw := gw_of (List.mem_of_getElem? (i := 362) (by decide +kernel)) (by decide +kernel)
theorem m363 : Cond.methodLink RX0 61 yX0_workOut ∈ gw := gw_of (List.mem_of_getElem? (i := 363) (by decide +kernel)) (by decide +kernel)
theorem m365 : Cond.instanceMethod yX0_workOut ∈ gw := gw_of (List.mem_of_getElem? (i := 365) (by decide +kernel)) (by decide +kernel)
theorem m366 : Cond.code yX0_workOut cX0_workOut 5 none ∈ gw := gw_of (List.mem_of_getElem? (i := 366) (by decide +kernel)) (by decide +kernel)
theorem m367 : Cond.methodLink RX0 64 yJ7_fill_53178 ∈ gw := gw_of (List.mem_of_getElem? (i := 367) (by decide +kernel)) (by decide +kernel)
theorem m368 : Cond.static yJ7_fill_53178 ∈ gw := gw_of (List.mem_of_getElem? (i := 368) (by decide +kernel)) (by decide +kernel)
theorem m369 : Cond.code yJ7_fill_53178 cJ7_fill_53178 4 none ∈ gw := gw_of (List.mem_of_getElem? (i := 369) (by decide +kernel)) (by decide +kernel)
theorem m370 : Cond.methodLink RX0 70 yX0_foxLevel ∈ gw := gw_of (List.mem_of_getElem? (i := 370) (by decide +kernel)) (by decide +kernel)
theorem m372 : Cond.instanceMethod yX0_foxLevel ∈ gw := gw_of (List.mem_of_getElem? (i := 372) (by decide +kernel)) (by decide +kernel)
theorem m373 : Cond.code yX0_foxLevel cX0_foxLevel 7 (some .int) ∈ gw := gw_of (List.mem_of_getElem? (i := 373) (by decide +kernel)) (by decide +kernel)
theorem m374 : Cond.methodLink RX0 80 yX0_placesForFox ∈ gw := gw_of (List.mem_of_getElem? (i := 374) (by decide +kernel)) (by decide +kernel)
theorem m376 : Cond.instanceMethod yX0_placesForFox ∈ gw := gw_of (List.mem_of_getElem? (i := 376) (by decide +kernel)) (by decide +kernel)
theorem m377 : Cond.code yX0_placesForFox cX0_placesForFox 3 (some .int) ∈ gw := gw_of (List.mem_of_getElem? (i := 377) (by decide +kernel)) (by decide +kernel)
theorem m378 : Cond.methodLink RX0 77 yX3_placesOf ∈ gw := gw_of (List.mem_of_getElem? (i := 378) (by decide +kernel)) (by decide +kernel)
theorem m379 : Cond.instanceMethod yX3_placesOf ∈ gw := gw_of (List.mem_of_getElem? (i := 379) (by decide +kernel)) (by decide +kernel)
theorem m380 : Cond.selects RX3 yX3_placesOf yX3_placesOf ∈ gw := gw_of (List.mem_of_getElem? (i := 380) (by decide +kernel)) (by decide +kernel)
theorem m381 : Cond.code yX3_placesOf cX3_placesOf 2 (some .int) ∈ gw := gw_of (List.mem_of_getElem? (i := 381) (by decide +kernel)) (by decide +kernel)
theorem m382 : Cond.methodLink RX0 83 yX3_stepsFrom ∈ gw := gw_of (List.mem_of_getElem? (i := 382) (by decide +kernel)) (by decide +kernel)
theorem m383 : Cond.methodLink RX0 87 yX0_keep ∈ gw := gw_of (List.mem_of_getElem? (i := 383) (by decide +kernel)) (by decide +kernel)
theorem m385 : Cond.instanceMethod yX0_keep ∈ gw := gw_of (List.mem_of_getElem? (i := 385) (by decide +kernel)) (by decide +kernel)
theorem m386 : Cond.code yX0_keep cX0_keep 6 none ∈ gw := gw_of (List.mem_of_getElem? (i := 386) (by decide +kernel)) (by decide +kernel)
theorem m387 : Cond.methodLink RX0 74 yX0_huntersLevel ∈ gw := gw_of (List.mem_of_getElem? (i := 387) (by decide +kernel)) (by decide +kernel)
theorem m389 : Cond.instanceMethod yX0_huntersLevel ∈ gw := gw_of (List.mem_of_getElem? (i := 389) (by decide +kernel)) (by decide +kernel)
theorem m390 : Cond.code yX0_huntersLevel cX0_huntersLevel 8 (some .int) ∈ gw := gw_of (List.mem_of_getElem? (i := 390) (by decide +kernel)) (by decide +kernel)
theorem m391 : Cond.methodLink RX0 91 yX3_lowerOf ∈ gw := gw_of (List.mem_of_getElem? (i := 391) (by decide +kernel)) (by decide +kernel)
theorem m392 : Cond.instanceMethod yX3_lowerOf ∈ gw := gw_of (List.mem_of_getElem? (i := 392) (by decide +kernel)) (by decide +kernel)
theorem m393 : Cond.selects RX3 yX3_lowerOf yX3_lowerOf ∈ gw := gw_of (List.mem_of_getElem? (i := 393) (by decide +kernel)) (by decide +kernel)
theorem m394 : Cond.code yX3_lowerOf cX3_lowerOf 2 (some .int) ∈ gw := gw_of (List.mem_of_getElem? (i := 394) (by decide +kernel)) (by decide +kernel)
theorem m395 : Cond.methodLink RX0 94 yX3_higherOf ∈ gw := gw_of (List.mem_of_getElem? (i := 395) (by decide +kernel)) (by decide +kernel)
theorem m396 : Cond.instanceMethod yX3_higherOf ∈ gw := gw_of (List.mem_of_getElem? (i := 396) (by decide +kernel)) (by decide +kernel)
theorem m397 : Cond.selects RX3 yX3_higherOf yX3_higherOf ∈ gw := gw_of (List.mem_of_getElem? (i := 397) (by decide +kernel)) (by decide +kernel)
theorem m398 : Cond.code yX3_higherOf cX3_higherOf 2 (some .int) ∈ gw := gw_of (List.mem_of_getElem? (i := 398) (by decide +kernel)) (by decide +kernel)
theorem m399 : Cond.methodLink RX0 97 yX0_reachedBy ∈ gw := gw_of (List.mem_of_getElem? (i := 399) (by decide +kernel)) (by decide +kernel)
theorem m401 : Cond.instanceMethod yX0_reachedBy ∈ gw := gw_of (List.mem_of_getElem? (i := 401) (by decide +kernel)) (by decide +kernel)
theorem m402 : Cond.code yX0_reachedBy cX0_reachedBy 6 (some .int) ∈ gw := gw_of (List.mem_of_getElem? (i := 402) (by decide +kernel)) (by decide +kernel)
theorem m403 : Cond.methodLink RX0 100 yX3_pairOf ∈ gw := gw_of (List.mem_of_getElem? (i := 403) (by decide +kernel)) (by decide +kernel)
theorem m404 : Cond.instanceMethod yX3_pairOf ∈ gw := gw_of (List.mem_of_getElem? (i := 404) (by decide +kernel)) (by decide +kernel)
theorem m405 : Cond.selects RX3 yX3_pairOf yX3_pairOf ∈ gw := gw_of (List.mem_of_getElem? (i := 405) (by decide +kernel)) (by decide +kernel)
theorem m406 : Cond.code yX3_pairOf cX3_pairOf 3 (some .int) ∈ gw := gw_of (List.mem_of_getElem? (i := 406) (by decide +kernel)) (by decide +kernel)
theorem m407 : Cond.methodLink RX8 179 yX8_numberNow ∈ gw := gw_of (List.mem_of_getElem? (i := 407) (by decide +kernel)) (by decide +kernel)
theorem m409 : Cond.instanceMethod yX8_numberNow ∈ gw := gw_of (List.mem_of_getElem? (i := 409) (by decide +kernel)) (by decide +kernel)
theorem m410 : Cond.code yX8_numberNow cX8_numberNow 2 (some .int) ∈ gw := gw_of (List.mem_of_getElem? (i := 410) (by decide +kernel)) (by decide +kernel)
theorem m411 : Cond.methodLink RX8 192 yX3_numberOf ∈ gw := gw_of (List.mem_of_getElem? (i := 411) (by decide +kernel)) (by decide +kernel)
theorem m412 : Cond.instanceMethod yX3_numberOf ∈ gw := gw_of (List.mem_of_getElem? (i := 412) (by decide +kernel)) (by decide +kernel)
theorem m413 : Cond.selects RX3 yX3_numberOf yX3_numberOf ∈ gw := gw_of (List.mem_of_getElem? (i := 413) (by decide +kernel)) (by decide +kernel)
theorem m414 : Cond.code yX3_numberOf cX3_numberOf 5 (some .int) ∈ gw := gw_of (List.mem_of_getElem? (i := 414) (by decide +kernel)) (by decide +kernel)
theorem m415 : Cond.methodLink RX3 50 yX3_pairOf ∈ gw := gw_of (List.mem_of_getElem? (i := 415) (by decide +kernel)) (by decide +kernel)
theorem m416 : Cond.methodLink RX8 195 yX0_at ∈ gw := gw_of (List.mem_of_getElem? (i := 416) (by decide +kernel)) (by decide +kernel)
theorem m417 : Cond.instanceMethod yX0_at ∈ gw := gw_of (List.mem_of_getElem? (i := 417) (by decide +kernel)) (by decide +kernel)
theorem m418 : Cond.selects RX0 yX0_at yX0_at ∈ gw := gw_of (List.mem_of_getElem? (i := 418) (by decide +kernel)) (by decide +kernel)
theorem m419 : Cond.code yX0_at cX0_at 2 (some .int) ∈ gw := gw_of (List.mem_of_getElem? (i := 419) (by decide +kernel)) (by decide +kernel)
theorem m420 : Cond.methodLink RL 28 yX8_move ∈ gw := gw_of (List.mem_of_getElem? (i := 420) (by decide +kernel)) (by decide +kernel)
theorem m421 : Cond.instanceMethod yX8_move ∈ gw := gw_of (List.mem_of_getElem? (i := 421) (by decide +kernel)) (by decide +kernel)
theorem m422 : Cond.selects RX8 yX8_move yX8_move ∈ gw := gw_of (List.mem_of_getElem? (i := 422) (by decide +kernel)) (by decide +kernel)
theorem m423 : Cond.code yX8_move cX8_move 3 (some .int) ∈ gw := gw_of (List.mem_of_getElem? (i := 423) (by decide +kernel)) (by decide +kernel)
theorem m424 : Cond.methodLink RX8 122 yX2_allows ∈ gw := gw_of (List.mem_of_getElem? (i := 424) (by decide +kernel)) (by decide +kernel)
theorem m425 : Cond.instanceMethod yX2_allows ∈ gw := gw_of (List.mem_of_getElem? (i := 425) (by decide +kernel)) (by decide +kernel)
theorem m426 : Cond.selects RX2 yX2_allows yX2_allows ∈ gw := gw_of (List.mem_of_getElem? (i := 426) (by decide +kernel)) (by decide +kernel)
theorem m427 : Cond.code yX2_allows cX2_allows 4 (some .boolean) ∈ gw := gw_of (List.mem_of_getElem? (i := 427) (by decide +kernel)) (by decide +kernel)
theorem m428 : Cond.methodLink RX2 53 yX2_caught ∈ gw := gw_of (List.mem_of_getElem? (i := 428) (by decide +kernel)) (by decide +kernel)
theorem m429 : Cond.methodLink RX2 63 yX2_hunterSteps ∈ gw := gw_of (List.mem_of_getElem? (i := 429) (by decide +kernel)) (by decide +kernel)
theorem m431 : Cond.instanceMethod yX2_hunterSteps ∈ gw := gw_of (List.mem_of_getElem? (i := 431) (by decide +kernel)) (by decide +kernel)
theorem m432 : Cond.code yX2_hunterSteps cX2_hunterSteps 3 (some .int) ∈ gw := gw_of (List.mem_of_getElem? (i := 432) (by decide +kernel)) (by decide +kernel)
theorem m433 : Cond.methodLink RX8 126 yX8_makeMove ∈ gw := gw_of (List.mem_of_getElem? (i := 433) (by decide +kernel)) (by decide +kernel)
theorem m435 : Cond.instanceMethod yX8_makeMove ∈ gw := gw_of (List.mem_of_getElem? (i := 435) (by decide +kernel)) (by decide +kernel)
theorem m436 : Cond.code yX8_makeMove cX8_makeMove 3 (some .int) ∈ gw := gw_of (List.mem_of_getElem? (i := 436) (by decide +kernel)) (by decide +kernel)
theorem m437 : Cond.methodLink RX8 233 yX2_make ∈ gw := gw_of (List.mem_of_getElem? (i := 437) (by decide +kernel)) (by decide +kernel)
theorem m438 : Cond.instanceMethod yX2_make ∈ gw := gw_of (List.mem_of_getElem? (i := 438) (by decide +kernel)) (by decide +kernel)
theorem m439 : Cond.selects RX2 yX2_make yX2_make ∈ gw := gw_of (List.mem_of_getElem? (i := 439) (by decide +kernel)) (by decide +kernel)
theorem m440 : Cond.code yX2_make cX2_make 5 none ∈ gw := gw_of (List.mem_of_getElem? (i := 440) (by decide +kernel)) (by decide +kernel)
theorem m441 : Cond.methodLink RX2 67 yX6_place ∈ gw := gw_of (List.mem_of_getElem? (i := 441) (by decide +kernel)) (by decide +kernel)
theorem m442 : Cond.methodLink RL 32 yX8_play ∈ gw := gw_of (List.mem_of_getElem? (i := 442) (by decide +kernel)) (by decide +kernel)
theorem m443 : Cond.instanceMethod yX8_play ∈ gw := gw_of (List.mem_of_getElem? (i := 443) (by decide +kernel)) (by decide +kernel)
theorem m444 : Cond.selects RX8 yX8_play yX8_play ∈ gw := gw_of (List.mem_of_getElem? (i := 444) (by decide +kernel)) (by decide +kernel)
theorem m445 : Cond.code yX8_play cX8_play 2 (some .int) ∈ gw := gw_of (List.mem_of_getElem? (i := 445) (by decide +kernel)) (by decide +kernel)
theorem m446 : Cond.methodLink RX8 130 yX2_bestMove ∈ gw := gw_of (List.mem_of_getElem? (i := 446) (by decide +kernel)) (by decide +kernel)
theorem m447 : Cond.instanceMethod yX2_bestMove ∈ gw := gw_of (List.mem_of_getElem? (i := 447) (by decide +kernel)) (by decide +kernel)
theorem m448 : Cond.selects RX2 yX2_bestMove yX2_bestMove ∈ gw := gw_of (List.mem_of_getElem? (i := 448) (by decide +kernel)) (by decide +kernel)
theorem m449 : Cond.code yX2_bestMove cX2_bestMove 2 (some .int) ∈ gw := gw_of (List.mem_of_getElem? (i := 449) (by decide +kernel)) (by decide +kernel)
theorem m450 : Cond.methodLink RX2 71 yX0_prepare ∈ gw := gw_of (List.mem_of_getElem? (i := 450) (by decide +kernel)) (by decide +kernel)
theorem m451 : Cond.methodLink RX2 77 yX2_bestOfFox ∈ gw := gw_of (List.mem_of_getElem? (i := 451) (by decide +kernel)) (by decide +kernel)
theorem m453 : Cond.instanceMethod yX2_bestOfFox ∈ gw := gw_of (List.mem_of_getElem? (i := 453) (by decide +kernel)) (by decide +kernel)
theorem m454 : Cond.code yX2_bestOfFox cX2_bestOfFox 7 (some .int) ∈ gw := gw_of (List.mem_of_getElem? (i := 454) (by decide +kernel)) (by decide +kernel)
theorem m455 : Cond.methodLink RX2 83 yX2_lengthOf ∈ gw := gw_of (List.mem_of_getElem? (i := 455) (by decide +kernel)) (by decide +kernel)
theorem m457 : Cond.instanceMethod yX2_lengthOf ∈ gw := gw_of (List.mem_of_getElem? (i := 457) (by decide +kernel)) (by decide +kernel)
theorem m458 : Cond.code yX2_lengthOf cX2_lengthOf 6 (some .int) ∈ gw := gw_of (List.mem_of_getElem? (i := 458) (by decide +kernel)) (by decide +kernel)
theorem m459 : Cond.methodLink RX2 92 yX3_numberOf ∈ gw := gw_of (List.mem_of_getElem? (i := 459) (by decide +kernel)) (by decide +kernel)
theorem m460 : Cond.methodLink RX2 95 yX0_at ∈ gw := gw_of (List.mem_of_getElem? (i := 460) (by decide +kernel)) (by decide +kernel)
theorem m461 : Cond.constant RX2 98 1000000 ∈ gw := gw_of (List.mem_of_getElem? (i := 461) (by decide +kernel)) (by decide +kernel)
theorem m462 : Cond.methodLink RX2 80 yX2_bestOfHunters ∈ gw := gw_of (List.mem_of_getElem? (i := 462) (by decide +kernel)) (by decide +kernel)
theorem m464 : Cond.instanceMethod yX2_bestOfHunters ∈ gw := gw_of (List.mem_of_getElem? (i := 464) (by decide +kernel)) (by decide +kernel)
theorem m465 : Cond.code yX2_bestOfHunters cX2_bestOfHunters 8 (some .int) ∈ gw := gw_of (List.mem_of_getElem? (i := 465) (by decide +kernel)) (by decide +kernel)
theorem m466 : Cond.constant RX2 87 1000001 ∈ gw := gw_of (List.mem_of_getElem? (i := 466) (by decide +kernel)) (by decide +kernel)
theorem m467 : Cond.methodLink RX2 88 yX2_worthOf ∈ gw := gw_of (List.mem_of_getElem? (i := 467) (by decide +kernel)) (by decide +kernel)
theorem m469 : Cond.instanceMethod yX2_worthOf ∈ gw := gw_of (List.mem_of_getElem? (i := 469) (by decide +kernel)) (by decide +kernel)
theorem m470 : Cond.code yX2_worthOf cX2_worthOf 5 (some .int) ∈ gw := gw_of (List.mem_of_getElem? (i := 470) (by decide +kernel)) (by decide +kernel)
theorem m471 : Cond.methodLink RX8 134 yX2_fromOf ∈ gw := gw_of (List.mem_of_getElem? (i := 471) (by decide +kernel)) (by decide +kernel)
theorem m472 : Cond.static yX2_fromOf ∈ gw := gw_of (List.mem_of_getElem? (i := 472) (by decide +kernel)) (by decide +kernel)
theorem m473 : Cond.code yX2_fromOf cX2_fromOf 1 (some .int) ∈ gw := gw_of (List.mem_of_getElem? (i := 473) (by decide +kernel)) (by decide +kernel)
theorem m474 : Cond.methodLink RX8 137 yX2_toOf ∈ gw := gw_of (List.mem_of_getElem? (i := 474) (by decide +kernel)) (by decide +kernel)
theorem m475 : Cond.static yX2_toOf ∈ gw := gw_of (List.mem_of_getElem? (i := 475) (by decide +kernel)) (by decide +kernel)
theorem m476 : Cond.code yX2_toOf cX2_toOf 1 (some .int) ∈ gw := gw_of (List.mem_of_getElem? (i := 476) (by decide +kernel)) (by decide +kernel)
theorem m477 : Cond.methodLink RL 37 yX8_readPad ∈ gw := gw_of (List.mem_of_getElem? (i := 477) (by decide +kernel)) (by decide +kernel)
theorem m478 : Cond.instanceMethod yX8_readPad ∈ gw := gw_of (List.mem_of_getElem? (i := 478) (by decide +kernel)) (by decide +kernel)
theorem m479 : Cond.selects RX8 yX8_readPad yX8_readPad ∈ gw := gw_of (List.mem_of_getElem? (i := 479) (by decide +kernel)) (by decide +kernel)
theorem m480 : Cond.code yX8_readPad cX8_readPad 4 (some .int) ∈ gw := gw_of (List.mem_of_getElem? (i := 480) (by decide +kernel)) (by decide +kernel)
theorem m481 : Cond.methodLink RX8 140 yX5_firstFault ∈ gw := gw_of (List.mem_of_getElem? (i := 481) (by decide +kernel)) (by decide +kernel)
theorem m482 : Cond.instanceMethod yX5_firstFault ∈ gw := gw_of (List.mem_of_getElem? (i := 482) (by decide +kernel)) (by decide +kernel)
theorem m483 : Cond.selects RX5 yX5_firstFault yX5_firstFault ∈ gw := gw_of (List.mem_of_getElem? (i := 483) (by decide +kernel)) (by decide +kernel)
theorem m484 : Cond.code yX5_firstFault cX5_firstFault 2 (some .int) ∈ gw := gw_of (List.mem_of_getElem? (i := 484) (by decide +kernel)) (by decide +kernel)
theorem m485 : Cond.methodLink RX5 21 yX5_canStand ∈ gw := gw_of (List.mem_of_getElem? (i := 485) (by decide +kernel)) (by decide +kernel)
theorem m486 : Cond.static yX5_canStand ∈ gw := gw_of (List.mem_of_getElem? (i := 486) (by decide +kernel)) (by decide +kernel)
theorem m487 : Cond.code yX5_canStand cX5_canStand 2 (some .boolean) ∈ gw := gw_of (List.mem_of_getElem? (i := 487) (by decide +kernel)) (by decide +kernel)
theorem m488 : Cond.methodLink RX8 143 yX5_placesOf ∈ gw := gw_of (List.mem_of_getElem? (i := 488) (by decide +kernel)) (by decide +kernel)
theorem m489 : Cond.instanceMethod yX5_placesOf ∈ gw := gw_of (List.mem_of_getElem? (i := 489) (by decide +kernel)) (by decide +kernel)
theorem m490 : Cond.selects RX5 yX5_placesOf yX5_placesOf ∈ gw := gw_of (List.mem_of_getElem? (i := 490) (by decide +kernel)) (by decide +kernel)
theorem m491 : Cond.code yX5_placesOf cX5_placesOf 4 (some .int) ∈ gw := gw_of (List.mem_of_getElem? (i := 491) (by decide +kernel)) (by decide +kernel)
theorem m492 : Cond.methodLink RX8 147 yX5_foxMoves ∈ gw := gw_of (List.mem_of_getElem? (i := 492) (by decide +kernel)) (by decide +kernel)
theorem m493 : Cond.instanceMethod yX5_foxMoves ∈ gw := gw_of (List.mem_of_getElem? (i := 493) (by decide +kernel)) (by decide +kernel)
theorem m494 : Cond.selects RX5 yX5_foxMoves yX5_foxMoves ∈ gw := gw_of (List.mem_of_getElem? (i := 494) (by decide +kernel)) (by decide +kernel)
theorem m495 : Cond.code yX5_foxMoves cX5_foxMoves 1 (some .boolean) ∈ gw := gw_of (List.mem_of_getElem? (i := 495) (by decide +kernel)) (by decide +kernel)
theorem m496 : Cond.methodLink RX8 151 yX3_lowest ∈ gw := gw_of (List.mem_of_getElem? (i := 496) (by decide +kernel)) (by decide +kernel)
theorem m497 : Cond.static yX3_lowest ∈ gw := gw_of (List.mem_of_getElem? (i := 497) (by decide +kernel)) (by decide +kernel)
theorem m498 : Cond.code yX3_lowest cX3_lowest 2 (some .int) ∈ gw := gw_of (List.mem_of_getElem? (i := 498) (by decide +kernel)) (by decide +kernel)
theorem m499 : Cond.methodLink RX8 154 yX3_highest ∈ gw := gw_of (List.mem_of_getElem? (i := 499) (by decide +kernel)) (by decide +kernel)
theorem m500 : Cond.static yX3_highest ∈ gw := gw_of (List.mem_of_getElem? (i := 500) (by decide +kernel)) (by decide +kernel)
theorem m501 : Cond.code yX3_highest cX3_highest 2 (some .int) ∈ gw := gw_of (List.mem_of_getElem? (i := 501) (by decide +kernel)) (by decide +kernel)
theorem m502 : Cond.methodLink RX8 157 yX5_empty ∈ gw := gw_of (List.mem_of_getElem? (i := 502) (by decide +kernel)) (by decide +kernel)
theorem m503 : Cond.instanceMethod yX5_empty ∈ gw := gw_of (List.mem_of_getElem? (i := 503) (by decide +kernel)) (by decide +kernel)
theorem m504 : Cond.selects RX5 yX5_empty yX5_empty ∈ gw := gw_of (List.mem_of_getElem? (i := 504) (by decide +kernel)) (by decide +kernel)
theorem m505 : Cond.code yX5_empty cX5_empty 1 none ∈ gw := gw_of (List.mem_of_getElem? (i := 505) (by decide +kernel)) (by decide +kernel)
theorem m506 : Cond.methodLink RL 41 yX8_now ∈ gw := gw_of (List.mem_of_getElem? (i := 506) (by decide +kernel)) (by decide +kernel)
theorem m507 : Cond.instanceMethod yX8_now ∈ gw := gw_of (List.mem_of_getElem? (i := 507) (by decide +kernel)) (by decide +kernel)
theorem m508 : Cond.selects RX8 yX8_now yX8_now ∈ gw := gw_of (List.mem_of_getElem? (i := 508) (by decide +kernel)) (by decide +kernel)
theorem m509 : Cond.code yX8_now cX8_now 2 (some .int) ∈ gw := gw_of (List.mem_of_getElem? (i := 509) (by decide +kernel)) (by decide +kernel)
theorem m510 : Cond.methodLink RX8 176 yX6_hunterOnFox ∈ gw := gw_of (List.mem_of_getElem? (i := 510) (by decide +kernel)) (by decide +kernel)
theorem m511 : Cond.methodLink RX8 182 yX8_foldedNumber ∈ gw := gw_of (List.mem_of_getElem? (i := 511) (by decide +kernel)) (by decide +kernel)
theorem m513 : Cond.instanceMethod yX8_foldedNumber ∈ gw := gw_of (List.mem_of_getElem? (i := 513) (by decide +kernel)) (by decide +kernel)
theorem m514 : Cond.code yX8_foldedNumber cX8_foldedNumber 2 (some .int) ∈ gw := gw_of (List.mem_of_getElem? (i := 514) (by decide +kernel)) (by decide +kernel)
theorem m515 : Cond.methodLink RX8 224 yX1_prepare ∈ gw := gw_of (List.mem_of_getElem? (i := 515) (by decide +kernel)) (by decide +kernel)
theorem m516 : Cond.instanceMethod yX1_prepare ∈ gw := gw_of (List.mem_of_getElem? (i := 516) (by decide +kernel)) (by decide +kernel)
theorem m517 : Cond.selects RX1 yX1_prepare yX1_prepare ∈ gw := gw_of (List.mem_of_getElem? (i := 517) (by decide +kernel)) (by decide +kernel)
theorem m518 : Cond.code yX1_prepare cX1_prepare 3 none ∈ gw := gw_of (List.mem_of_getElem? (i := 518) (by decide +kernel)) (by decide +kernel)
theorem m519 : Cond.methodLink RX1 26 yX1_imageOf ∈ gw := gw_of (List.mem_of_getElem? (i := 519) (by decide +kernel)) (by decide +kernel)
theorem m521 : Cond.instanceMethod yX1_imageOf ∈ gw := gw_of (List.mem_of_getElem? (i := 521) (by decide +kernel)) (by decide +kernel)
theorem m522 : Cond.code yX1_imageOf cX1_imageOf 5 (some .int) ∈ gw := gw_of (List.mem_of_getElem? (i := 522) (by decide +kernel)) (by decide +kernel)
theorem m523 : Cond.methodLink RX1 30 yX3_image ∈ gw := gw_of (List.mem_of_getElem? (i := 523) (by decide +kernel)) (by decide +kernel)
theorem m524 : Cond.instanceMethod yX3_image ∈ gw := gw_of (List.mem_of_getElem? (i := 524) (by decide +kernel)) (by decide +kernel)
theorem m525 : Cond.selects RX3 yX3_image yX3_image ∈ gw := gw_of (List.mem_of_getElem? (i := 525) (by decide +kernel)) (by decide +kernel)
theorem m526 : Cond.code yX3_image cX3_image 3 (some .int) ∈ gw := gw_of (List.mem_of_getElem? (i := 526) (by decide +kernel)) (by decide +kernel)
theorem m527 : Cond.methodLink RX8 254 yX1_lowestAlike ∈ gw := gw_of (List.mem_of_getElem? (i := 527) (by decide +kernel)) (by decide +kernel)
theorem m528 : Cond.instanceMethod yX1_lowestAlike ∈ gw := gw_of (List.mem_of_getElem? (i := 528) (by decide +kernel)) (by decide +kernel)
theorem m529 : Cond.selects RX1 yX1_lowestAlike yX1_lowestAlike ∈ gw := gw_of (List.mem_of_getElem? (i := 529) (by decide +kernel)) (by decide +kernel)
theorem m530 : Cond.code yX1_lowestAlike cX1_lowestAlike 4 (some .int) ∈ gw := gw_of (List.mem_of_getElem? (i := 530) (by decide +kernel)) (by decide +kernel)
theorem m531 : Cond.methodLink RX1 53 yX1_imageOfNumber ∈ gw := gw_of (List.mem_of_getElem? (i := 531) (by decide +kernel)) (by decide +kernel)
theorem m533 : Cond.instanceMethod yX1_imageOfNumber ∈ gw := gw_of (List.mem_of_getElem? (i := 533) (by decide +kernel)) (by decide +kernel)
theorem m534 : Cond.code yX1_imageOfNumber cX1_imageOfNumber 7 (some .int) ∈ gw := gw_of (List.mem_of_getElem? (i := 534) (by decide +kernel)) (by decide +kernel)
theorem m535 : Cond.methodLink RX1 33 yX3_pairIn ∈ gw := gw_of (List.mem_of_getElem? (i := 535) (by decide +kernel)) (by decide +kernel)
theorem m536 : Cond.static yX3_pairIn ∈ gw := gw_of (List.mem_of_getElem? (i := 536) (by decide +kernel)) (by decide +kernel)
theorem m537 : Cond.code yX3_pairIn cX3_pairIn 1 (some .int) ∈ gw := gw_of (List.mem_of_getElem? (i := 537) (by decide +kernel)) (by decide +kernel)
theorem m538 : Cond.methodLink RX1 37 yX3_foxOf ∈ gw := gw_of (List.mem_of_getElem? (i := 538) (by decide +kernel)) (by decide +kernel)
theorem m539 : Cond.static yX3_foxOf ∈ gw := gw_of (List.mem_of_getElem? (i := 539) (by decide +kernel)) (by decide +kernel)
theorem m540 : Cond.code yX3_foxOf cX3_foxOf 1 (some .int) ∈ gw := gw_of (List.mem_of_getElem? (i := 540) (by decide +kernel)) (by decide +kernel)
theorem m541 : Cond.methodLink RX1 40 yX3_lowerOf ∈ gw := gw_of (List.mem_of_getElem? (i := 541) (by decide +kernel)) (by decide +kernel)
theorem m542 : Cond.methodLink RX1 43 yX3_higherOf ∈ gw := gw_of (List.mem_of_getElem? (i := 542) (by decide +kernel)) (by decide +kernel)
theorem m543 : Cond.methodLink RX1 46 yX3_whoOf ∈ gw := gw_of (List.mem_of_getElem? (i := 543) (by decide +kernel)) (by decide +kernel)
theorem m544 : Cond.static yX3_whoOf ∈ gw := gw_of (List.mem_of_getElem? (i := 544) (by decide +kernel)) (by decide +kernel)
theorem m545 : Cond.code yX3_whoOf cX3_whoOf 1 (some .int) ∈ gw := gw_of (List.mem_of_getElem? (i := 545) (by decide +kernel)) (by decide +kernel)
theorem m546 : Cond.methodLink RX1 49 yX3_numberOf ∈ gw := gw_of (List.mem_of_getElem? (i := 546) (by decide +kernel)) (by decide +kernel)
theorem m547 : Cond.methodLink RX1 56 yJ9_min_7cf53 ∈ gw := gw_of (List.mem_of_getElem? (i := 547) (by decide +kernel)) (by decide +kernel)
theorem m548 : Cond.methodLink RX8 185 yX5_length ∈ gw := gw_of (List.mem_of_getElem? (i := 548) (by decide +kernel)) (by decide +kernel)
theorem m549 : Cond.instanceMethod yX5_length ∈ gw := gw_of (List.mem_of_getElem? (i := 549) (by decide +kernel)) (by decide +kernel)
theorem m550 : Cond.selects RX5 yX5_length yX5_length ∈ gw := gw_of (List.mem_of_getElem? (i := 550) (by decide +kernel)) (by decide +kernel)
theorem m551 : Cond.code yX5_length cX5_length 1 (some .int) ∈ gw := gw_of (List.mem_of_getElem? (i := 551) (by decide +kernel)) (by decide +kernel)
theorem m552 : Cond.methodLink RX8 188 yX4_length ∈ gw := gw_of (List.mem_of_getElem? (i := 552) (by decide +kernel)) (by decide +kernel)
theorem m553 : Cond.instanceMethod yX4_length ∈ gw := gw_of (List.mem_of_getElem? (i := 553) (by decide +kernel)) (by decide +kernel)
theorem m554 : Cond.selects RX4 yX4_length yX4_length ∈ gw := gw_of (List.mem_of_getElem? (i := 554) (by decide +kernel)) (by decide +kernel)
theorem m555 : Cond.code yX4_length cX4_length 1 (some .int) ∈ gw := gw_of (List.mem_of_getElem? (i := 555) (by decide +kernel)) (by decide +kernel)
theorem m556 : Cond.methodLink RL 45 yX8_distance ∈ gw := gw_of (List.mem_of_getElem? (i := 556) (by decide +kernel)) (by decide +kernel)
theorem m557 : Cond.instanceMethod yX8_distance ∈ gw := gw_of (List.mem_of_getElem? (i := 557) (by decide +kernel)) (by decide +kernel)
theorem m558 : Cond.selects RX8 yX8_distance yX8_distance ∈ gw := gw_of (List.mem_of_getElem? (i := 558) (by decide +kernel)) (by decide +kernel)
theorem m559 : Cond.code yX8_distance cX8_distance 6 (some .int) ∈ gw := gw_of (List.mem_of_getElem? (i := 559) (by decide +kernel)) (by decide +kernel)
theorem m560 : Cond.methodLink RL 49 yX8_number ∈ gw := gw_of (List.mem_of_getElem? (i := 560) (by decide +kernel)) (by decide +kernel)
theorem m561 : Cond.instanceMethod yX8_number ∈ gw := gw_of (List.mem_of_getElem? (i := 561) (by decide +kernel)) (by decide +kernel)
theorem m562 : Cond.selects RX8 yX8_number yX8_number ∈ gw := gw_of (List.mem_of_getElem? (i := 562) (by decide +kernel)) (by decide +kernel)
theorem m563 : Cond.code yX8_number cX8_number 6 (some .int) ∈ gw := gw_of (List.mem_of_getElem? (i := 563) (by decide +kernel)) (by decide +kernel)
theorem m564 : Cond.methodLink RL 53 yX8_folded ∈ gw := gw_of (List.mem_of_getElem? (i := 564) (by decide +kernel)) (by decide +kernel)
theorem m565 : Cond.instanceMethod yX8_folded ∈ gw := gw_of (List.mem_of_getElem? (i := 565) (by decide +kernel)) (by decide +kernel)
theorem m566 : Cond.selects RX8 yX8_folded yX8_folded ∈ gw := gw_of (List.mem_of_getElem? (i := 566) (by decide +kernel)) (by decide +kernel)
theorem m567 : Cond.code yX8_folded cX8_folded 6 (some .int) ∈ gw := gw_of (List.mem_of_getElem? (i := 567) (by decide +kernel)) (by decide +kernel)
theorem m568 : Cond.methodLink RL 57 yX8_of ∈ gw := gw_of (List.mem_of_getElem? (i := 568) (by decide +kernel)) (by decide +kernel)
theorem m569 : Cond.instanceMethod yX8_of ∈ gw := gw_of (List.mem_of_getElem? (i := 569) (by decide +kernel)) (by decide +kernel)
theorem m570 : Cond.selects RX8 yX8_of yX8_of ∈ gw := gw_of (List.mem_of_getElem? (i := 570) (by decide +kernel)) (by decide +kernel)
theorem m571 : Cond.code yX8_of cX8_of 3 (some .int) ∈ gw := gw_of (List.mem_of_getElem? (i := 571) (by decide +kernel)) (by decide +kernel)
theorem m572 : Cond.methodLink RX8 198 yX3_isPosition ∈ gw := gw_of (List.mem_of_getElem? (i := 572) (by decide +kernel)) (by decide +kernel)
theorem m573 : Cond.instanceMethod yX3_isPosition ∈ gw := gw_of (List.mem_of_getElem? (i := 573) (by decide +kernel)) (by decide +kernel)
theorem m574 : Cond.selects RX3 yX3_isPosition yX3_isPosition ∈ gw := gw_of (List.mem_of_getElem? (i := 574) (by decide +kernel)) (by decide +kernel)
theorem m575 : Cond.code yX3_isPosition cX3_isPosition 6 (some .boolean) ∈ gw := gw_of (List.mem_of_getElem? (i := 575) (by decide +kernel)) (by decide +kernel)
theorem m576 : Cond.methodLink RX3 53 yX3_pairIn ∈ gw := gw_of (List.mem_of_getElem? (i := 576) (by decide +kernel)) (by decide +kernel)
theorem m577 : Cond.methodLink RX3 56 yX3_foxOf ∈ gw := gw_of (List.mem_of_getElem? (i := 577) (by decide +kernel)) (by decide +kernel)
theorem m578 : Cond.methodLink RX3 59 yX3_placesOf ∈ gw := gw_of (List.mem_of_getElem? (i := 578) (by decide +kernel)) (by decide +kernel)
theorem m579 : Cond.methodLink RX8 202 yX3_whoOf ∈ gw := gw_of (List.mem_of_getElem? (i := 579) (by decide +kernel)) (by decide +kernel)
theorem m580 : Cond.methodLink RX8 205 yX3_foxOf ∈ gw := gw_of (List.mem_of_getElem? (i := 580) (by decide +kernel)) (by decide +kernel)
theorem m581 : Cond.methodLink RX8 208 yX3_pairIn ∈ gw := gw_of (List.mem_of_getElem? (i := 581) (by decide +kernel)) (by decide +kernel)
theorem m582 : Cond.methodLink RX8 211 yX3_lowerOf ∈ gw := gw_of (List.mem_of_getElem? (i := 582) (by decide +kernel)) (by decide +kernel)
theorem m583 : Cond.methodLink RX8 214 yX3_higherOf ∈ gw := gw_of (List.mem_of_getElem? (i := 583) (by decide +kernel)) (by decide +kernel)
theorem m584 : Cond.methodLink RX8 217 yX7_prepare ∈ gw := gw_of (List.mem_of_getElem? (i := 584) (by decide +kernel)) (by decide +kernel)
theorem m585 : Cond.instanceMethod yX7_prepare ∈ gw := gw_of (List.mem_of_getElem? (i := 585) (by decide +kernel)) (by decide +kernel)
theorem m586 : Cond.selects RX7 yX7_prepare yX7_prepare ∈ gw := gw_of (List.mem_of_getElem? (i := 586) (by decide +kernel)) (by decide +kernel)
theorem m587 : Cond.code yX7_prepare cX7_prepare 2 none ∈ gw := gw_of (List.mem_of_getElem? (i := 587) (by decide +kernel)) (by decide +kernel)
theorem m588 : Cond.methodLink RX7 46 yX0_signOf ∈ gw := gw_of (List.mem_of_getElem? (i := 588) (by decide +kernel)) (by decide +kernel)
theorem m589 : Cond.methodLink RX7 52 yX0_prepare ∈ gw := gw_of (List.mem_of_getElem? (i := 589) (by decide +kernel)) (by decide +kernel)
theorem m590 : Cond.methodLink RX7 61 yX1_prepare ∈ gw := gw_of (List.mem_of_getElem? (i := 590) (by decide +kernel)) (by decide +kernel)
theorem m591 : Cond.methodLink RX7 66 yJ7_fill_53178 ∈ gw := gw_of (List.mem_of_getElem? (i := 591) (by decide +kernel)) (by decide +kernel)
theorem m592 : Cond.methodLink RX7 72 yX1_symmetries ∈ gw := gw_of (List.mem_of_getElem? (i := 592) (by decide +kernel)) (by decide +kernel)
theorem m593 : Cond.instanceMethod yX1_symmetries ∈ gw := gw_of (List.mem_of_getElem? (i := 593) (by decide +kernel)) (by decide +kernel)
theorem m594 : Cond.selects RX1 yX1_symmetries yX1_symmetries ∈ gw := gw_of (List.mem_of_getElem? (i := 594) (by decide +kernel)) (by decide +kernel)
theorem m595 : Cond.code yX1_symmetries cX1_symmetries 1 (some .int) ∈ gw := gw_of (List.mem_of_getElem? (i := 595) (by decide +kernel)) (by decide +kernel)
theorem m596 : Cond.methodLink RX7 76 yX7_goThrough ∈ gw := gw_of (List.mem_of_getElem? (i := 596) (by decide +kernel)) (by decide +kernel)
theorem m598 : Cond.instanceMethod yX7_goThrough ∈ gw := gw_of (List.mem_of_getElem? (i := 598) (by decide +kernel)) (by decide +kernel)
theorem m599 : Cond.code yX7_goThrough cX7_goThrough 3 none ∈ gw := gw_of (List.mem_of_getElem? (i := 599) (by decide +kernel)) (by decide +kernel)
theorem m600 : Cond.methodLink RX7 88 yX3_isPosition ∈ gw := gw_of (List.mem_of_getElem? (i := 600) (by decide +kernel)) (by decide +kernel)
theorem m601 : Cond.methodLink RX7 92 yX0_at ∈ gw := gw_of (List.mem_of_getElem? (i := 601) (by decide +kernel)) (by decide +kernel)
theorem m602 : Cond.methodLink RX7 95 yX1_standsForItself ∈ gw := gw_of (List.mem_of_getElem? (i := 602) (by decide +kernel)) (by decide +kernel)
theorem m603 : Cond.instanceMethod yX1_standsForItself ∈ gw := gw_of (List.mem_of_getElem? (i := 603) (by decide +kernel)) (by decide +kernel)
theorem m604 : Cond.selects RX1 yX1_standsForItself yX1_standsForItself ∈ gw := gw_of (List.mem_of_getElem? (i := 604) (by decide +kernel)) (by decide +kernel)
theorem m605 : Cond.code yX1_standsForItself cX1_standsForItself 3 (some .boolean) ∈ gw := gw_of (List.mem_of_getElem? (i := 605) (by decide +kernel)) (by decide +kernel)
theorem m606 : Cond.methodLink RX7 99 yX7_collect ∈ gw := gw_of (List.mem_of_getElem? (i := 606) (by decide +kernel)) (by decide +kernel)
theorem m608 : Cond.instanceMethod yX7_collect ∈ gw := gw_of (List.mem_of_getElem? (i := 608) (by decide +kernel)) (by decide +kernel)
theorem m609 : Cond.code yX7_collect cX7_collect 5 none ∈ gw := gw_of (List.mem_of_getElem? (i := 609) (by decide +kernel)) (by decide +kernel)
theorem m610 : Cond.methodLink RX7 102 yX3_keyOf ∈ gw := gw_of (List.mem_of_getElem? (i := 610) (by decide +kernel)) (by decide +kernel)
theorem m611 : Cond.instanceMethod yX3_keyOf ∈ gw := gw_of (List.mem_of_getElem? (i := 611) (by decide +kernel)) (by decide +kernel)
theorem m612 : Cond.selects RX3 yX3_keyOf yX3_keyOf ∈ gw := gw_of (List.mem_of_getElem? (i := 612) (by decide +kernel)) (by decide +kernel)
theorem m613 : Cond.code yX3_keyOf cX3_keyOf 6 (some .int) ∈ gw := gw_of (List.mem_of_getElem? (i := 613) (by decide +kernel)) (by decide +kernel)
theorem m614 : Cond.methodLink RX3 62 yX3_lowerOf ∈ gw := gw_of (List.mem_of_getElem? (i := 614) (by decide +kernel)) (by decide +kernel)
theorem m615 : Cond.methodLink RX3 65 yX3_higherOf ∈ gw := gw_of (List.mem_of_getElem? (i := 615) (by decide +kernel)) (by decide +kernel)
theorem m616 : Cond.methodLink RX3 68 yX3_whoOf ∈ gw := gw_of (List.mem_of_getElem? (i := 616) (by decide +kernel)) (by decide +kernel)
theorem m617 : Cond.methodLink RX3 71 yJ9_min_7cf53 ∈ gw := gw_of (List.mem_of_getElem? (i := 617) (by decide +kernel)) (by decide +kernel)
theorem m618 : Cond.methodLink RX3 74 yJ9_max_7cf53 ∈ gw := gw_of (List.mem_of_getElem? (i := 618) (by decide +kernel)) (by decide +kernel)
theorem m619 : Cond.methodLink RX7 79 yX7_makeRule ∈ gw := gw_of (List.mem_of_getElem? (i := 619) (by decide +kernel)) (by decide +kernel)
theorem m621 : Cond.instanceMethod yX7_makeRule ∈ gw := gw_of (List.mem_of_getElem? (i := 621) (by decide +kernel)) (by decide +kernel)
theorem m622 : Cond.code yX7_makeRule cX7_makeRule 2 none ∈ gw := gw_of (List.mem_of_getElem? (i := 622) (by decide +kernel)) (by decide +kernel)
theorem m623 : Cond.methodLink RX7 105 yX7_commonest ∈ gw := gw_of (List.mem_of_getElem? (i := 623) (by decide +kernel)) (by decide +kernel)
theorem m625 : Cond.instanceMethod yX7_commonest ∈ gw := gw_of (List.mem_of_getElem? (i := 625) (by decide +kernel)) (by decide +kernel)
theorem m626 : Cond.code yX7_commonest cX7_commonest 6 (some .int) ∈ gw := gw_of (List.mem_of_getElem? (i := 626) (by decide +kernel)) (by decide +kernel)
theorem m627 : Cond.methodLink RX7 42 yX7_distanceOf ∈ gw := gw_of (List.mem_of_getElem? (i := 627) (by decide +kernel)) (by decide +kernel)
theorem m628 : Cond.static yX7_distanceOf ∈ gw := gw_of (List.mem_of_getElem? (i := 628) (by decide +kernel)) (by decide +kernel)
theorem m629 : Cond.code yX7_distanceOf cX7_distanceOf 1 (some .int) ∈ gw := gw_of (List.mem_of_getElem? (i := 629) (by decide +kernel)) (by decide +kernel)
theorem m630 : Cond.methodLink RX7 82 yX7_countExceptions ∈ gw := gw_of (List.mem_of_getElem? (i := 630) (by decide +kernel)) (by decide +kernel)
theorem m632 : Cond.instanceMethod yX7_countExceptions ∈ gw := gw_of (List.mem_of_getElem? (i := 632) (by decide +kernel)) (by decide +kernel)
theorem m633 : Cond.code yX7_countExceptions cX7_countExceptions 5 none ∈ gw := gw_of (List.mem_of_getElem? (i := 633) (by decide +kernel)) (by decide +kernel)
theorem m634 : Cond.methodLink RX7 108 yX7_told ∈ gw := gw_of (List.mem_of_getElem? (i := 634) (by decide +kernel)) (by decide +kernel)
theorem m635 : Cond.instanceMethod yX7_told ∈ gw := gw_of (List.mem_of_getElem? (i := 635) (by decide +kernel)) (by decide +kernel)
theorem m636 : Cond.selects RX7 yX7_told yX7_told ∈ gw := gw_of (List.mem_of_getElem? (i := 636) (by decide +kernel)) (by decide +kernel)
theorem m637 : Cond.code yX7_told cX7_told 2 (some .int) ∈ gw := gw_of (List.mem_of_getElem? (i := 637) (by decide +kernel)) (by decide +kernel)
theorem m638 : Cond.methodLink RX7 110 yX7_countException ∈ gw := gw_of (List.mem_of_getElem? (i := 638) (by decide +kernel)) (by decide +kernel)
theorem m640 : Cond.instanceMethod yX7_countException ∈ gw := gw_of (List.mem_of_getElem? (i := 640) (by decide +kernel)) (by decide +kernel)
theorem m641 : Cond.code yX7_countException cX7_countException 3 none ∈ gw := gw_of (List.mem_of_getElem? (i := 641) (by decide +kernel)) (by decide +kernel)
theorem m642 : Cond.methodLink RX7 114 yJ9_max_7cf53 ∈ gw := gw_of (List.mem_of_getElem? (i := 642) (by decide +kernel)) (by decide +kernel)
theorem m643 : Cond.methodLink RX7 85 yX7_countWith ∈ gw := gw_of (List.mem_of_getElem? (i := 643) (by decide +kernel)) (by decide +kernel)
theorem m644 : Cond.instanceMethod yX7_countWith ∈ gw := gw_of (List.mem_of_getElem? (i := 644) (by decide +kernel)) (by decide +kernel)
theorem m645 : Cond.selects RX7 yX7_countWith yX7_countWith ∈ gw := gw_of (List.mem_of_getElem? (i := 645) (by decide +kernel)) (by decide +kernel)
theorem m646 : Cond.code yX7_countWith cX7_countWith 5 (some .int) ∈ gw := gw_of (List.mem_of_getElem? (i := 646) (by decide +kernel)) (by decide +kernel)
theorem m647 : Cond.methodLink RX8 218 yX3_keyOf ∈ gw := gw_of (List.mem_of_getElem? (i := 647) (by decide +kernel)) (by decide +kernel)
theorem m648 : Cond.methodLink RX8 221 yX7_told ∈ gw := gw_of (List.mem_of_getElem? (i := 648) (by decide +kernel)) (by decide +kernel)
theorem m649 : Cond.methodLink RX8 227 yX1_alike ∈ gw := gw_of (List.mem_of_getElem? (i := 649) (by decide +kernel)) (by decide +kernel)
theorem m650 : Cond.instanceMethod yX1_alike ∈ gw := gw_of (List.mem_of_getElem? (i := 650) (by decide +kernel)) (by decide +kernel)
theorem m651 : Cond.selects RX1 yX1_alike yX1_alike ∈ gw := gw_of (List.mem_of_getElem? (i := 651) (by decide +kernel)) (by decide +kernel)
theorem m652 : Cond.code yX1_alike cX1_alike 4 (some .int) ∈ gw := gw_of (List.mem_of_getElem? (i := 652) (by decide +kernel)) (by decide +kernel)
theorem m653 : Cond.methodLink RX1 61 yX1_symmetries ∈ gw := gw_of (List.mem_of_getElem? (i := 653) (by decide +kernel)) (by decide +kernel)
theorem m654 : Cond.methodLink RL 61 yX8_line ∈ gw := gw_of (List.mem_of_getElem? (i := 654) (by decide +kernel)) (by decide +kernel)
theorem m655 : Cond.instanceMethod yX8_line ∈ gw := gw_of (List.mem_of_getElem? (i := 655) (by decide +kernel)) (by decide +kernel)
theorem m656 : Cond.selects RX8 yX8_line yX8_line ∈ gw := gw_of (List.mem_of_getElem? (i := 656) (by decide +kernel)) (by decide +kernel)
theorem m657 : Cond.code yX8_line cX8_line 4 (some .int) ∈ gw := gw_of (List.mem_of_getElem? (i := 657) (by decide +kernel)) (by decide +kernel)
theorem m658 : Cond.methodLink RX8 230 yX6_take ∈ gw := gw_of (List.mem_of_getElem? (i := 658) (by decide +kernel)) (by decide +kernel)
theorem m659 : Cond.methodLink RL 65 yX8_all ∈ gw := gw_of (List.mem_of_getElem? (i := 659) (by decide +kernel)) (by decide +kernel)
theorem m660 : Cond.instanceMethod yX8_all ∈ gw := gw_of (List.mem_of_getElem? (i := 660) (by decide +kernel)) (by decide +kernel)
theorem m661 : Cond.selects RX8 yX8_all yX8_all ∈ gw := gw_of (List.mem_of_getElem? (i := 661) (by decide +kernel)) (by decide +kernel)
theorem m662 : Cond.code yX8_all cX8_all 2 (some .int) ∈ gw := gw_of (List.mem_of_getElem? (i := 662) (by decide +kernel)) (by decide +kernel)
theorem m663 : Cond.methodLink RX8 237 yX7_total ∈ gw := gw_of (List.mem_of_getElem? (i := 663) (by decide +kernel)) (by decide +kernel)
theorem m664 : Cond.instanceMethod yX7_total ∈ gw := gw_of (List.mem_of_getElem? (i := 664) (by decide +kernel)) (by decide +kernel)
theorem m665 : Cond.selects RX7 yX7_total yX7_total ∈ gw := gw_of (List.mem_of_getElem? (i := 665) (by decide +kernel)) (by decide +kernel)
theorem m666 : Cond.code yX7_total cX7_total 2 (some .int) ∈ gw := gw_of (List.mem_of_getElem? (i := 666) (by decide +kernel)) (by decide +kernel)
theorem m667 : Cond.methodLink RL 69 yX8_withDistance ∈ gw := gw_of (List.mem_of_getElem? (i := 667) (by decide +kernel)) (by decide +kernel)
theorem m668 : Cond.instanceMethod yX8_withDistance ∈ gw := gw_of (List.mem_of_getElem? (i := 668) (by decide +kernel)) (by decide +kernel)
theorem m669 : Cond.selects RX8 yX8_withDistance yX8_withDistance ∈ gw := gw_of (List.mem_of_getElem? (i := 669) (by decide +kernel)) (by decide +kernel)
theorem m670 : Cond.code yX8_withDistance cX8_withDistance 2 (some .int) ∈ gw := gw_of (List.mem_of_getElem? (i := 670) (by decide +kernel)) (by decide +kernel)
theorem m671 : Cond.methodLink RX8 240 yX7_countWith ∈ gw := gw_of (List.mem_of_getElem? (i := 671) (by decide +kernel)) (by decide +kernel)
theorem m672 : Cond.methodLink RL 73 yX8_rule ∈ gw := gw_of (List.mem_of_getElem? (i := 672) (by decide +kernel)) (by decide +kernel)
theorem m673 : Cond.instanceMethod yX8_rule ∈ gw := gw_of (List.mem_of_getElem? (i := 673) (by decide +kernel)) (by decide +kernel)
theorem m674 : Cond.selects RX8 yX8_rule yX8_rule ∈ gw := gw_of (List.mem_of_getElem? (i := 674) (by decide +kernel)) (by decide +kernel)
theorem m675 : Cond.code yX8_rule cX8_rule 2 (some .int) ∈ gw := gw_of (List.mem_of_getElem? (i := 675) (by decide +kernel)) (by decide +kernel)
theorem m676 : Cond.methodLink RL 79 yX8_put ∈ gw := gw_of (List.mem_of_getElem? (i := 676) (by decide +kernel)) (by decide +kernel)
theorem m677 : Cond.instanceMethod yX8_put ∈ gw := gw_of (List.mem_of_getElem? (i := 677) (by decide +kernel)) (by decide +kernel)
theorem m678 : Cond.selects RX8 yX8_put yX8_put ∈ gw := gw_of (List.mem_of_getElem? (i := 678) (by decide +kernel)) (by decide +kernel)
theorem m679 : Cond.code yX8_put cX8_put 4 (some .int) ∈ gw := gw_of (List.mem_of_getElem? (i := 679) (by decide +kernel)) (by decide +kernel)
theorem m680 : Cond.methodLink RX8 243 yX5_countIn ∈ gw := gw_of (List.mem_of_getElem? (i := 680) (by decide +kernel)) (by decide +kernel)
theorem m681 : Cond.static yX5_countIn ∈ gw := gw_of (List.mem_of_getElem? (i := 681) (by decide +kernel)) (by decide +kernel)
theorem m682 : Cond.code yX5_countIn cX5_countIn 7 (some .int) ∈ gw := gw_of (List.mem_of_getElem? (i := 682) (by decide +kernel)) (by decide +kernel)
theorem m683 : Cond.constantLong RX5 19 255 ∈ gw := gw_of (List.mem_of_getElem? (i := 683) (by decide +kernel)) (by decide +kernel)
theorem m684 : Cond.methodLink RX8 247 yX5_append ∈ gw := gw_of (List.mem_of_getElem? (i := 684) (by decide +kernel)) (by decide +kernel)
theorem m685 : Cond.instanceMethod yX5_append ∈ gw := gw_of (List.mem_of_getElem? (i := 685) (by decide +kernel)) (by decide +kernel)
theorem m686 : Cond.selects RX5 yX5_append yX5_append ∈ gw := gw_of (List.mem_of_getElem? (i := 686) (by decide +kernel)) (by decide +kernel)
theorem m687 : Cond.code yX5_append cX5_append 5 none ∈ gw := gw_of (List.mem_of_getElem? (i := 687) (by decide +kernel)) (by decide +kernel)
theorem m688 : Cond.methodLink RL 84 yX8_wipe ∈ gw := gw_of (List.mem_of_getElem? (i := 688) (by decide +kernel)) (by decide +kernel)
theorem m689 : Cond.instanceMethod yX8_wipe ∈ gw := gw_of (List.mem_of_getElem? (i := 689) (by decide +kernel)) (by decide +kernel)
theorem m690 : Cond.selects RX8 yX8_wipe yX8_wipe ∈ gw := gw_of (List.mem_of_getElem? (i := 690) (by decide +kernel)) (by decide +kernel)
theorem m691 : Cond.code yX8_wipe cX8_wipe 2 (some .int) ∈ gw := gw_of (List.mem_of_getElem? (i := 691) (by decide +kernel)) (by decide +kernel)
theorem m692 : Cond.methodLink RL 88 yX8_fault ∈ gw := gw_of (List.mem_of_getElem? (i := 692) (by decide +kernel)) (by decide +kernel)
theorem m693 : Cond.instanceMethod yX8_fault ∈ gw := gw_of (List.mem_of_getElem? (i := 693) (by decide +kernel)) (by decide +kernel)
theorem m694 : Cond.selects RX8 yX8_fault yX8_fault ∈ gw := gw_of (List.mem_of_getElem? (i := 694) (by decide +kernel)) (by decide +kernel)
theorem m695 : Cond.code yX8_fault cX8_fault 1 (some .int) ∈ gw := gw_of (List.mem_of_getElem? (i := 695) (by decide +kernel)) (by decide +kernel)
theorem m696 : Cond.methodLink RL 92 yX8_undo ∈ gw := gw_of (List.mem_of_getElem? (i := 696) (by decide +kernel)) (by decide +kernel)
theorem m697 : Cond.instanceMethod yX8_undo ∈ gw := gw_of (List.mem_of_getElem? (i := 697) (by decide +kernel)) (by decide +kernel)
theorem m698 : Cond.selects RX8 yX8_undo yX8_undo ∈ gw := gw_of (List.mem_of_getElem? (i := 698) (by decide +kernel)) (by decide +kernel)
theorem m699 : Cond.code yX8_undo cX8_undo 1 (some .int) ∈ gw := gw_of (List.mem_of_getElem? (i := 699) (by decide +kernel)) (by decide +kernel)
theorem m700 : Cond.methodLink RX8 251 yX4_takeBack ∈ gw := gw_of (List.mem_of_getElem? (i := 700) (by decide +kernel)) (by decide +kernel)
theorem m701 : Cond.instanceMethod yX4_takeBack ∈ gw := gw_of (List.mem_of_getElem? (i := 701) (by decide +kernel)) (by decide +kernel)
theorem m702 : Cond.selects RX4 yX4_takeBack yX4_takeBack ∈ gw := gw_of (List.mem_of_getElem? (i := 702) (by decide +kernel)) (by decide +kernel)
theorem m703 : Cond.code yX4_takeBack cX4_takeBack 2 none ∈ gw := gw_of (List.mem_of_getElem? (i := 703) (by decide +kernel)) (by decide +kernel)
theorem m704 : Cond.methodLink RL 96 yX8_save ∈ gw := gw_of (List.mem_of_getElem? (i := 704) (by decide +kernel)) (by decide +kernel)
theorem m705 : Cond.instanceMethod yX8_save ∈ gw := gw_of (List.mem_of_getElem? (i := 705) (by decide +kernel)) (by decide +kernel)
theorem m706 : Cond.selects RX8 yX8_save yX8_save ∈ gw := gw_of (List.mem_of_getElem? (i := 706) (by decide +kernel)) (by decide +kernel)
theorem m707 : Cond.code yX8_save cX8_save 2 (some .int) ∈ gw := gw_of (List.mem_of_getElem? (i := 707) (by decide +kernel)) (by decide +kernel)
theorem m708 : Cond.methodLink RL 100 yX8_restore ∈ gw := gw_of (List.mem_of_getElem? (i := 708) (by decide +kernel)) (by decide +kernel)
theorem m709 : Cond.instanceMethod yX8_restore ∈ gw := gw_of (List.mem_of_getElem? (i := 709) (by decide +kernel)) (by decide +kernel)
theorem m710 : Cond.selects RX8 yX8_restore yX8_restore ∈ gw := gw_of (List.mem_of_getElem? (i := 710) (by decide +kernel)) (by decide +kernel)
theorem m711 : Cond.code yX8_restore cX8_restore 2 (some .int) ∈ gw := gw_of (List.mem_of_getElem? (i := 711) (by decide +kernel)) (by decide +kernel)
theorem m712 : Cond.classLink RL 10 RX9 ∈ gw := gw_of (List.mem_of_getElem? (i := 712) (by decide +kernel)) (by decide +kernel)
theorem m713 : Cond.instantiable RX9 21 ∈ gw := gw_of (List.mem_of_getElem? (i := 713) (by decide +kernel)) (by decide +kernel)
theorem m714 : Cond.methodLink RL 12 yX9_init ∈ gw := gw_of (List.mem_of_getElem? (i := 714) (by decide +kernel)) (by decide +kernel)
theorem m715 : Cond.instanceMethod yX9_init ∈ gw := gw_of (List.mem_of_getElem? (i := 715) (by decide +kernel)) (by decide +kernel)
theorem m716 : Cond.code yX9_init cX9_init 4 none ∈ gw := gw_of (List.mem_of_getElem? (i := 716) (by decide +kernel)) (by decide +kernel)
theorem m717 : Cond.methodLink RX9 1 objectInit ∈ gw := gw_of (List.mem_of_getElem? (i := 717) (by decide +kernel)) (by decide +kernel)
theorem m718 : Cond.fieldLink RX9 7 "BoardEndsModel" "at" "[I" ∈ gw := gw_of (List.mem_of_getElem? (i := 718) (by decide +kernel)) (by decide +kernel)
theorem m719 : Cond.fieldLink RX9 13 "BoardEndsModel" "past" "[I" ∈ gw := gw_of (List.mem_of_getElem? (i := 719) (by decide +kernel)) (by decide +kernel)
theorem m720 : Cond.fieldLink RX9 61 "BoardEndsModel" "pastFirst" "I" ∈ gw := gw_of (List.mem_of_getElem? (i := 720) (by decide +kernel)) (by decide +kernel)
theorem m721 : Cond.fieldLink RX9 57 "BoardEndsModel" "pastMany" "I" ∈ gw := gw_of (List.mem_of_getElem? (i := 721) (by decide +kernel)) (by decide +kernel)
theorem m722 : Cond.fieldLink RX9 16 "BoardEndsModel" "slots" "[I" ∈ gw := gw_of (List.mem_of_getElem? (i := 722) (by decide +kernel)) (by decide +kernel)
theorem m723 : Cond.fieldLink RX9 19 "BoardEndsModel" "isSaved" "[Z" ∈ gw := gw_of (List.mem_of_getElem? (i := 723) (by decide +kernel)) (by decide +kernel)
theorem m724 : Cond.fieldLink RX9 23 "BoardEndsModel" "pairLow" "[I" ∈ gw := gw_of (List.mem_of_getElem? (i := 724) (by decide +kernel)) (by decide +kernel)
theorem m725 : Cond.fieldLink RX9 26 "BoardEndsModel" "pairHigh" "[I" ∈ gw := gw_of (List.mem_of_getElem? (i := 725) (by decide +kernel)) (by decide +kernel)
theorem m726 : Cond.fieldLink RX9 29 "BoardEndsModel" "far" "[I" ∈ gw := gw_of (List.mem_of_getElem? (i := 726) (by decide +kernel)) (by decide +kernel)
theorem m727 : Cond.fieldLink RX9 32 "BoardEndsModel" "stands" "[I" ∈ gw := gw_of (List.mem_of_getElem? (i := 727) (by decide +kernel)) (by decide +kernel)
theorem m728 : Cond.fieldLink RX9 35 "BoardEndsModel" "alike" "[I" ∈ gw := gw_of (List.mem_of_getElem? (i := 728) (by decide +kernel)) (by decide +kernel)
theorem m729 : Cond.fieldLink RX9 38 "BoardEndsModel" "ways" "[I" ∈ gw := gw_of (List.mem_of_getElem? (i := 729) (by decide +kernel)) (by decide +kernel)
theorem m730 : Cond.fieldLink RX9 125 "BoardEndsModel" "symmetries" "I" ∈ gw := gw_of (List.mem_of_getElem? (i := 730) (by decide +kernel)) (by decide +kernel)
theorem m731 : Cond.fieldLink RX9 41 "BoardEndsModel" "rules" "[I" ∈ gw := gw_of (List.mem_of_getElem? (i := 731) (by decide +kernel)) (by decide +kernel)
theorem m732 : Cond.fieldLink RX9 44 "BoardEndsModel" "counts" "[I" ∈ gw := gw_of (List.mem_of_getElem? (i := 732) (by decide +kernel)) (by decide +kernel)
theorem m733 : Cond.fieldLink RX9 47 "BoardEndsModel" "worked" "[I" ∈ gw := gw_of (List.mem_of_getElem? (i := 733) (by decide +kernel)) (by decide +kernel)
theorem m734 : Cond.fieldLink RX9 141 "BoardEndsModel" "isWorked" "Z" ∈ gw := gw_of (List.mem_of_getElem? (i := 734) (by decide +kernel)) (by decide +kernel)
theorem m735 : Cond.fieldLink RX9 180 "BoardEndsModel" "bestFrom" "I" ∈ gw := gw_of (List.mem_of_getElem? (i := 735) (by decide +kernel)) (by decide +kernel)
theorem m736 : Cond.fieldLink RX9 183 "BoardEndsModel" "bestTo" "I" ∈ gw := gw_of (List.mem_of_getElem? (i := 736) (by decide +kernel)) (by decide +kernel)
theorem m737 : Cond.fieldLink RX9 50 "BoardEndsModel" "pad" "[I" ∈ gw := gw_of (List.mem_of_getElem? (i := 737) (by decide +kernel)) (by decide +kernel)
theorem m738 : Cond.fieldLink RX9 223 "BoardEndsModel" "padMany" "I" ∈ gw := gw_of (List.mem_of_getElem? (i := 738) (by decide +kernel)) (by decide +kernel)
theorem m782 : Cond.methodLink RL 17 yX9_set ∈ gw := gw_of (List.mem_of_getElem? (i := 782) (by decide +kernel)) (by decide +kernel)
theorem m783 : Cond.instanceMethod yX9_set ∈ gw := gw_of (List.mem_of_getElem? (i := 783) (by decide +kernel)) (by decide +kernel)
theorem m784 : Cond.selects RX9 yX9_set yX9_set ∈ gw := gw_of (List.mem_of_getElem? (i := 784) (by decide +kernel)) (by decide +kernel)
theorem m785 : Cond.code yX9_set cX9_set 4 (some .int) ∈ gw := gw_of (List.mem_of_getElem? (i := 785) (by decide +kernel)) (by decide +kernel)
theorem m786 : Cond.methodLink RX9 53 yX9_in ∈ gw := gw_of (List.mem_of_getElem? (i := 786) (by decide +kernel)) (by decide +kernel)
theorem m787 : Cond.static yX9_in ∈ gw := gw_of (List.mem_of_getElem? (i := 787) (by decide +kernel)) (by decide +kernel)
theorem m788 : Cond.code yX9_in cX9_in 3 (some .boolean) ∈ gw := gw_of (List.mem_of_getElem? (i := 788) (by decide +kernel)) (by decide +kernel)
theorem m789 : Cond.methodLink RX9 192 yX9_keep ∈ gw := gw_of (List.mem_of_getElem? (i := 789) (by decide +kernel)) (by decide +kernel)
theorem m791 : Cond.instanceMethod yX9_keep ∈ gw := gw_of (List.mem_of_getElem? (i := 791) (by decide +kernel)) (by decide +kernel)
theorem m792 : Cond.code yX9_keep cX9_keep 3 none ∈ gw := gw_of (List.mem_of_getElem? (i := 792) (by decide +kernel)) (by decide +kernel)
theorem m793 : Cond.methodLink RL 22 yX9_block ∈ gw := gw_of (List.mem_of_getElem? (i := 793) (by decide +kernel)) (by decide +kernel)
theorem m794 : Cond.instanceMethod yX9_block ∈ gw := gw_of (List.mem_of_getElem? (i := 794) (by decide +kernel)) (by decide +kernel)
theorem m795 : Cond.selects RX9 yX9_block yX9_block ∈ gw := gw_of (List.mem_of_getElem? (i := 795) (by decide +kernel)) (by decide +kernel)
theorem m796 : Cond.code yX9_block cX9_block 2 (some .int) ∈ gw := gw_of (List.mem_of_getElem? (i := 796) (by decide +kernel)) (by decide +kernel)
theorem m797 : Cond.methodLink RX9 195 yX9_isPlace ∈ gw := gw_of (List.mem_of_getElem? (i := 797) (by decide +kernel)) (by decide +kernel)
theorem m798 : Cond.static yX9_isPlace ∈ gw := gw_of (List.mem_of_getElem? (i := 798) (by decide +kernel)) (by decide +kernel)
theorem m799 : Cond.code yX9_isPlace cX9_isPlace 1 (some .boolean) ∈ gw := gw_of (List.mem_of_getElem? (i := 799) (by decide +kernel)) (by decide +kernel)
theorem m800 : Cond.methodLink RX9 91 yX9_isFree ∈ gw := gw_of (List.mem_of_getElem? (i := 800) (by decide +kernel)) (by decide +kernel)
theorem m802 : Cond.instanceMethod yX9_isFree ∈ gw := gw_of (List.mem_of_getElem? (i := 802) (by decide +kernel)) (by decide +kernel)
theorem m803 : Cond.code yX9_isFree cX9_isFree 2 (some .boolean) ∈ gw := gw_of (List.mem_of_getElem? (i := 803) (by decide +kernel)) (by decide +kernel)
theorem m804 : Cond.methodLink RX9 78 yX9_has ∈ gw := gw_of (List.mem_of_getElem? (i := 804) (by decide +kernel)) (by decide +kernel)
theorem m805 : Cond.static yX9_has ∈ gw := gw_of (List.mem_of_getElem? (i := 805) (by decide +kernel)) (by decide +kernel)
theorem m806 : Cond.code yX9_has cX9_has 2 (some .boolean) ∈ gw := gw_of (List.mem_of_getElem? (i := 806) (by decide +kernel)) (by decide +kernel)
theorem m807 : Cond.methodLink RX9 198 yX9_many ∈ gw := gw_of (List.mem_of_getElem? (i := 807) (by decide +kernel)) (by decide +kernel)
theorem m808 : Cond.static yX9_many ∈ gw := gw_of (List.mem_of_getElem? (i := 808) (by decide +kernel)) (by decide +kernel)
theorem m809 : Cond.code yX9_many cX9_many 3 (some .int) ∈ gw := gw_of (List.mem_of_getElem? (i := 809) (by decide +kernel)) (by decide +kernel)
theorem m810 : Cond.methodLink RL 27 yX9_setUp ∈ gw := gw_of (List.mem_of_getElem? (i := 810) (by decide +kernel)) (by decide +kernel)
theorem m811 : Cond.instanceMethod yX9_setUp ∈ gw := gw_of (List.mem_of_getElem? (i := 811) (by decide +kernel)) (by decide +kernel)
theorem m812 : Cond.selects RX9 yX9_setUp yX9_setUp ∈ gw := gw_of (List.mem_of_getElem? (i := 812) (by decide +kernel)) (by decide +kernel)
theorem m813 : Cond.code yX9_setUp cX9_setUp 6 (some .int) ∈ gw := gw_of (List.mem_of_getElem? (i := 813) (by decide +kernel)) (by decide +kernel)
theorem m814 : Cond.methodLink RX9 201 yX9_whyNot ∈ gw := gw_of (List.mem_of_getElem? (i := 814) (by decide +kernel)) (by decide +kernel)
theorem m816 : Cond.instanceMethod yX9_whyNot ∈ gw := gw_of (List.mem_of_getElem? (i := 816) (by decide +kernel)) (by decide +kernel)
theorem m817 : Cond.code yX9_whyNot cX9_whyNot 6 (some .int) ∈ gw := gw_of (List.mem_of_getElem? (i := 817) (by decide +kernel)) (by decide +kernel)
theorem m818 : Cond.methodLink RX9 204 yX9_lay ∈ gw := gw_of (List.mem_of_getElem? (i := 818) (by decide +kernel)) (by decide +kernel)
theorem m820 : Cond.instanceMethod yX9_lay ∈ gw := gw_of (List.mem_of_getElem? (i := 820) (by decide +kernel)) (by decide +kernel)
theorem m821 : Cond.code yX9_lay cX9_lay 5 none ∈ gw := gw_of (List.mem_of_getElem? (i := 821) (by decide +kernel)) (by decide +kernel)
theorem m822 : Cond.methodLink RX9 82 yX9_lesser ∈ gw := gw_of (List.mem_of_getElem? (i := 822) (by decide +kernel)) (by decide +kernel)
theorem m823 : Cond.static yX9_lesser ∈ gw := gw_of (List.mem_of_getElem? (i := 823) (by decide +kernel)) (by decide +kernel)
theorem m824 : Cond.code yX9_lesser cX9_lesser 2 (some .int) ∈ gw := gw_of (List.mem_of_getElem? (i := 824) (by decide +kernel)) (by decide +kernel)
theorem m825 : Cond.methodLink RX9 85 yX9_greater ∈ gw := gw_of (List.mem_of_getElem? (i := 825) (by decide +kernel)) (by decide +kernel)
theorem m826 : Cond.static yX9_greater ∈ gw := gw_of (List.mem_of_getElem? (i := 826) (by decide +kernel)) (by decide +kernel)
theorem m827 : Cond.code yX9_greater cX9_greater 2 (some .int) ∈ gw := gw_of (List.mem_of_getElem? (i := 827) (by decide +kernel)) (by decide +kernel)
theorem m828 : Cond.methodLink RX9 208 yX9_distanceNow ∈ gw := gw_of (List.mem_of_getElem? (i := 828) (by decide +kernel)) (by decide +kernel)
theorem m830 : Cond.instanceMethod yX9_distanceNow ∈ gw := gw_of (List.mem_of_getElem? (i := 830) (by decide +kernel)) (by decide +kernel)
theorem m831 : Cond.code yX9_distanceNow cX9_distanceNow 1 (some .int) ∈ gw := gw_of (List.mem_of_getElem? (i := 831) (by decide +kernel)) (by decide +kernel)
theorem m832 : Cond.methodLink RX9 171 yX9_isCaught ∈ gw := gw_of (List.mem_of_getElem? (i := 832) (by decide +kernel)) (by decide +kernel)
theorem m834 : Cond.instanceMethod yX9_isCaught ∈ gw := gw_of (List.mem_of_getElem? (i := 834) (by decide +kernel)) (by decide +kernel)
theorem m835 : Cond.code yX9_isCaught cX9_isCaught 1 (some .boolean) ∈ gw := gw_of (List.mem_of_getElem? (i := 835) (by decide +kernel)) (by decide +kernel)
theorem m836 : Cond.methodLink RX9 161 yX9_work ∈ gw := gw_of (List.mem_of_getElem? (i := 836) (by decide +kernel)) (by decide +kernel)
theorem m838 : Cond.instanceMethod yX9_work ∈ gw := gw_of (List.mem_of_getElem? (i := 838) (by decide +kernel)) (by decide +kernel)
theorem m839 : Cond.code yX9_work cX9_work 2 none ∈ gw := gw_of (List.mem_of_getElem? (i := 839) (by decide +kernel)) (by decide +kernel)
theorem m840 : Cond.methodLink RX9 145 yX9_isAsWorked ∈ gw := gw_of (List.mem_of_getElem? (i := 840) (by decide +kernel)) (by decide +kernel)
theorem m842 : Cond.instanceMethod yX9_isAsWorked ∈ gw := gw_of (List.mem_of_getElem? (i := 842) (by decide +kernel)) (by decide +kernel)
theorem m843 : Cond.code yX9_isAsWorked cX9_isAsWorked 3 (some .boolean) ∈ gw := gw_of (List.mem_of_getElem? (i := 843) (by decide +kernel)) (by decide +kernel)
theorem m844 : Cond.methodLink RX9 149 yX9_workOutAll ∈ gw := gw_of (List.mem_of_getElem? (i := 844) (by decide +kernel)) (by decide +kernel)
theorem m846 : Cond.instanceMethod yX9_workOutAll ∈ gw := gw_of (List.mem_of_getElem? (i := 846) (by decide +kernel)) (by decide +kernel)
theorem m847 : Cond.code yX9_workOutAll cX9_workOutAll 3 none ∈ gw := gw_of (List.mem_of_getElem? (i := 847) (by decide +kernel)) (by decide +kernel)
theorem m848 : Cond.methodLink RX9 122 yX9_workOut ∈ gw := gw_of (List.mem_of_getElem? (i := 848) (by decide +kernel)) (by decide +kernel)
theorem m850 : Cond.instanceMethod yX9_workOut ∈ gw := gw_of (List.mem_of_getElem? (i := 850) (by decide +kernel)) (by decide +kernel)
theorem m851 : Cond.code yX9_workOut cX9_workOut 7 (some .boolean) ∈ gw := gw_of (List.mem_of_getElem? (i := 851) (by decide +kernel)) (by decide +kernel)
theorem m852 : Cond.methodLink RX9 113 yX9_isPosition ∈ gw := gw_of (List.mem_of_getElem? (i := 852) (by decide +kernel)) (by decide +kernel)
theorem m854 : Cond.instanceMethod yX9_isPosition ∈ gw := gw_of (List.mem_of_getElem? (i := 854) (by decide +kernel)) (by decide +kernel)
theorem m855 : Cond.code yX9_isPosition cX9_isPosition 6 (some .boolean) ∈ gw := gw_of (List.mem_of_getElem? (i := 855) (by decide +kernel)) (by decide +kernel)
theorem m856 : Cond.methodLink RX9 116 yX9_ofHunters ∈ gw := gw_of (List.mem_of_getElem? (i := 856) (by decide +kernel)) (by decide +kernel)
theorem m858 : Cond.instanceMethod yX9_ofHunters ∈ gw := gw_of (List.mem_of_getElem? (i := 858) (by decide +kernel)) (by decide +kernel)
theorem m859 : Cond.code yX9_ofHunters cX9_ofHunters 4 (some .int) ∈ gw := gw_of (List.mem_of_getElem? (i := 859) (by decide +kernel)) (by decide +kernel)
theorem m860 : Cond.methodLink RX9 106 yX9_canCatch ∈ gw := gw_of (List.mem_of_getElem? (i := 860) (by decide +kernel)) (by decide +kernel)
theorem m862 : Cond.instanceMethod yX9_canCatch ∈ gw := gw_of (List.mem_of_getElem? (i := 862) (by decide +kernel)) (by decide +kernel)
theorem m863 : Cond.code yX9_canCatch cX9_canCatch 3 (some .boolean) ∈ gw := gw_of (List.mem_of_getElem? (i := 863) (by decide +kernel)) (by decide +kernel)
theorem m864 : Cond.methodLink RX9 95 yX9_isStep ∈ gw := gw_of (List.mem_of_getElem? (i := 864) (by decide +kernel)) (by decide +kernel)
theorem m865 : Cond.static yX9_isStep ∈ gw := gw_of (List.mem_of_getElem? (i := 865) (by decide +kernel)) (by decide +kernel)
theorem m866 : Cond.code yX9_isStep cX9_isStep 3 (some .boolean) ∈ gw := gw_of (List.mem_of_getElem? (i := 866) (by decide +kernel)) (by decide +kernel)
theorem m867 : Cond.methodLink RX9 75 yX9_between ∈ gw := gw_of (List.mem_of_getElem? (i := 867) (by decide +kernel)) (by decide +kernel)
theorem m868 : Cond.static yX9_between ∈ gw := gw_of (List.mem_of_getElem? (i := 868) (by decide +kernel)) (by decide +kernel)
theorem m869 : Cond.code yX9_between cX9_between 2 (some .int) ∈ gw := gw_of (List.mem_of_getElem? (i := 869) (by decide +kernel)) (by decide +kernel)
theorem m870 : Cond.methodLink RX9 68 yX9_rowsBetween ∈ gw := gw_of (List.mem_of_getElem? (i := 870) (by decide +kernel)) (by decide +kernel)
theorem m871 : Cond.static yX9_rowsBetween ∈ gw := gw_of (List.mem_of_getElem? (i := 871) (by decide +kernel)) (by decide +kernel)
theorem m872 : Cond.code yX9_rowsBetween cX9_rowsBetween 2 (some .int) ∈ gw := gw_of (List.mem_of_getElem? (i := 872) (by decide +kernel)) (by decide +kernel)
theorem m873 : Cond.methodLink RX9 64 yX9_size ∈ gw := gw_of (List.mem_of_getElem? (i := 873) (by decide +kernel)) (by decide +kernel)
theorem m874 : Cond.static yX9_size ∈ gw := gw_of (List.mem_of_getElem? (i := 874) (by decide +kernel)) (by decide +kernel)
theorem m875 : Cond.code yX9_size cX9_size 1 (some .int) ∈ gw := gw_of (List.mem_of_getElem? (i := 875) (by decide +kernel)) (by decide +kernel)
theorem m876 : Cond.methodLink RX9 72 yX9_columnsBetween ∈ gw := gw_of (List.mem_of_getElem? (i := 876) (by decide +kernel)) (by decide +kernel)
theorem m877 : Cond.static yX9_columnsBetween ∈ gw := gw_of (List.mem_of_getElem? (i := 877) (by decide +kernel)) (by decide +kernel)
theorem m878 : Cond.code yX9_columnsBetween cX9_columnsBetween 2 (some .int) ∈ gw := gw_of (List.mem_of_getElem? (i := 878) (by decide +kernel)) (by decide +kernel)
theorem m879 : Cond.methodLink RX9 109 yX9_ofHunter ∈ gw := gw_of (List.mem_of_getElem? (i := 879) (by decide +kernel)) (by decide +kernel)
theorem m881 : Cond.instanceMethod yX9_ofHunter ∈ gw := gw_of (List.mem_of_getElem? (i := 881) (by decide +kernel)) (by decide +kernel)
theorem m882 : Cond.code yX9_ofHunter cX9_ofHunter 6 (some .int) ∈ gw := gw_of (List.mem_of_getElem? (i := 882) (by decide +kernel)) (by decide +kernel)
theorem m883 : Cond.methodLink RX9 99 yX9_numberOf ∈ gw := gw_of (List.mem_of_getElem? (i := 883) (by decide +kernel)) (by decide +kernel)
theorem m884 : Cond.static yX9_numberOf ∈ gw := gw_of (List.mem_of_getElem? (i := 884) (by decide +kernel)) (by decide +kernel)
theorem m885 : Cond.code yX9_numberOf cX9_numberOf 4 (some .int) ∈ gw := gw_of (List.mem_of_getElem? (i := 885) (by decide +kernel)) (by decide +kernel)
theorem m886 : Cond.methodLink RX9 88 yX9_pair ∈ gw := gw_of (List.mem_of_getElem? (i := 886) (by decide +kernel)) (by decide +kernel)
theorem m887 : Cond.static yX9_pair ∈ gw := gw_of (List.mem_of_getElem? (i := 887) (by decide +kernel)) (by decide +kernel)
theorem m888 : Cond.code yX9_pair cX9_pair 4 (some .int) ∈ gw := gw_of (List.mem_of_getElem? (i := 888) (by decide +kernel)) (by decide +kernel)
theorem m889 : Cond.methodLink RX9 103 yX9_nearer ∈ gw := gw_of (List.mem_of_getElem? (i := 889) (by decide +kernel)) (by decide +kernel)
theorem m890 : Cond.static yX9_nearer ∈ gw := gw_of (List.mem_of_getElem? (i := 890) (by decide +kernel)) (by decide +kernel)
theorem m891 : Cond.code yX9_nearer cX9_nearer 2 (some .int) ∈ gw := gw_of (List.mem_of_getElem? (i := 891) (by decide +kernel)) (by decide +kernel)
theorem m892 : Cond.methodLink RX9 119 yX9_ofFox ∈ gw := gw_of (List.mem_of_getElem? (i := 892) (by decide +kernel)) (by decide +kernel)
theorem m894 : Cond.instanceMethod yX9_ofFox ∈ gw := gw_of (List.mem_of_getElem? (i := 894) (by decide +kernel)) (by decide +kernel)
theorem m895 : Cond.code yX9_ofFox cX9_ofFox 7 (some .int) ∈ gw := gw_of (List.mem_of_getElem? (i := 895) (by decide +kernel)) (by decide +kernel)
theorem m896 : Cond.methodLink RX9 152 yX9_findSymmetries ∈ gw := gw_of (List.mem_of_getElem? (i := 896) (by decide +kernel)) (by decide +kernel)
theorem m898 : Cond.instanceMethod yX9_findSymmetries ∈ gw := gw_of (List.mem_of_getElem? (i := 898) (by decide +kernel)) (by decide +kernel)
theorem m899 : Cond.code yX9_findSymmetries cX9_findSymmetries 5 none ∈ gw := gw_of (List.mem_of_getElem? (i := 899) (by decide +kernel)) (by decide +kernel)
theorem m900 : Cond.methodLink RX9 128 yX9_turned ∈ gw := gw_of (List.mem_of_getElem? (i := 900) (by decide +kernel)) (by decide +kernel)
theorem m901 : Cond.static yX9_turned ∈ gw := gw_of (List.mem_of_getElem? (i := 901) (by decide +kernel)) (by decide +kernel)
theorem m902 : Cond.code yX9_turned cX9_turned 6 (some .int) ∈ gw := gw_of (List.mem_of_getElem? (i := 902) (by decide +kernel)) (by decide +kernel)
theorem m903 : Cond.methodLink RX9 155 yX9_fold ∈ gw := gw_of (List.mem_of_getElem? (i := 903) (by decide +kernel)) (by decide +kernel)
theorem m905 : Cond.instanceMethod yX9_fold ∈ gw := gw_of (List.mem_of_getElem? (i := 905) (by decide +kernel)) (by decide +kernel)
theorem m906 : Cond.code yX9_fold cX9_fold 2 none ∈ gw := gw_of (List.mem_of_getElem? (i := 906) (by decide +kernel)) (by decide +kernel)
theorem m907 : Cond.methodLink RX9 131 yX9_foldOne ∈ gw := gw_of (List.mem_of_getElem? (i := 907) (by decide +kernel)) (by decide +kernel)
theorem m909 : Cond.instanceMethod yX9_foldOne ∈ gw := gw_of (List.mem_of_getElem? (i := 909) (by decide +kernel)) (by decide +kernel)
theorem m910 : Cond.code yX9_foldOne cX9_foldOne 8 none ∈ gw := gw_of (List.mem_of_getElem? (i := 910) (by decide +kernel)) (by decide +kernel)
theorem m911 : Cond.methodLink RX9 135 yX9_madeBy ∈ gw := gw_of (List.mem_of_getElem? (i := 911) (by decide +kernel)) (by decide +kernel)
theorem m913 : Cond.instanceMethod yX9_madeBy ∈ gw := gw_of (List.mem_of_getElem? (i := 913) (by decide +kernel)) (by decide +kernel)
theorem m914 : Cond.code yX9_madeBy cX9_madeBy 5 (some .int) ∈ gw := gw_of (List.mem_of_getElem? (i := 914) (by decide +kernel)) (by decide +kernel)
theorem m915 : Cond.methodLink RX9 158 yX9_ruleOf ∈ gw := gw_of (List.mem_of_getElem? (i := 915) (by decide +kernel)) (by decide +kernel)
theorem m917 : Cond.instanceMethod yX9_ruleOf ∈ gw := gw_of (List.mem_of_getElem? (i := 917) (by decide +kernel)) (by decide +kernel)
theorem m918 : Cond.code yX9_ruleOf cX9_ruleOf 6 (some .int) ∈ gw := gw_of (List.mem_of_getElem? (i := 918) (by decide +kernel)) (by decide +kernel)
theorem m919 : Cond.methodLink RX9 138 yX9_key ∈ gw := gw_of (List.mem_of_getElem? (i := 919) (by decide +kernel)) (by decide +kernel)
theorem m921 : Cond.instanceMethod yX9_key ∈ gw := gw_of (List.mem_of_getElem? (i := 921) (by decide +kernel)) (by decide +kernel)
theorem m922 : Cond.code yX9_key cX9_key 6 (some .int) ∈ gw := gw_of (List.mem_of_getElem? (i := 922) (by decide +kernel)) (by decide +kernel)
theorem m923 : Cond.methodLink RX9 164 yX9_isHit ∈ gw := gw_of (List.mem_of_getElem? (i := 923) (by decide +kernel)) (by decide +kernel)
theorem m925 : Cond.instanceMethod yX9_isHit ∈ gw := gw_of (List.mem_of_getElem? (i := 925) (by decide +kernel)) (by decide +kernel)
theorem m926 : Cond.code yX9_isHit cX9_isHit 1 (some .boolean) ∈ gw := gw_of (List.mem_of_getElem? (i := 926) (by decide +kernel)) (by decide +kernel)
theorem m927 : Cond.methodLink RX9 167 yX9_numberNow ∈ gw := gw_of (List.mem_of_getElem? (i := 927) (by decide +kernel)) (by decide +kernel)
theorem m929 : Cond.instanceMethod yX9_numberNow ∈ gw := gw_of (List.mem_of_getElem? (i := 929) (by decide +kernel)) (by decide +kernel)
theorem m930 : Cond.code yX9_numberNow cX9_numberNow 1 (some .int) ∈ gw := gw_of (List.mem_of_getElem? (i := 930) (by decide +kernel)) (by decide +kernel)
theorem m931 : Cond.methodLink RL 31 yX9_move ∈ gw := gw_of (List.mem_of_getElem? (i := 931) (by decide +kernel)) (by decide +kernel)
theorem m932 : Cond.instanceMethod yX9_move ∈ gw := gw_of (List.mem_of_getElem? (i := 932) (by decide +kernel)) (by decide +kernel)
theorem m933 : Cond.selects RX9 yX9_move yX9_move ∈ gw := gw_of (List.mem_of_getElem? (i := 933) (by decide +kernel)) (by decide +kernel)
theorem m934 : Cond.code yX9_move cX9_move 3 (some .int) ∈ gw := gw_of (List.mem_of_getElem? (i := 934) (by decide +kernel)) (by decide +kernel)
theorem m935 : Cond.methodLink RX9 186 yX9_isMove ∈ gw := gw_of (List.mem_of_getElem? (i := 935) (by decide +kernel)) (by decide +kernel)
theorem m937 : Cond.instanceMethod yX9_isMove ∈ gw := gw_of (List.mem_of_getElem? (i := 937) (by decide +kernel)) (by decide +kernel)
theorem m938 : Cond.code yX9_isMove cX9_isMove 3 (some .boolean) ∈ gw := gw_of (List.mem_of_getElem? (i := 938) (by decide +kernel)) (by decide +kernel)
theorem m939 : Cond.methodLink RX9 174 yX9_isHunterMove ∈ gw := gw_of (List.mem_of_getElem? (i := 939) (by decide +kernel)) (by decide +kernel)
theorem m941 : Cond.instanceMethod yX9_isHunterMove ∈ gw := gw_of (List.mem_of_getElem? (i := 941) (by decide +kernel)) (by decide +kernel)
theorem m942 : Cond.code yX9_isHunterMove cX9_isHunterMove 5 (some .boolean) ∈ gw := gw_of (List.mem_of_getElem? (i := 942) (by decide +kernel)) (by decide +kernel)
theorem m943 : Cond.methodLink RX9 177 yX9_isFoxMove ∈ gw := gw_of (List.mem_of_getElem? (i := 943) (by decide +kernel)) (by decide +kernel)
theorem m945 : Cond.instanceMethod yX9_isFoxMove ∈ gw := gw_of (List.mem_of_getElem? (i := 945) (by decide +kernel)) (by decide +kernel)
theorem m946 : Cond.code yX9_isFoxMove cX9_isFoxMove 3 (some .boolean) ∈ gw := gw_of (List.mem_of_getElem? (i := 946) (by decide +kernel)) (by decide +kernel)
theorem m947 : Cond.methodLink RX9 211 yX9_make ∈ gw := gw_of (List.mem_of_getElem? (i := 947) (by decide +kernel)) (by decide +kernel)
theorem m949 : Cond.instanceMethod yX9_make ∈ gw := gw_of (List.mem_of_getElem? (i := 949) (by decide +kernel)) (by decide +kernel)
theorem m950 : Cond.code yX9_make cX9_make 4 (some .int) ∈ gw := gw_of (List.mem_of_getElem? (i := 950) (by decide +kernel)) (by decide +kernel)
theorem m951 : Cond.methodLink RL 36 yX9_play ∈ gw := gw_of (List.mem_of_getElem? (i := 951) (by decide +kernel)) (by decide +kernel)
theorem m952 : Cond.instanceMethod yX9_play ∈ gw := gw_of (List.mem_of_getElem? (i := 952) (by decide +kernel)) (by decide +kernel)
theorem m953 : Cond.selects RX9 yX9_play yX9_play ∈ gw := gw_of (List.mem_of_getElem? (i := 953) (by decide +kernel)) (by decide +kernel)
theorem m954 : Cond.code yX9_play cX9_play 1 (some .int) ∈ gw := gw_of (List.mem_of_getElem? (i := 954) (by decide +kernel)) (by decide +kernel)
theorem m955 : Cond.methodLink RX9 214 yX9_findBest ∈ gw := gw_of (List.mem_of_getElem? (i := 955) (by decide +kernel)) (by decide +kernel)
theorem m957 : Cond.instanceMethod yX9_findBest ∈ gw := gw_of (List.mem_of_getElem? (i := 957) (by decide +kernel)) (by decide +kernel)
theorem m958 : Cond.code yX9_findBest cX9_findBest 4 (some .boolean) ∈ gw := gw_of (List.mem_of_getElem? (i := 958) (by decide +kernel)) (by decide +kernel)
theorem m959 : Cond.methodLink RX9 189 yX9_worth ∈ gw := gw_of (List.mem_of_getElem? (i := 959) (by decide +kernel)) (by decide +kernel)
theorem m961 : Cond.instanceMethod yX9_worth ∈ gw := gw_of (List.mem_of_getElem? (i := 961) (by decide +kernel)) (by decide +kernel)
theorem m962 : Cond.code yX9_worth cX9_worth 6 (some .int) ∈ gw := gw_of (List.mem_of_getElem? (i := 962) (by decide +kernel)) (by decide +kernel)
theorem m963 : Cond.methodLink RL 44 yX9_now ∈ gw := gw_of (List.mem_of_getElem? (i := 963) (by decide +kernel)) (by decide +kernel)
theorem m964 : Cond.instanceMethod yX9_now ∈ gw := gw_of (List.mem_of_getElem? (i := 964) (by decide +kernel)) (by decide +kernel)
theorem m965 : Cond.selects RX9 yX9_now yX9_now ∈ gw := gw_of (List.mem_of_getElem? (i := 965) (by decide +kernel)) (by decide +kernel)
theorem m966 : Cond.code yX9_now cX9_now 2 (some .int) ∈ gw := gw_of (List.mem_of_getElem? (i := 966) (by decide +kernel)) (by decide +kernel)
theorem m967 : Cond.methodLink RX9 217 yX9_best ∈ gw := gw_of (List.mem_of_getElem? (i := 967) (by decide +kernel)) (by decide +kernel)
theorem m969 : Cond.instanceMethod yX9_best ∈ gw := gw_of (List.mem_of_getElem? (i := 969) (by decide +kernel)) (by decide +kernel)
theorem m970 : Cond.code yX9_best cX9_best 2 (some .int) ∈ gw := gw_of (List.mem_of_getElem? (i := 970) (by decide +kernel)) (by decide +kernel)
theorem m971 : Cond.methodLink RX9 220 yX9_standsNow ∈ gw := gw_of (List.mem_of_getElem? (i := 971) (by decide +kernel)) (by decide +kernel)
theorem m973 : Cond.instanceMethod yX9_standsNow ∈ gw := gw_of (List.mem_of_getElem? (i := 973) (by decide +kernel)) (by decide +kernel)
theorem m974 : Cond.code yX9_standsNow cX9_standsNow 1 (some .int) ∈ gw := gw_of (List.mem_of_getElem? (i := 974) (by decide +kernel)) (by decide +kernel)
theorem m975 : Cond.methodLink RL 48 yX9_distance ∈ gw := gw_of (List.mem_of_getElem? (i := 975) (by decide +kernel)) (by decide +kernel)
theorem m976 : Cond.instanceMethod yX9_distance ∈ gw := gw_of (List.mem_of_getElem? (i := 976) (by decide +kernel)) (by decide +kernel)
theorem m977 : Cond.selects RX9 yX9_distance yX9_distance ∈ gw := gw_of (List.mem_of_getElem? (i := 977) (by decide +kernel)) (by decide +kernel)
theorem m978 : Cond.code yX9_distance cX9_distance 6 (some .int) ∈ gw := gw_of (List.mem_of_getElem? (i := 978) (by decide +kernel)) (by decide +kernel)
theorem m979 : Cond.methodLink RL 52 yX9_number ∈ gw := gw_of (List.mem_of_getElem? (i := 979) (by decide +kernel)) (by decide +kernel)
theorem m980 : Cond.instanceMethod yX9_number ∈ gw := gw_of (List.mem_of_getElem? (i := 980) (by decide +kernel)) (by decide +kernel)
theorem m981 : Cond.selects RX9 yX9_number yX9_number ∈ gw := gw_of (List.mem_of_getElem? (i := 981) (by decide +kernel)) (by decide +kernel)
theorem m982 : Cond.code yX9_number cX9_number 6 (some .int) ∈ gw := gw_of (List.mem_of_getElem? (i := 982) (by decide +kernel)) (by decide +kernel)
theorem m983 : Cond.methodLink RL 56 yX9_folded ∈ gw := gw_of (List.mem_of_getElem? (i := 983) (by decide +kernel)) (by decide +kernel)
theorem m984 : Cond.instanceMethod yX9_folded ∈ gw := gw_of (List.mem_of_getElem? (i := 984) (by decide +kernel)) (by decide +kernel)
theorem m985 : Cond.selects RX9 yX9_folded yX9_folded ∈ gw := gw_of (List.mem_of_getElem? (i := 985) (by decide +kernel)) (by decide +kernel)
theorem m986 : Cond.code yX9_folded cX9_folded 6 (some .int) ∈ gw := gw_of (List.mem_of_getElem? (i := 986) (by decide +kernel)) (by decide +kernel)
theorem m987 : Cond.methodLink RL 60 yX9_of ∈ gw := gw_of (List.mem_of_getElem? (i := 987) (by decide +kernel)) (by decide +kernel)
theorem m988 : Cond.instanceMethod yX9_of ∈ gw := gw_of (List.mem_of_getElem? (i := 988) (by decide +kernel)) (by decide +kernel)
theorem m989 : Cond.selects RX9 yX9_of yX9_of ∈ gw := gw_of (List.mem_of_getElem? (i := 989) (by decide +kernel)) (by decide +kernel)
theorem m990 : Cond.code yX9_of cX9_of 3 (some .int) ∈ gw := gw_of (List.mem_of_getElem? (i := 990) (by decide +kernel)) (by decide +kernel)
theorem m991 : Cond.methodLink RL 64 yX9_line ∈ gw := gw_of (List.mem_of_getElem? (i := 991) (by decide +kernel)) (by decide +kernel)
theorem m992 : Cond.instanceMethod yX9_line ∈ gw := gw_of (List.mem_of_getElem? (i := 992) (by decide +kernel)) (by decide +kernel)
theorem m993 : Cond.selects RX9 yX9_line yX9_line ∈ gw := gw_of (List.mem_of_getElem? (i := 993) (by decide +kernel)) (by decide +kernel)
theorem m994 : Cond.code yX9_line cX9_line 8 (some .int) ∈ gw := gw_of (List.mem_of_getElem? (i := 994) (by decide +kernel)) (by decide +kernel)
theorem m995 : Cond.methodLink RL 68 yX9_all ∈ gw := gw_of (List.mem_of_getElem? (i := 995) (by decide +kernel)) (by decide +kernel)
theorem m996 : Cond.instanceMethod yX9_all ∈ gw := gw_of (List.mem_of_getElem? (i := 996) (by decide +kernel)) (by decide +kernel)
theorem m997 : Cond.selects RX9 yX9_all yX9_all ∈ gw := gw_of (List.mem_of_getElem? (i := 997) (by decide +kernel)) (by decide +kernel)
theorem m998 : Cond.code yX9_all cX9_all 2 (some .int) ∈ gw := gw_of (List.mem_of_getElem? (i := 998) (by decide +kernel)) (by decide +kernel)
theorem m999 : Cond.methodLink RX9 229 yX9_positions ∈ gw := gw_of (List.mem_of_getElem? (i := 999) (by decide +kernel)) (by decide +kernel)
theorem m1001 : Cond.instanceMethod yX9_positions ∈ gw := gw_of (List.mem_of_getElem? (i := 1001) (by decide +kernel)) (by decide +kernel)
theorem m1002 : Cond.code yX9_positions cX9_positions 4 (some .int) ∈ gw := gw_of (List.mem_of_getElem? (i := 1002) (by decide +kernel)) (by decide +kernel)
theorem m1003 : Cond.methodLink RX9 233 yX9_greatest ∈ gw := gw_of (List.mem_of_getElem? (i := 1003) (by decide +kernel)) (by decide +kernel)
theorem m1005 : Cond.instanceMethod yX9_greatest ∈ gw := gw_of (List.mem_of_getElem? (i := 1005) (by decide +kernel)) (by decide +kernel)
theorem m1006 : Cond.code yX9_greatest cX9_greatest 3 (some .int) ∈ gw := gw_of (List.mem_of_getElem? (i := 1006) (by decide +kernel)) (by decide +kernel)
theorem m1007 : Cond.methodLink RX9 236 yX9_lowestWith ∈ gw := gw_of (List.mem_of_getElem? (i := 1007) (by decide +kernel)) (by decide +kernel)
theorem m1009 : Cond.instanceMethod yX9_lowestWith ∈ gw := gw_of (List.mem_of_getElem? (i := 1009) (by decide +kernel)) (by decide +kernel)
theorem m1010 : Cond.code yX9_lowestWith cX9_lowestWith 3 (some .int) ∈ gw := gw_of (List.mem_of_getElem? (i := 1010) (by decide +kernel)) (by decide +kernel)
theorem m1011 : Cond.methodLink RX9 239 yX9_standingWith ∈ gw := gw_of (List.mem_of_getElem? (i := 1011) (by decide +kernel)) (by decide +kernel)
theorem m1013 : Cond.instanceMethod yX9_standingWith ∈ gw := gw_of (List.mem_of_getElem? (i := 1013) (by decide +kernel)) (by decide +kernel)
theorem m1014 : Cond.code yX9_standingWith cX9_standingWith 4 (some .int) ∈ gw := gw_of (List.mem_of_getElem? (i := 1014) (by decide +kernel)) (by decide +kernel)
theorem m1015 : Cond.methodLink RX9 242 yX9_exceptions ∈ gw := gw_of (List.mem_of_getElem? (i := 1015) (by decide +kernel)) (by decide +kernel)
theorem m1017 : Cond.instanceMethod yX9_exceptions ∈ gw := gw_of (List.mem_of_getElem? (i := 1017) (by decide +kernel)) (by decide +kernel)
theorem m1018 : Cond.code yX9_exceptions cX9_exceptions 3 (some .int) ∈ gw := gw_of (List.mem_of_getElem? (i := 1018) (by decide +kernel)) (by decide +kernel)
theorem m1019 : Cond.methodLink RX9 226 yX9_isException ∈ gw := gw_of (List.mem_of_getElem? (i := 1019) (by decide +kernel)) (by decide +kernel)
theorem m1021 : Cond.instanceMethod yX9_isException ∈ gw := gw_of (List.mem_of_getElem? (i := 1021) (by decide +kernel)) (by decide +kernel)
theorem m1022 : Cond.code yX9_isException cX9_isException 2 (some .boolean) ∈ gw := gw_of (List.mem_of_getElem? (i := 1022) (by decide +kernel)) (by decide +kernel)
theorem m1023 : Cond.methodLink RX9 245 yX9_runs ∈ gw := gw_of (List.mem_of_getElem? (i := 1023) (by decide +kernel)) (by decide +kernel)
theorem m1025 : Cond.instanceMethod yX9_runs ∈ gw := gw_of (List.mem_of_getElem? (i := 1025) (by decide +kernel)) (by decide +kernel)
theorem m1026 : Cond.code yX9_runs cX9_runs 6 (some .int) ∈ gw := gw_of (List.mem_of_getElem? (i := 1026) (by decide +kernel)) (by decide +kernel)
theorem m1027 : Cond.methodLink RX9 248 yX9_blocks ∈ gw := gw_of (List.mem_of_getElem? (i := 1027) (by decide +kernel)) (by decide +kernel)
theorem m1029 : Cond.instanceMethod yX9_blocks ∈ gw := gw_of (List.mem_of_getElem? (i := 1029) (by decide +kernel)) (by decide +kernel)
theorem m1030 : Cond.code yX9_blocks cX9_blocks 5 (some .int) ∈ gw := gw_of (List.mem_of_getElem? (i := 1030) (by decide +kernel)) (by decide +kernel)
theorem m1031 : Cond.methodLink RX9 251 yX9_keys ∈ gw := gw_of (List.mem_of_getElem? (i := 1031) (by decide +kernel)) (by decide +kernel)
theorem m1033 : Cond.instanceMethod yX9_keys ∈ gw := gw_of (List.mem_of_getElem? (i := 1033) (by decide +kernel)) (by decide +kernel)
theorem m1034 : Cond.code yX9_keys cX9_keys 3 (some .int) ∈ gw := gw_of (List.mem_of_getElem? (i := 1034) (by decide +kernel)) (by decide +kernel)
theorem m1035 : Cond.methodLink RL 72 yX9_withDistance ∈ gw := gw_of (List.mem_of_getElem? (i := 1035) (by decide +kernel)) (by decide +kernel)
theorem m1036 : Cond.instanceMethod yX9_withDistance ∈ gw := gw_of (List.mem_of_getElem? (i := 1036) (by decide +kernel)) (by decide +kernel)
theorem m1037 : Cond.selects RX9 yX9_withDistance yX9_withDistance ∈ gw := gw_of (List.mem_of_getElem? (i := 1037) (by decide +kernel)) (by decide +kernel)
theorem m1038 : Cond.code yX9_withDistance cX9_withDistance 2 (some .int) ∈ gw := gw_of (List.mem_of_getElem? (i := 1038) (by decide +kernel)) (by decide +kernel)
theorem m1039 : Cond.methodLink RL 76 yX9_rule ∈ gw := gw_of (List.mem_of_getElem? (i := 1039) (by decide +kernel)) (by decide +kernel)
theorem m1040 : Cond.instanceMethod yX9_rule ∈ gw := gw_of (List.mem_of_getElem? (i := 1040) (by decide +kernel)) (by decide +kernel)
theorem m1041 : Cond.selects RX9 yX9_rule yX9_rule ∈ gw := gw_of (List.mem_of_getElem? (i := 1041) (by decide +kernel)) (by decide +kernel)
theorem m1042 : Cond.code yX9_rule cX9_rule 2 (some .int) ∈ gw := gw_of (List.mem_of_getElem? (i := 1042) (by decide +kernel)) (by decide +kernel)
theorem m1043 : Cond.methodLink RL 83 yX9_put ∈ gw := gw_of (List.mem_of_getElem? (i := 1043) (by decide +kernel)) (by decide +kernel)
theorem m1044 : Cond.instanceMethod yX9_put ∈ gw := gw_of (List.mem_of_getElem? (i := 1044) (by decide +kernel)) (by decide +kernel)
theorem m1045 : Cond.selects RX9 yX9_put yX9_put ∈ gw := gw_of (List.mem_of_getElem? (i := 1045) (by decide +kernel)) (by decide +kernel)
theorem m1046 : Cond.code yX9_put cX9_put 7 (some .int) ∈ gw := gw_of (List.mem_of_getElem? (i := 1046) (by decide +kernel)) (by decide +kernel)
theorem m1047 : Cond.constantLong RX9 254 255 ∈ gw := gw_of (List.mem_of_getElem? (i := 1047) (by decide +kernel)) (by decide +kernel)
theorem m1048 : Cond.methodLink RL 87 yX9_wipe ∈ gw := gw_of (List.mem_of_getElem? (i := 1048) (by decide +kernel)) (by decide +kernel)
theorem m1049 : Cond.instanceMethod yX9_wipe ∈ gw := gw_of (List.mem_of_getElem? (i := 1049) (by decide +kernel)) (by decide +kernel)
theorem m1050 : Cond.selects RX9 yX9_wipe yX9_wipe ∈ gw := gw_of (List.mem_of_getElem? (i := 1050) (by decide +kernel)) (by decide +kernel)
theorem m1051 : Cond.code yX9_wipe cX9_wipe 2 (some .int) ∈ gw := gw_of (List.mem_of_getElem? (i := 1051) (by decide +kernel)) (by decide +kernel)
theorem m1052 : Cond.methodLink RL 91 yX9_fault ∈ gw := gw_of (List.mem_of_getElem? (i := 1052) (by decide +kernel)) (by decide +kernel)
theorem m1053 : Cond.instanceMethod yX9_fault ∈ gw := gw_of (List.mem_of_getElem? (i := 1053) (by decide +kernel)) (by decide +kernel)
theorem m1054 : Cond.selects RX9 yX9_fault yX9_fault ∈ gw := gw_of (List.mem_of_getElem? (i := 1054) (by decide +kernel)) (by decide +kernel)
theorem m1055 : Cond.code yX9_fault cX9_fault 2 (some .int) ∈ gw := gw_of (List.mem_of_getElem? (i := 1055) (by decide +kernel)) (by decide +kernel)
theorem m1056 : Cond.methodLink RX9 256 yX9_canStand ∈ gw := gw_of (List.mem_of_getElem? (i := 1056) (by decide +kernel)) (by decide +kernel)
theorem m1057 : Cond.static yX9_canStand ∈ gw := gw_of (List.mem_of_getElem? (i := 1057) (by decide +kernel)) (by decide +kernel)
theorem m1058 : Cond.code yX9_canStand cX9_canStand 2 (some .boolean) ∈ gw := gw_of (List.mem_of_getElem? (i := 1058) (by decide +kernel)) (by decide +kernel)
theorem m1059 : Cond.methodLink RL 40 yX9_readPad ∈ gw := gw_of (List.mem_of_getElem? (i := 1059) (by decide +kernel)) (by decide +kernel)
theorem m1060 : Cond.instanceMethod yX9_readPad ∈ gw := gw_of (List.mem_of_getElem? (i := 1060) (by decide +kernel)) (by decide +kernel)
theorem m1061 : Cond.selects RX9 yX9_readPad yX9_readPad ∈ gw := gw_of (List.mem_of_getElem? (i := 1061) (by decide +kernel)) (by decide +kernel)
theorem m1062 : Cond.code yX9_readPad cX9_readPad 4 (some .int) ∈ gw := gw_of (List.mem_of_getElem? (i := 1062) (by decide +kernel)) (by decide +kernel)
theorem m1063 : Cond.methodLink RX9 259 yX9_fault ∈ gw := gw_of (List.mem_of_getElem? (i := 1063) (by decide +kernel)) (by decide +kernel)
theorem m1064 : Cond.methodLink RX9 262 yX9_placesOf ∈ gw := gw_of (List.mem_of_getElem? (i := 1064) (by decide +kernel)) (by decide +kernel)
theorem m1066 : Cond.instanceMethod yX9_placesOf ∈ gw := gw_of (List.mem_of_getElem? (i := 1066) (by decide +kernel)) (by decide +kernel)
theorem m1067 : Cond.code yX9_placesOf cX9_placesOf 4 (some .int) ∈ gw := gw_of (List.mem_of_getElem? (i := 1067) (by decide +kernel)) (by decide +kernel)
theorem m1068 : Cond.methodLink RX9 265 yX9_lowest ∈ gw := gw_of (List.mem_of_getElem? (i := 1068) (by decide +kernel)) (by decide +kernel)
theorem m1069 : Cond.static yX9_lowest ∈ gw := gw_of (List.mem_of_getElem? (i := 1069) (by decide +kernel)) (by decide +kernel)
theorem m1070 : Cond.code yX9_lowest cX9_lowest 2 (some .int) ∈ gw := gw_of (List.mem_of_getElem? (i := 1070) (by decide +kernel)) (by decide +kernel)
theorem m1071 : Cond.methodLink RL 95 yX9_undo ∈ gw := gw_of (List.mem_of_getElem? (i := 1071) (by decide +kernel)) (by decide +kernel)
theorem m1072 : Cond.instanceMethod yX9_undo ∈ gw := gw_of (List.mem_of_getElem? (i := 1072) (by decide +kernel)) (by decide +kernel)
theorem m1073 : Cond.selects RX9 yX9_undo yX9_undo ∈ gw := gw_of (List.mem_of_getElem? (i := 1073) (by decide +kernel)) (by decide +kernel)
theorem m1074 : Cond.code yX9_undo cX9_undo 3 (some .int) ∈ gw := gw_of (List.mem_of_getElem? (i := 1074) (by decide +kernel)) (by decide +kernel)
theorem m1075 : Cond.methodLink RL 99 yX9_save ∈ gw := gw_of (List.mem_of_getElem? (i := 1075) (by decide +kernel)) (by decide +kernel)
theorem m1076 : Cond.instanceMethod yX9_save ∈ gw := gw_of (List.mem_of_getElem? (i := 1076) (by decide +kernel)) (by decide +kernel)
theorem m1077 : Cond.selects RX9 yX9_save yX9_save ∈ gw := gw_of (List.mem_of_getElem? (i := 1077) (by decide +kernel)) (by decide +kernel)
theorem m1078 : Cond.code yX9_save cX9_save 3 (some .int) ∈ gw := gw_of (List.mem_of_getElem? (i := 1078) (by decide +kernel)) (by decide +kernel)
theorem m1079 : Cond.methodLink RL 103 yX9_restore ∈ gw := gw_of (List.mem_of_getElem? (i := 1079) (by decide +kernel)) (by decide +kernel)
theorem m1080 : Cond.instanceMethod yX9_restore ∈ gw := gw_of (List.mem_of_getElem? (i := 1080) (by decide +kernel)) (by decide +kernel)
theorem m1081 : Cond.selects RX9 yX9_restore yX9_restore ∈ gw := gw_of (List.mem_of_getElem? (i := 1081) (by decide +kernel)) (by decide +kernel)
theorem m1082 : Cond.code yX9_restore cX9_restore 3 (some .int) ∈ gw := gw_of (List.mem_of_getElem? (i := 1082) (by decide +kernel)) (by decide +kernel)
theorem m1083 : Cond.constantLong RL 77 4294967295 ∈ gw := gw_of (List.mem_of_getElem? (i := 1083) (by decide +kernel)) (by decide +kernel)
theorem mp0 : Cond.selects RX3 yX3_fillSteps yX3_fillSteps ∈ gw := gw_sel (List.mem_of_getElem? (i := 0) (by decide +kernel)) (by decide +kernel)
theorem mp1 : Cond.selects RX3 yX3_fillPairs yX3_fillPairs ∈ gw := gw_sel (List.mem_of_getElem? (i := 1) (by decide +kernel)) (by decide +kernel)
theorem mp2 : Cond.selects RX3 yX3_fillImages yX3_fillImages ∈ gw := gw_sel (List.mem_of_getElem? (i := 2) (by decide +kernel)) (by decide +kernel)
theorem mp3 : Cond.selects RX4 yX4_dropOldest yX4_dropOldest ∈ gw := gw_sel (List.mem_of_getElem? (i := 3) (by decide +kernel)) (by decide +kernel)
theorem mp4 : Cond.selects RX8 yX8_errorOf yX8_errorOf ∈ gw := gw_sel (List.mem_of_getElem? (i := 4) (by decide +kernel)) (by decide +kernel)
theorem mp5 : Cond.selects RX8 yX8_distanceNow yX8_distanceNow ∈ gw := gw_sel (List.mem_of_getElem? (i := 5) (by decide +kernel)) (by decide +kernel)
theorem mp6 : Cond.selects RX2 yX2_foxSteps yX2_foxSteps ∈ gw := gw_sel (List.mem_of_getElem? (i := 6) (by decide +kernel)) (by decide +kernel)
theorem mp7 : Cond.selects RX0 yX0_workOut yX0_workOut ∈ gw := gw_sel (List.mem_of_getElem? (i := 7) (by decide +kernel)) (by decide +kernel)
theorem mp8 : Cond.selects RX0 yX0_foxLevel yX0_foxLevel ∈ gw := gw_sel (List.mem_of_getElem? (i := 8) (by decide +kernel)) (by decide +kernel)
theorem mp9 : Cond.selects RX0 yX0_placesForFox yX0_placesForFox ∈ gw := gw_sel (List.mem_of_getElem? (i := 9) (by decide +kernel)) (by decide +kernel)
theorem mp10 : Cond.selects RX0 yX0_keep yX0_keep ∈ gw := gw_sel (List.mem_of_getElem? (i := 10) (by decide +kernel)) (by decide +kernel)
theorem mp11 : Cond.selects RX0 yX0_huntersLevel yX0_huntersLevel ∈ gw := gw_sel (List.mem_of_getElem? (i := 11) (by decide +kernel)) (by decide +kernel)
theorem mp12 : Cond.selects RX0 yX0_reachedBy yX0_reachedBy ∈ gw := gw_sel (List.mem_of_getElem? (i := 12) (by decide +kernel)) (by decide +kernel)
theorem mp13 : Cond.selects RX8 yX8_numberNow yX8_numberNow ∈ gw := gw_sel (List.mem_of_getElem? (i := 13) (by decide +kernel)) (by decide +kernel)
theorem mp14 : Cond.selects RX2 yX2_hunterSteps yX2_hunterSteps ∈ gw := gw_sel (List.mem_of_getElem? (i := 14) (by decide +kernel)) (by decide +kernel)
theorem mp15 : Cond.selects RX8 yX8_makeMove yX8_makeMove ∈ gw := gw_sel (List.mem_of_getElem? (i := 15) (by decide +kernel)) (by decide +kernel)
theorem mp16 : Cond.selects RX2 yX2_bestOfFox yX2_bestOfFox ∈ gw := gw_sel (List.mem_of_getElem? (i := 16) (by decide +kernel)) (by decide +kernel)
theorem mp17 : Cond.selects RX2 yX2_lengthOf yX2_lengthOf ∈ gw := gw_sel (List.mem_of_getElem? (i := 17) (by decide +kernel)) (by decide +kernel)
theorem mp18 : Cond.selects RX2 yX2_bestOfHunters yX2_bestOfHunters ∈ gw := gw_sel (List.mem_of_getElem? (i := 18) (by decide +kernel)) (by decide +kernel)
theorem mp19 : Cond.selects RX2 yX2_worthOf yX2_worthOf ∈ gw := gw_sel (List.mem_of_getElem? (i := 19) (by decide +kernel)) (by decide +kernel)
theorem mp20 : Cond.selects RX8 yX8_foldedNumber yX8_foldedNumber ∈ gw := gw_sel (List.mem_of_getElem? (i := 20) (by decide +kernel)) (by decide +kernel)
theorem mp21 : Cond.selects RX1 yX1_imageOf yX1_imageOf ∈ gw := gw_sel (List.mem_of_getElem? (i := 21) (by decide +kernel)) (by decide +kernel)
theorem mp22 : Cond.selects RX1 yX1_imageOfNumber yX1_imageOfNumber ∈ gw := gw_sel (List.mem_of_getElem? (i := 22) (by decide +kernel)) (by decide +kernel)
theorem mp23 : Cond.selects RX7 yX7_goThrough yX7_goThrough ∈ gw := gw_sel (List.mem_of_getElem? (i := 23) (by decide +kernel)) (by decide +kernel)
theorem mp24 : Cond.selects RX7 yX7_collect yX7_collect ∈ gw := gw_sel (List.mem_of_getElem? (i := 24) (by decide +kernel)) (by decide +kernel)
theorem mp25 : Cond.selects RX7 yX7_makeRule yX7_makeRule ∈ gw := gw_sel (List.mem_of_getElem? (i := 25) (by decide +kernel)) (by decide +kernel)
theorem mp26 : Cond.selects RX7 yX7_commonest yX7_commonest ∈ gw := gw_sel (List.mem_of_getElem? (i := 26) (by decide +kernel)) (by decide +kernel)
theorem mp27 : Cond.selects RX7 yX7_countExceptions yX7_countExceptions ∈ gw := gw_sel (List.mem_of_getElem? (i := 27) (by decide +kernel)) (by decide +kernel)
theorem mp28 : Cond.selects RX7 yX7_countException yX7_countException ∈ gw := gw_sel (List.mem_of_getElem? (i := 28) (by decide +kernel)) (by decide +kernel)
theorem mp29 : Cond.selects RX9 yX9_keep yX9_keep ∈ gw := gw_sel (List.mem_of_getElem? (i := 29) (by decide +kernel)) (by decide +kernel)
theorem mp30 : Cond.selects RX9 yX9_isFree yX9_isFree ∈ gw := gw_sel (List.mem_of_getElem? (i := 30) (by decide +kernel)) (by decide +kernel)
theorem mp31 : Cond.selects RX9 yX9_whyNot yX9_whyNot ∈ gw := gw_sel (List.mem_of_getElem? (i := 31) (by decide +kernel)) (by decide +kernel)
theorem mp32 : Cond.selects RX9 yX9_lay yX9_lay ∈ gw := gw_sel (List.mem_of_getElem? (i := 32) (by decide +kernel)) (by decide +kernel)
theorem mp33 : Cond.selects RX9 yX9_distanceNow yX9_distanceNow ∈ gw := gw_sel (List.mem_of_getElem? (i := 33) (by decide +kernel)) (by decide +kernel)
theorem mp34 : Cond.selects RX9 yX9_isCaught yX9_isCaught ∈ gw := gw_sel (List.mem_of_getElem? (i := 34) (by decide +kernel)) (by decide +kernel)
theorem mp35 : Cond.selects RX9 yX9_work yX9_work ∈ gw := gw_sel (List.mem_of_getElem? (i := 35) (by decide +kernel)) (by decide +kernel)
theorem mp36 : Cond.selects RX9 yX9_isAsWorked yX9_isAsWorked ∈ gw := gw_sel (List.mem_of_getElem? (i := 36) (by decide +kernel)) (by decide +kernel)
theorem mp37 : Cond.selects RX9 yX9_workOutAll yX9_workOutAll ∈ gw := gw_sel (List.mem_of_getElem? (i := 37) (by decide +kernel)) (by decide +kernel)
theorem mp38 : Cond.selects RX9 yX9_workOut yX9_workOut ∈ gw := gw_sel (List.mem_of_getElem? (i := 38) (by decide +kernel)) (by decide +kernel)
theorem mp39 : Cond.selects RX9 yX9_isPosition yX9_isPosition ∈ gw := gw_sel (List.mem_of_getElem? (i := 39) (by decide +kernel)) (by decide +kernel)
theorem mp40 : Cond.selects RX9 yX9_ofHunters yX9_ofHunters ∈ gw := gw_sel (List.mem_of_getElem? (i := 40) (by decide +kernel)) (by decide +kernel)
theorem mp41 : Cond.selects RX9 yX9_canCatch yX9_canCatch ∈ gw := gw_sel (List.mem_of_getElem? (i := 41) (by decide +kernel)) (by decide +kernel)
theorem mp42 : Cond.selects RX9 yX9_ofHunter yX9_ofHunter ∈ gw := gw_sel (List.mem_of_getElem? (i := 42) (by decide +kernel)) (by decide +kernel)
theorem mp43 : Cond.selects RX9 yX9_ofFox yX9_ofFox ∈ gw := gw_sel (List.mem_of_getElem? (i := 43) (by decide +kernel)) (by decide +kernel)
theorem mp44 : Cond.selects RX9 yX9_findSymmetries yX9_findSymmetries ∈ gw := gw_sel (List.mem_of_getElem? (i := 44) (by decide +kernel)) (by decide +kernel)
theorem mp45 : Cond.selects RX9 yX9_fold yX9_fold ∈ gw := gw_sel (List.mem_of_getElem? (i := 45) (by decide +kernel)) (by decide +kernel)
theorem mp46 : Cond.selects RX9 yX9_foldOne yX9_foldOne ∈ gw := gw_sel (List.mem_of_getElem? (i := 46) (by decide +kernel)) (by decide +kernel)
theorem mp47 : Cond.selects RX9 yX9_madeBy yX9_madeBy ∈ gw := gw_sel (List.mem_of_getElem? (i := 47) (by decide +kernel)) (by decide +kernel)
theorem mp48 : Cond.selects RX9 yX9_ruleOf yX9_ruleOf ∈ gw := gw_sel (List.mem_of_getElem? (i := 48) (by decide +kernel)) (by decide +kernel)
theorem mp49 : Cond.selects RX9 yX9_key yX9_key ∈ gw := gw_sel (List.mem_of_getElem? (i := 49) (by decide +kernel)) (by decide +kernel)
theorem mp50 : Cond.selects RX9 yX9_isHit yX9_isHit ∈ gw := gw_sel (List.mem_of_getElem? (i := 50) (by decide +kernel)) (by decide +kernel)
theorem mp51 : Cond.selects RX9 yX9_numberNow yX9_numberNow ∈ gw := gw_sel (List.mem_of_getElem? (i := 51) (by decide +kernel)) (by decide +kernel)
theorem mp52 : Cond.selects RX9 yX9_isMove yX9_isMove ∈ gw := gw_sel (List.mem_of_getElem? (i := 52) (by decide +kernel)) (by decide +kernel)
theorem mp53 : Cond.selects RX9 yX9_isHunterMove yX9_isHunterMove ∈ gw := gw_sel (List.mem_of_getElem? (i := 53) (by decide +kernel)) (by decide +kernel)
theorem mp54 : Cond.selects RX9 yX9_isFoxMove yX9_isFoxMove ∈ gw := gw_sel (List.mem_of_getElem? (i := 54) (by decide +kernel)) (by decide +kernel)
theorem mp55 : Cond.selects RX9 yX9_make yX9_make ∈ gw := gw_sel (List.mem_of_getElem? (i := 55) (by decide +kernel)) (by decide +kernel)
theorem mp56 : Cond.selects RX9 yX9_findBest yX9_findBest ∈ gw := gw_sel (List.mem_of_getElem? (i := 56) (by decide +kernel)) (by decide +kernel)
theorem mp57 : Cond.selects RX9 yX9_worth yX9_worth ∈ gw := gw_sel (List.mem_of_getElem? (i := 57) (by decide +kernel)) (by decide +kernel)
theorem mp58 : Cond.selects RX9 yX9_best yX9_best ∈ gw := gw_sel (List.mem_of_getElem? (i := 58) (by decide +kernel)) (by decide +kernel)
theorem mp59 : Cond.selects RX9 yX9_standsNow yX9_standsNow ∈ gw := gw_sel (List.mem_of_getElem? (i := 59) (by decide +kernel)) (by decide +kernel)
theorem mp60 : Cond.selects RX9 yX9_positions yX9_positions ∈ gw := gw_sel (List.mem_of_getElem? (i := 60) (by decide +kernel)) (by decide +kernel)
theorem mp61 : Cond.selects RX9 yX9_greatest yX9_greatest ∈ gw := gw_sel (List.mem_of_getElem? (i := 61) (by decide +kernel)) (by decide +kernel)
theorem mp62 : Cond.selects RX9 yX9_lowestWith yX9_lowestWith ∈ gw := gw_sel (List.mem_of_getElem? (i := 62) (by decide +kernel)) (by decide +kernel)
theorem mp63 : Cond.selects RX9 yX9_standingWith yX9_standingWith ∈ gw := gw_sel (List.mem_of_getElem? (i := 63) (by decide +kernel)) (by decide +kernel)
theorem mp64 : Cond.selects RX9 yX9_exceptions yX9_exceptions ∈ gw := gw_sel (List.mem_of_getElem? (i := 64) (by decide +kernel)) (by decide +kernel)
theorem mp65 : Cond.selects RX9 yX9_isException yX9_isException ∈ gw := gw_sel (List.mem_of_getElem? (i := 65) (by decide +kernel)) (by decide +kernel)
theorem mp66 : Cond.selects RX9 yX9_runs yX9_runs ∈ gw := gw_sel (List.mem_of_getElem? (i := 66) (by decide +kernel)) (by decide +kernel)
theorem mp67 : Cond.selects RX9 yX9_blocks yX9_blocks ∈ gw := gw_sel (List.mem_of_getElem? (i := 67) (by decide +kernel)) (by decide +kernel)
theorem mp68 : Cond.selects RX9 yX9_keys yX9_keys ∈ gw := gw_sel (List.mem_of_getElem? (i := 68) (by decide +kernel)) (by decide +kernel)
theorem mp69 : Cond.selects RX9 yX9_placesOf yX9_placesOf ∈ gw := gw_sel (List.mem_of_getElem? (i := 69) (by decide +kernel)) (by decide +kernel)
theorem kX0 : xKl RX0 TX0 9 0 tyX0 := ⟨by decide +kernel, rfl, tyX0_ok, nmX0⟩
theorem kX1 : xKl RX1 TX1 4 1 tyX1 := ⟨by decide +kernel, rfl, tyX1_ok, nmX1⟩
theorem kX2 : xKl RX2 TX2 2 2 tyX2 := ⟨by decide +kernel, rfl, tyX2_ok, nmX2⟩
theorem kX3 : xKl RX3 TX3 7 3 tyX3 := ⟨by decide +kernel, rfl, tyX3_ok, nmX3⟩
theorem kX4 : xKl RX4 TX4 2 4 tyX4 := ⟨by decide +kernel, rfl, tyX4_ok, nmX4⟩
theorem kX5 : xKl RX5 TX5 2 5 tyX5 := ⟨by decide +kernel, rfl, tyX5_ok, nmX5⟩
theorem kX6 : xKl RX6 TX6 6 6 tyX6 := ⟨by decide +kernel, rfl, tyX6_ok, nmX6⟩
theorem kX7 : xKl RX7 TX7 8 7 tyX7 := ⟨by decide +kernel, rfl, tyX7_ok, nmX7⟩
theorem kX8 : xKl RX8 TX8 11 8 tyX8 := ⟨by decide +kernel, rfl, tyX8_ok, nmX8⟩
theorem kX9 : xKl RX9 TX9 21 9 tyX9 := ⟨by decide +kernel, rfl, tyX9_ok, nmX9⟩
theorem g_L_9 : xCI RL 9 yX8_init cX8_init 2 0 := ⟨m16, m17, m1, m18, rfl, by decide +kernel, by decide +kernel, by decide +kernel⟩
theorem g_X8_9 : xCI RX8 9 yX3_init cX3_init 1 0 := ⟨m24, m25, m2, m26, rfl, by decide +kernel, by decide +kernel, by decide +kernel⟩
theorem g_X3_31 : xCV RX3 31 yX3_fillSteps cX3_fillSteps 4 none 0 := ⟨m28, m30, mp0, m2, m31, by decide +kernel, by decide +kernel, by decide +kernel⟩
theorem g_X3_40 : xCS RX3 40 yX3_far cX3_far 2 (some .int) 2 := ⟨m32, m33, m2, m34, by decide +kernel, by decide +kernel, by decide +kernel⟩
theorem g_X3_44 : xCS RX3 44 yJ9_abs_0f7a4 cJ9_abs_0f7a4 1 (some .int) 1 := ⟨m35, m36, m3, m37, by decide +kernel, by decide +kernel, by decide +kernel⟩
theorem g_X3_34 : xCV RX3 34 yX3_fillPairs cX3_fillPairs 4 none 0 := ⟨m38, m40, mp1, m2, m41, by decide +kernel, by decide +kernel, by decide +kernel⟩
theorem g_X3_37 : xCV RX3 37 yX3_fillImages cX3_fillImages 5 none 0 := ⟨m42, m44, mp2, m2, m45, by decide +kernel, by decide +kernel, by decide +kernel⟩
theorem f_X3_9 : xFl RX3 9 TX3 7 0 := ⟨m46, by decide⟩
theorem f_X3_13 : xFl RX3 13 TX3 7 1 := ⟨m47, by decide⟩
theorem f_X3_16 : xFl RX3 16 TX3 7 2 := ⟨m48, by decide⟩
theorem f_X3_19 : xFl RX3 19 TX3 7 3 := ⟨m49, by decide⟩
theorem f_X3_22 : xFl RX3 22 TX3 7 4 := ⟨m50, by decide⟩
theorem f_X3_25 : xFl RX3 25 TX3 7 5 := ⟨m51, by decide⟩
theorem f_X3_28 : xFl RX3 28 TX3 7 6 := ⟨m52, by decide⟩
theorem g_X8_18 : xCI RX8 18 yX0_init cX0_init 2 1 := ⟨m71, m72, m4, m73, rfl, by decide +kernel, by decide +kernel, by decide +kernel⟩
theorem f_X0_9 : xFl RX0 9 TX0 9 0 := ⟨m75, by decide⟩
theorem f_X0_17 : xFl RX0 17 TX0 9 1 := ⟨m76, by decide⟩
theorem f_X0_21 : xFl RX0 21 TX0 9 2 := ⟨m77, by decide⟩
theorem f_X0_24 : xFl RX0 24 TX0 9 3 := ⟨m78, by decide⟩
theorem f_X0_27 : xFl RX0 27 TX0 9 4 := ⟨m79, by decide⟩
theorem f_X0_44 : xFl RX0 44 TX0 9 5 := ⟨m80, by decide⟩
theorem f_X0_51 : xFl RX0 51 TX0 9 6 := ⟨m81, by decide⟩
theorem f_X0_55 : xFl RX0 55 TX0 9 7 := ⟨m82, by decide⟩
theorem f_X0_58 : xFl RX0 58 TX0 9 8 := ⟨m83, by decide⟩
theorem g_X8_27 : xCI RX8 27 yX1_init cX1_init 2 1 := ⟨m105, m106, m5, m107, rfl, by decide +kernel, by decide +kernel, by decide +kernel⟩
theorem f_X1_7 : xFl RX1 7 TX1 4 0 := ⟨m109, by decide⟩
theorem f_X1_15 : xFl RX1 15 TX1 4 1 := ⟨m110, by decide⟩
theorem f_X1_23 : xFl RX1 23 TX1 4 2 := ⟨m111, by decide⟩
theorem f_X1_19 : xFl RX1 19 TX1 4 3 := ⟨m112, by decide⟩
theorem g_X8_34 : xCI RX8 34 yX7_init cX7_init 4 3 := ⟨m124, m125, m6, m126, rfl, by decide +kernel, by decide +kernel, by decide +kernel⟩
theorem f_X7_11 : xFl RX7 11 TX7 8 0 := ⟨m128, by decide⟩
theorem f_X7_15 : xFl RX7 15 TX7 8 1 := ⟨m129, by decide⟩
theorem f_X7_19 : xFl RX7 19 TX7 8 2 := ⟨m130, by decide⟩
theorem f_X7_23 : xFl RX7 23 TX7 8 3 := ⟨m131, by decide⟩
theorem f_X7_29 : xFl RX7 29 TX7 8 4 := ⟨m132, by decide⟩
theorem f_X7_32 : xFl RX7 32 TX7 8 5 := ⟨m133, by decide⟩
theorem f_X7_35 : xFl RX7 35 TX7 8 6 := ⟨m134, by decide⟩
theorem f_X7_38 : xFl RX7 38 TX7 8 7 := ⟨m135, by decide⟩
theorem g_X8_43 : xCI RX8 43 yX2_init cX2_init 3 2 := ⟨m155, m156, m7, m157, rfl, by decide +kernel, by decide +kernel, by decide +kernel⟩
theorem f_X2_9 : xFl RX2 9 TX2 2 0 := ⟨m159, by decide⟩
theorem f_X2_15 : xFl RX2 15 TX2 2 1 := ⟨m160, by decide⟩
theorem g_nest_X6_init : xCN yX6_init cX6_init 1 0 := ⟨m169, m8, m170, rfl, by decide +kernel, by decide +kernel, by decide +kernel⟩
theorem f_X0_31 : xFl RX0 31 TX6 6 0 := ⟨m172, by decide⟩
theorem f_X6_7 : xFl RX6 7 TX6 6 0 := ⟨m173, by decide⟩
theorem f_X0_36 : xFl RX0 36 TX6 6 1 := ⟨m174, by decide⟩
theorem f_X6_13 : xFl RX6 13 TX6 6 1 := ⟨m175, by decide⟩
theorem f_X8_102 : xFl RX8 102 TX6 6 1 := ⟨m176, by decide⟩
theorem f_X2_46 : xFl RX2 46 TX6 6 1 := ⟨m177, by decide⟩
theorem f_X7_56 : xFl RX7 56 TX6 6 1 := ⟨m178, by decide⟩
theorem f_X6_16 : xFl RX6 16 TX6 6 2 := ⟨m179, by decide⟩
theorem f_X2_27 : xFl RX2 27 TX6 6 2 := ⟨m180, by decide⟩
theorem f_X8_160 : xFl RX8 160 TX6 6 2 := ⟨m181, by decide⟩
theorem f_X6_19 : xFl RX6 19 TX6 6 3 := ⟨m182, by decide⟩
theorem f_X2_35 : xFl RX2 35 TX6 6 3 := ⟨m183, by decide⟩
theorem f_X8_163 : xFl RX8 163 TX6 6 3 := ⟨m184, by decide⟩
theorem f_X6_22 : xFl RX6 22 TX6 6 4 := ⟨m185, by decide⟩
theorem f_X2_57 : xFl RX2 57 TX6 6 4 := ⟨m186, by decide⟩
theorem f_X8_166 : xFl RX8 166 TX6 6 4 := ⟨m187, by decide⟩
theorem f_X6_25 : xFl RX6 25 TX6 6 5 := ⟨m188, by decide⟩
theorem f_X2_60 : xFl RX2 60 TX6 6 5 := ⟨m189, by decide⟩
theorem f_X8_169 : xFl RX8 169 TX6 6 5 := ⟨m190, by decide⟩
theorem g_X8_62 : xCI RX8 62 yX4_init cX4_init 2 0 := ⟨m206, m207, m9, m208, rfl, by decide +kernel, by decide +kernel, by decide +kernel⟩
theorem f_X4_11 : xFl RX4 11 TX4 2 0 := ⟨m213, by decide⟩
theorem f_X4_16 : xFl RX4 16 TX4 2 1 := ⟨m214, by decide⟩
theorem g_X8_69 : xCI RX8 69 yX5_init cX5_init 1 0 := ⟨m222, m223, m10, m224, rfl, by decide +kernel, by decide +kernel, by decide +kernel⟩
theorem f_X5_11 : xFl RX5 11 TX5 2 0 := ⟨m226, by decide⟩
theorem f_X5_15 : xFl RX5 15 TX5 2 1 := ⟨m227, by decide⟩
theorem g_X8_82 : xCV RX8 82 yX6_place cX6_place 5 none 4 := ⟨m234, m235, m236, m8, m237, by decide +kernel, by decide +kernel, by decide +kernel⟩
theorem g_X6_28 : xCS RX6 28 yJ9_min_7cf53 cJ9_min_7cf53 2 (some .int) 2 := ⟨m238, m239, m3, m240, by decide +kernel, by decide +kernel, by decide +kernel⟩
theorem g_X6_34 : xCS RX6 34 yJ9_max_7cf53 cJ9_max_7cf53 2 (some .int) 2 := ⟨m241, m242, m3, m243, by decide +kernel, by decide +kernel, by decide +kernel⟩
theorem f_X8_10 : xFl RX8 10 TX8 11 0 := ⟨m244, by decide⟩
theorem f_X8_21 : xFl RX8 21 TX8 11 1 := ⟨m245, by decide⟩
theorem f_X8_28 : xFl RX8 28 TX8 11 2 := ⟨m246, by decide⟩
theorem f_X8_37 : xFl RX8 37 TX8 11 3 := ⟨m247, by decide⟩
theorem f_X8_46 : xFl RX8 46 TX8 11 4 := ⟨m248, by decide⟩
theorem f_X8_53 : xFl RX8 53 TX8 11 5 := ⟨m249, by decide⟩
theorem f_X8_57 : xFl RX8 57 TX8 11 6 := ⟨m250, by decide⟩
theorem f_X8_63 : xFl RX8 63 TX8 11 7 := ⟨m251, by decide⟩
theorem f_X8_70 : xFl RX8 70 TX8 11 8 := ⟨m252, by decide⟩
theorem f_X8_74 : xFl RX8 74 TX8 11 9 := ⟨m253, by decide⟩
theorem f_X8_78 : xFl RX8 78 TX8 11 10 := ⟨m254, by decide⟩
theorem g_L_13 : xCV RL 13 yX8_set cX8_set 4 (some .int) 2 := ⟨m279, m280, m281, m1, m282, by decide +kernel, by decide +kernel, by decide +kernel⟩
theorem g_X8_86 : xCV RX8 86 yX4_record cX4_record 2 none 1 := ⟨m283, m284, m285, m9, m286, by decide +kernel, by decide +kernel, by decide +kernel⟩
theorem g_X4_20 : xCV RX4 20 yX4_dropOldest cX4_dropOldest 3 none 0 := ⟨m287, m289, mp3, m9, m290, by decide +kernel, by decide +kernel, by decide +kernel⟩
theorem g_X4_23 : xCV RX4 23 yX6_take cX6_take 2 none 1 := ⟨m291, m292, m293, m8, m294, by decide +kernel, by decide +kernel, by decide +kernel⟩
theorem g_X8_90 : xCV RX8 90 yX6_setting cX6_setting 2 (some .int) 1 := ⟨m295, m296, m297, m8, m298, by decide +kernel, by decide +kernel, by decide +kernel⟩
theorem g_X8_94 : xCV RX8 94 yX6_change cX6_change 3 none 2 := ⟨m299, m300, m301, m8, m302, by decide +kernel, by decide +kernel, by decide +kernel⟩
theorem g_L_18 : xCV RL 18 yX8_block cX8_block 4 (some .int) 1 := ⟨m303, m304, m305, m1, m306, by decide +kernel, by decide +kernel, by decide +kernel⟩
theorem g_X8_98 : xCS RX8 98 yX3_isPlace cX3_isPlace 1 (some .boolean) 1 := ⟨m307, m308, m2, m309, by decide +kernel, by decide +kernel, by decide +kernel⟩
theorem g_X8_106 : xCS RX8 106 yJ6_bitCount_0f7a4 cJ6_bitCount_0f7a4 1 (some .int) 1 := ⟨m310, m311, m12, m312, by decide +kernel, by decide +kernel, by decide +kernel⟩
theorem g_X8_111 : xCV RX8 111 yX6_taken cX6_taken 1 (some .int) 0 := ⟨m316, m317, m318, m8, m319, by decide +kernel, by decide +kernel, by decide +kernel⟩
theorem g_X6_37 : xCV RX6 37 yX6_hunters cX6_hunters 1 (some .int) 0 := ⟨m320, m321, m322, m8, m323, by decide +kernel, by decide +kernel, by decide +kernel⟩
theorem g_L_23 : xCV RL 23 yX8_setUp cX8_setUp 6 (some .int) 4 := ⟨m324, m325, m326, m1, m327, by decide +kernel, by decide +kernel, by decide +kernel⟩
theorem g_X8_115 : xCV RX8 115 yX8_errorOf cX8_errorOf 8 (some .int) 4 := ⟨m328, m330, mp4, m1, m331, by decide +kernel, by decide +kernel, by decide +kernel⟩
theorem g_X8_119 : xCV RX8 119 yX8_distanceNow cX8_distanceNow 1 (some .int) 0 := ⟨m332, m334, mp5, m1, m335, by decide +kernel, by decide +kernel, by decide +kernel⟩
theorem g_X8_172 : xCV RX8 172 yX2_caught cX2_caught 2 (some .boolean) 1 := ⟨m336, m337, m338, m7, m339, by decide +kernel, by decide +kernel, by decide +kernel⟩
theorem g_X2_21 : xCV RX2 21 yX6_hunterOnFox cX6_hunterOnFox 1 (some .boolean) 0 := ⟨m340, m341, m342, m8, m343, by decide +kernel, by decide +kernel, by decide +kernel⟩
theorem g_X2_31 : xCV RX2 31 yX2_foxSteps cX2_foxSteps 2 (some .int) 1 := ⟨m344, m346, mp6, m7, m347, by decide +kernel, by decide +kernel, by decide +kernel⟩
theorem g_X2_38 : xCV RX2 38 yX6_setting cX6_setting 2 (some .int) 1 := ⟨m348, m296, m297, m8, m298, by decide +kernel, by decide +kernel, by decide +kernel⟩
theorem g_X2_42 : xCV RX2 42 yX3_stepsFrom cX3_stepsFrom 4 (some .int) 2 := ⟨m349, m350, m351, m2, m352, by decide +kernel, by decide +kernel, by decide +kernel⟩
theorem g_X2_49 : xCV RX2 49 yX6_hunters cX6_hunters 1 (some .int) 0 := ⟨m353, m321, m322, m8, m323, by decide +kernel, by decide +kernel, by decide +kernel⟩
theorem g_X8_189 : xCV RX8 189 yX0_prepare cX0_prepare 2 none 1 := ⟨m354, m355, m356, m4, m357, by decide +kernel, by decide +kernel, by decide +kernel⟩
theorem g_X0_39 : xCS RX0 39 yX0_signOf cX0_signOf 1 (some .int) 1 := ⟨m358, m359, m4, m360, by decide +kernel, by decide +kernel, by decide +kernel⟩
theorem g_X0_47 : xCV RX0 47 yX6_setting cX6_setting 2 (some .int) 1 := ⟨m362, m296, m297, m8, m298, by decide +kernel, by decide +kernel, by decide +kernel⟩
theorem g_X0_61 : xCV RX0 61 yX0_workOut cX0_workOut 5 none 0 := ⟨m363, m365, mp7, m4, m366, by decide +kernel, by decide +kernel, by decide +kernel⟩
theorem g_X0_64 : xCS RX0 64 yJ7_fill_53178 cJ7_fill_53178 4 none 2 := ⟨m367, m368, m13, m369, by decide +kernel, by decide +kernel, by decide +kernel⟩
theorem g_X0_70 : xCV RX0 70 yX0_foxLevel cX0_foxLevel 7 (some .int) 2 := ⟨m370, m372, mp8, m4, m373, by decide +kernel, by decide +kernel, by decide +kernel⟩
theorem g_X0_80 : xCV RX0 80 yX0_placesForFox cX0_placesForFox 3 (some .int) 1 := ⟨m374, m376, mp9, m4, m377, by decide +kernel, by decide +kernel, by decide +kernel⟩
theorem g_X0_77 : xCV RX0 77 yX3_placesOf cX3_placesOf 2 (some .int) 1 := ⟨m378, m379, m380, m2, m381, by decide +kernel, by decide +kernel, by decide +kernel⟩
theorem g_X0_83 : xCV RX0 83 yX3_stepsFrom cX3_stepsFrom 4 (some .int) 2 := ⟨m382, m350, m351, m2, m352, by decide +kernel, by decide +kernel, by decide +kernel⟩
theorem g_X0_87 : xCV RX0 87 yX0_keep cX0_keep 6 none 4 := ⟨m383, m385, mp10, m4, m386, by decide +kernel, by decide +kernel, by decide +kernel⟩
theorem g_X0_74 : xCV RX0 74 yX0_huntersLevel cX0_huntersLevel 8 (some .int) 2 := ⟨m387, m389, mp11, m4, m390, by decide +kernel, by decide +kernel, by decide +kernel⟩
theorem g_X0_91 : xCV RX0 91 yX3_lowerOf cX3_lowerOf 2 (some .int) 1 := ⟨m391, m392, m393, m2, m394, by decide +kernel, by decide +kernel, by decide +kernel⟩
theorem g_X0_94 : xCV RX0 94 yX3_higherOf cX3_higherOf 2 (some .int) 1 := ⟨m395, m396, m397, m2, m398, by decide +kernel, by decide +kernel, by decide +kernel⟩
theorem g_X0_97 : xCV RX0 97 yX0_reachedBy cX0_reachedBy 6 (some .int) 2 := ⟨m399, m401, mp12, m4, m402, by decide +kernel, by decide +kernel, by decide +kernel⟩
theorem g_X0_100 : xCV RX0 100 yX3_pairOf cX3_pairOf 3 (some .int) 2 := ⟨m403, m404, m405, m2, m406, by decide +kernel, by decide +kernel, by decide +kernel⟩
theorem g_X8_179 : xCV RX8 179 yX8_numberNow cX8_numberNow 2 (some .int) 1 := ⟨m407, m409, mp13, m1, m410, by decide +kernel, by decide +kernel, by decide +kernel⟩
theorem g_X8_192 : xCV RX8 192 yX3_numberOf cX3_numberOf 5 (some .int) 4 := ⟨m411, m412, m413, m2, m414, by decide +kernel, by decide +kernel, by decide +kernel⟩
theorem g_X3_50 : xCV RX3 50 yX3_pairOf cX3_pairOf 3 (some .int) 2 := ⟨m415, m404, m405, m2, m406, by decide +kernel, by decide +kernel, by decide +kernel⟩
theorem g_X8_195 : xCV RX8 195 yX0_at cX0_at 2 (some .int) 1 := ⟨m416, m417, m418, m4, m419, by decide +kernel, by decide +kernel, by decide +kernel⟩
theorem g_L_28 : xCV RL 28 yX8_move cX8_move 3 (some .int) 2 := ⟨m420, m421, m422, m1, m423, by decide +kernel, by decide +kernel, by decide +kernel⟩
theorem g_X8_122 : xCV RX8 122 yX2_allows cX2_allows 4 (some .boolean) 3 := ⟨m424, m425, m426, m7, m427, by decide +kernel, by decide +kernel, by decide +kernel⟩
theorem g_X2_53 : xCV RX2 53 yX2_caught cX2_caught 2 (some .boolean) 1 := ⟨m428, m337, m338, m7, m339, by decide +kernel, by decide +kernel, by decide +kernel⟩
theorem g_X2_63 : xCV RX2 63 yX2_hunterSteps cX2_hunterSteps 3 (some .int) 2 := ⟨m429, m431, mp14, m7, m432, by decide +kernel, by decide +kernel, by decide +kernel⟩
theorem g_X8_126 : xCV RX8 126 yX8_makeMove cX8_makeMove 3 (some .int) 2 := ⟨m433, m435, mp15, m1, m436, by decide +kernel, by decide +kernel, by decide +kernel⟩
theorem g_X8_233 : xCV RX8 233 yX2_make cX2_make 5 none 3 := ⟨m437, m438, m439, m7, m440, by decide +kernel, by decide +kernel, by decide +kernel⟩
theorem g_X2_67 : xCV RX2 67 yX6_place cX6_place 5 none 4 := ⟨m441, m235, m236, m8, m237, by decide +kernel, by decide +kernel, by decide +kernel⟩
theorem g_L_32 : xCV RL 32 yX8_play cX8_play 2 (some .int) 0 := ⟨m442, m443, m444, m1, m445, by decide +kernel, by decide +kernel, by decide +kernel⟩
theorem g_X8_130 : xCV RX8 130 yX2_bestMove cX2_bestMove 2 (some .int) 1 := ⟨m446, m447, m448, m7, m449, by decide +kernel, by decide +kernel, by decide +kernel⟩
theorem g_X2_71 : xCV RX2 71 yX0_prepare cX0_prepare 2 none 1 := ⟨m450, m355, m356, m4, m357, by decide +kernel, by decide +kernel, by decide +kernel⟩
theorem g_X2_77 : xCV RX2 77 yX2_bestOfFox cX2_bestOfFox 7 (some .int) 1 := ⟨m451, m453, mp16, m7, m454, by decide +kernel, by decide +kernel, by decide +kernel⟩
theorem g_X2_83 : xCV RX2 83 yX2_lengthOf cX2_lengthOf 6 (some .int) 4 := ⟨m455, m457, mp17, m7, m458, by decide +kernel, by decide +kernel, by decide +kernel⟩
theorem g_X2_92 : xCV RX2 92 yX3_numberOf cX3_numberOf 5 (some .int) 4 := ⟨m459, m412, m413, m2, m414, by decide +kernel, by decide +kernel, by decide +kernel⟩
theorem g_X2_95 : xCV RX2 95 yX0_at cX0_at 2 (some .int) 1 := ⟨m460, m417, m418, m4, m419, by decide +kernel, by decide +kernel, by decide +kernel⟩
theorem g_X2_80 : xCV RX2 80 yX2_bestOfHunters cX2_bestOfHunters 8 (some .int) 1 := ⟨m462, m464, mp18, m7, m465, by decide +kernel, by decide +kernel, by decide +kernel⟩
theorem g_X2_88 : xCV RX2 88 yX2_worthOf cX2_worthOf 5 (some .int) 3 := ⟨m467, m469, mp19, m7, m470, by decide +kernel, by decide +kernel, by decide +kernel⟩
theorem g_X8_134 : xCS RX8 134 yX2_fromOf cX2_fromOf 1 (some .int) 1 := ⟨m471, m472, m7, m473, by decide +kernel, by decide +kernel, by decide +kernel⟩
theorem g_X8_137 : xCS RX8 137 yX2_toOf cX2_toOf 1 (some .int) 1 := ⟨m474, m475, m7, m476, by decide +kernel, by decide +kernel, by decide +kernel⟩
theorem g_L_37 : xCV RL 37 yX8_readPad cX8_readPad 4 (some .int) 0 := ⟨m477, m478, m479, m1, m480, by decide +kernel, by decide +kernel, by decide +kernel⟩
theorem g_X8_140 : xCV RX8 140 yX5_firstFault cX5_firstFault 2 (some .int) 0 := ⟨m481, m482, m483, m10, m484, by decide +kernel, by decide +kernel, by decide +kernel⟩
theorem g_X5_21 : xCS RX5 21 yX5_canStand cX5_canStand 2 (some .boolean) 2 := ⟨m485, m486, m10, m487, by decide +kernel, by decide +kernel, by decide +kernel⟩
theorem g_X8_143 : xCV RX8 143 yX5_placesOf cX5_placesOf 4 (some .int) 1 := ⟨m488, m489, m490, m10, m491, by decide +kernel, by decide +kernel, by decide +kernel⟩
theorem g_X8_147 : xCV RX8 147 yX5_foxMoves cX5_foxMoves 1 (some .boolean) 0 := ⟨m492, m493, m494, m10, m495, by decide +kernel, by decide +kernel, by decide +kernel⟩
theorem g_X8_151 : xCS RX8 151 yX3_lowest cX3_lowest 2 (some .int) 1 := ⟨m496, m497, m2, m498, by decide +kernel, by decide +kernel, by decide +kernel⟩
theorem g_X8_154 : xCS RX8 154 yX3_highest cX3_highest 2 (some .int) 1 := ⟨m499, m500, m2, m501, by decide +kernel, by decide +kernel, by decide +kernel⟩
theorem g_X8_157 : xCV RX8 157 yX5_empty cX5_empty 1 none 0 := ⟨m502, m503, m504, m10, m505, by decide +kernel, by decide +kernel, by decide +kernel⟩
theorem g_L_41 : xCV RL 41 yX8_now cX8_now 2 (some .int) 1 := ⟨m506, m507, m508, m1, m509, by decide +kernel, by decide +kernel, by decide +kernel⟩
theorem g_X8_176 : xCV RX8 176 yX6_hunterOnFox cX6_hunterOnFox 1 (some .boolean) 0 := ⟨m510, m341, m342, m8, m343, by decide +kernel, by decide +kernel, by decide +kernel⟩
theorem g_X8_182 : xCV RX8 182 yX8_foldedNumber cX8_foldedNumber 2 (some .int) 1 := ⟨m511, m513, mp20, m1, m514, by decide +kernel, by decide +kernel, by decide +kernel⟩
theorem g_X8_224 : xCV RX8 224 yX1_prepare cX1_prepare 3 none 1 := ⟨m515, m516, m517, m5, m518, by decide +kernel, by decide +kernel, by decide +kernel⟩
theorem g_X1_26 : xCV RX1 26 yX1_imageOf cX1_imageOf 5 (some .int) 2 := ⟨m519, m521, mp21, m5, m522, by decide +kernel, by decide +kernel, by decide +kernel⟩
theorem g_X1_30 : xCV RX1 30 yX3_image cX3_image 3 (some .int) 2 := ⟨m523, m524, m525, m2, m526, by decide +kernel, by decide +kernel, by decide +kernel⟩
theorem g_X8_254 : xCV RX8 254 yX1_lowestAlike cX1_lowestAlike 4 (some .int) 1 := ⟨m527, m528, m529, m5, m530, by decide +kernel, by decide +kernel, by decide +kernel⟩
theorem g_X1_53 : xCV RX1 53 yX1_imageOfNumber cX1_imageOfNumber 7 (some .int) 2 := ⟨m531, m533, mp22, m5, m534, by decide +kernel, by decide +kernel, by decide +kernel⟩
theorem g_X1_33 : xCS RX1 33 yX3_pairIn cX3_pairIn 1 (some .int) 1 := ⟨m535, m536, m2, m537, by decide +kernel, by decide +kernel, by decide +kernel⟩
theorem g_X1_37 : xCS RX1 37 yX3_foxOf cX3_foxOf 1 (some .int) 1 := ⟨m538, m539, m2, m540, by decide +kernel, by decide +kernel, by decide +kernel⟩
theorem g_X1_40 : xCV RX1 40 yX3_lowerOf cX3_lowerOf 2 (some .int) 1 := ⟨m541, m392, m393, m2, m394, by decide +kernel, by decide +kernel, by decide +kernel⟩
theorem g_X1_43 : xCV RX1 43 yX3_higherOf cX3_higherOf 2 (some .int) 1 := ⟨m542, m396, m397, m2, m398, by decide +kernel, by decide +kernel, by decide +kernel⟩
theorem g_X1_46 : xCS RX1 46 yX3_whoOf cX3_whoOf 1 (some .int) 1 := ⟨m543, m544, m2, m545, by decide +kernel, by decide +kernel, by decide +kernel⟩
theorem g_X1_49 : xCV RX1 49 yX3_numberOf cX3_numberOf 5 (some .int) 4 := ⟨m546, m412, m413, m2, m414, by decide +kernel, by decide +kernel, by decide +kernel⟩
theorem g_X1_56 : xCS RX1 56 yJ9_min_7cf53 cJ9_min_7cf53 2 (some .int) 2 := ⟨m547, m239, m3, m240, by decide +kernel, by decide +kernel, by decide +kernel⟩
theorem g_X8_185 : xCV RX8 185 yX5_length cX5_length 1 (some .int) 0 := ⟨m548, m549, m550, m10, m551, by decide +kernel, by decide +kernel, by decide +kernel⟩
theorem g_X8_188 : xCV RX8 188 yX4_length cX4_length 1 (some .int) 0 := ⟨m552, m553, m554, m9, m555, by decide +kernel, by decide +kernel, by decide +kernel⟩
theorem g_L_45 : xCV RL 45 yX8_distance cX8_distance 6 (some .int) 4 := ⟨m556, m557, m558, m1, m559, by decide +kernel, by decide +kernel, by decide +kernel⟩
theorem g_L_49 : xCV RL 49 yX8_number cX8_number 6 (some .int) 4 := ⟨m560, m561, m562, m1, m563, by decide +kernel, by decide +kernel, by decide +kernel⟩
theorem g_L_53 : xCV RL 53 yX8_folded cX8_folded 6 (some .int) 4 := ⟨m564, m565, m566, m1, m567, by decide +kernel, by decide +kernel, by decide +kernel⟩
theorem g_L_57 : xCV RL 57 yX8_of cX8_of 3 (some .int) 2 := ⟨m568, m569, m570, m1, m571, by decide +kernel, by decide +kernel, by decide +kernel⟩
theorem g_X8_198 : xCV RX8 198 yX3_isPosition cX3_isPosition 6 (some .boolean) 2 := ⟨m572, m573, m574, m2, m575, by decide +kernel, by decide +kernel, by decide +kernel⟩
theorem g_X3_53 : xCS RX3 53 yX3_pairIn cX3_pairIn 1 (some .int) 1 := ⟨m576, m536, m2, m537, by decide +kernel, by decide +kernel, by decide +kernel⟩
theorem g_X3_56 : xCS RX3 56 yX3_foxOf cX3_foxOf 1 (some .int) 1 := ⟨m577, m539, m2, m540, by decide +kernel, by decide +kernel, by decide +kernel⟩
theorem g_X3_59 : xCV RX3 59 yX3_placesOf cX3_placesOf 2 (some .int) 1 := ⟨m578, m379, m380, m2, m381, by decide +kernel, by decide +kernel, by decide +kernel⟩
theorem g_X8_202 : xCS RX8 202 yX3_whoOf cX3_whoOf 1 (some .int) 1 := ⟨m579, m544, m2, m545, by decide +kernel, by decide +kernel, by decide +kernel⟩
theorem g_X8_205 : xCS RX8 205 yX3_foxOf cX3_foxOf 1 (some .int) 1 := ⟨m580, m539, m2, m540, by decide +kernel, by decide +kernel, by decide +kernel⟩
theorem g_X8_208 : xCS RX8 208 yX3_pairIn cX3_pairIn 1 (some .int) 1 := ⟨m581, m536, m2, m537, by decide +kernel, by decide +kernel, by decide +kernel⟩
theorem g_X8_211 : xCV RX8 211 yX3_lowerOf cX3_lowerOf 2 (some .int) 1 := ⟨m582, m392, m393, m2, m394, by decide +kernel, by decide +kernel, by decide +kernel⟩
theorem g_X8_214 : xCV RX8 214 yX3_higherOf cX3_higherOf 2 (some .int) 1 := ⟨m583, m396, m397, m2, m398, by decide +kernel, by decide +kernel, by decide +kernel⟩
theorem g_X8_217 : xCV RX8 217 yX7_prepare cX7_prepare 2 none 1 := ⟨m584, m585, m586, m6, m587, by decide +kernel, by decide +kernel, by decide +kernel⟩
theorem g_X7_46 : xCS RX7 46 yX0_signOf cX0_signOf 1 (some .int) 1 := ⟨m588, m359, m4, m360, by decide +kernel, by decide +kernel, by decide +kernel⟩
theorem g_X7_52 : xCV RX7 52 yX0_prepare cX0_prepare 2 none 1 := ⟨m589, m355, m356, m4, m357, by decide +kernel, by decide +kernel, by decide +kernel⟩
theorem g_X7_61 : xCV RX7 61 yX1_prepare cX1_prepare 3 none 1 := ⟨m590, m516, m517, m5, m518, by decide +kernel, by decide +kernel, by decide +kernel⟩
theorem g_X7_66 : xCS RX7 66 yJ7_fill_53178 cJ7_fill_53178 4 none 2 := ⟨m591, m368, m13, m369, by decide +kernel, by decide +kernel, by decide +kernel⟩
theorem g_X7_72 : xCV RX7 72 yX1_symmetries cX1_symmetries 1 (some .int) 0 := ⟨m592, m593, m594, m5, m595, by decide +kernel, by decide +kernel, by decide +kernel⟩
theorem g_X7_76 : xCV RX7 76 yX7_goThrough cX7_goThrough 3 none 1 := ⟨m596, m598, mp23, m6, m599, by decide +kernel, by decide +kernel, by decide +kernel⟩
theorem g_X7_88 : xCV RX7 88 yX3_isPosition cX3_isPosition 6 (some .boolean) 2 := ⟨m600, m573, m574, m2, m575, by decide +kernel, by decide +kernel, by decide +kernel⟩
theorem g_X7_92 : xCV RX7 92 yX0_at cX0_at 2 (some .int) 1 := ⟨m601, m417, m418, m4, m419, by decide +kernel, by decide +kernel, by decide +kernel⟩
theorem g_X7_95 : xCV RX7 95 yX1_standsForItself cX1_standsForItself 3 (some .boolean) 1 := ⟨m602, m603, m604, m5, m605, by decide +kernel, by decide +kernel, by decide +kernel⟩
theorem g_X7_99 : xCV RX7 99 yX7_collect cX7_collect 5 none 1 := ⟨m606, m608, mp24, m6, m609, by decide +kernel, by decide +kernel, by decide +kernel⟩
theorem g_X7_102 : xCV RX7 102 yX3_keyOf cX3_keyOf 6 (some .int) 1 := ⟨m610, m611, m612, m2, m613, by decide +kernel, by decide +kernel, by decide +kernel⟩
theorem g_X3_62 : xCV RX3 62 yX3_lowerOf cX3_lowerOf 2 (some .int) 1 := ⟨m614, m392, m393, m2, m394, by decide +kernel, by decide +kernel, by decide +kernel⟩
theorem g_X3_65 : xCV RX3 65 yX3_higherOf cX3_higherOf 2 (some .int) 1 := ⟨m615, m396, m397, m2, m398, by decide +kernel, by decide +kernel, by decide +kernel⟩
theorem g_X3_68 : xCS RX3 68 yX3_whoOf cX3_whoOf 1 (some .int) 1 := ⟨m616, m544, m2, m545, by decide +kernel, by decide +kernel, by decide +kernel⟩
theorem g_X3_71 : xCS RX3 71 yJ9_min_7cf53 cJ9_min_7cf53 2 (some .int) 2 := ⟨m617, m239, m3, m240, by decide +kernel, by decide +kernel, by decide +kernel⟩
theorem g_X3_74 : xCS RX3 74 yJ9_max_7cf53 cJ9_max_7cf53 2 (some .int) 2 := ⟨m618, m242, m3, m243, by decide +kernel, by decide +kernel, by decide +kernel⟩
theorem g_X7_79 : xCV RX7 79 yX7_makeRule cX7_makeRule 2 none 0 := ⟨m619, m621, mp25, m6, m622, by decide +kernel, by decide +kernel, by decide +kernel⟩
theorem g_X7_105 : xCV RX7 105 yX7_commonest cX7_commonest 6 (some .int) 1 := ⟨m623, m625, mp26, m6, m626, by decide +kernel, by decide +kernel, by decide +kernel⟩
theorem g_X7_42 : xCS RX7 42 yX7_distanceOf cX7_distanceOf 1 (some .int) 1 := ⟨m627, m628, m6, m629, by decide +kernel, by decide +kernel, by decide +kernel⟩
theorem g_X7_82 : xCV RX7 82 yX7_countExceptions cX7_countExceptions 5 none 0 := ⟨m630, m632, mp27, m6, m633, by decide +kernel, by decide +kernel, by decide +kernel⟩
theorem g_X7_108 : xCV RX7 108 yX7_told cX7_told 2 (some .int) 1 := ⟨m634, m635, m636, m6, m637, by decide +kernel, by decide +kernel, by decide +kernel⟩
theorem g_X7_110 : xCV RX7 110 yX7_countException cX7_countException 3 none 2 := ⟨m638, m640, mp28, m6, m641, by decide +kernel, by decide +kernel, by decide +kernel⟩
theorem g_X7_114 : xCS RX7 114 yJ9_max_7cf53 cJ9_max_7cf53 2 (some .int) 2 := ⟨m642, m242, m3, m243, by decide +kernel, by decide +kernel, by decide +kernel⟩
theorem g_X7_85 : xCV RX7 85 yX7_countWith cX7_countWith 5 (some .int) 1 := ⟨m643, m644, m645, m6, m646, by decide +kernel, by decide +kernel, by decide +kernel⟩
theorem g_X8_218 : xCV RX8 218 yX3_keyOf cX3_keyOf 6 (some .int) 1 := ⟨m647, m611, m612, m2, m613, by decide +kernel, by decide +kernel, by decide +kernel⟩
theorem g_X8_221 : xCV RX8 221 yX7_told cX7_told 2 (some .int) 1 := ⟨m648, m635, m636, m6, m637, by decide +kernel, by decide +kernel, by decide +kernel⟩
theorem g_X8_227 : xCV RX8 227 yX1_alike cX1_alike 4 (some .int) 1 := ⟨m649, m650, m651, m5, m652, by decide +kernel, by decide +kernel, by decide +kernel⟩
theorem g_X1_61 : xCV RX1 61 yX1_symmetries cX1_symmetries 1 (some .int) 0 := ⟨m653, m593, m594, m5, m595, by decide +kernel, by decide +kernel, by decide +kernel⟩
theorem g_L_61 : xCV RL 61 yX8_line cX8_line 4 (some .int) 1 := ⟨m654, m655, m656, m1, m657, by decide +kernel, by decide +kernel, by decide +kernel⟩
theorem g_X8_230 : xCV RX8 230 yX6_take cX6_take 2 none 1 := ⟨m658, m292, m293, m8, m294, by decide +kernel, by decide +kernel, by decide +kernel⟩
theorem g_L_65 : xCV RL 65 yX8_all cX8_all 2 (some .int) 1 := ⟨m659, m660, m661, m1, m662, by decide +kernel, by decide +kernel, by decide +kernel⟩
theorem g_X8_237 : xCV RX8 237 yX7_total cX7_total 2 (some .int) 1 := ⟨m663, m664, m665, m6, m666, by decide +kernel, by decide +kernel, by decide +kernel⟩
theorem g_L_69 : xCV RL 69 yX8_withDistance cX8_withDistance 2 (some .int) 1 := ⟨m667, m668, m669, m1, m670, by decide +kernel, by decide +kernel, by decide +kernel⟩
theorem g_X8_240 : xCV RX8 240 yX7_countWith cX7_countWith 5 (some .int) 1 := ⟨m671, m644, m645, m6, m646, by decide +kernel, by decide +kernel, by decide +kernel⟩
theorem g_L_73 : xCV RL 73 yX8_rule cX8_rule 2 (some .int) 1 := ⟨m672, m673, m674, m1, m675, by decide +kernel, by decide +kernel, by decide +kernel⟩
theorem g_L_79 : xCV RL 79 yX8_put cX8_put 4 (some .int) 1 := ⟨m676, m677, m678, m1, m679, by decide +kernel, by decide +kernel, by decide +kernel⟩
theorem g_X8_243 : xCS RX8 243 yX5_countIn cX5_countIn 7 (some .int) 1 := ⟨m680, m681, m10, m682, by decide +kernel, by decide +kernel, by decide +kernel⟩
theorem g_X8_247 : xCV RX8 247 yX5_append cX5_append 5 none 2 := ⟨m684, m685, m686, m10, m687, by decide +kernel, by decide +kernel, by decide +kernel⟩
theorem g_L_84 : xCV RL 84 yX8_wipe cX8_wipe 2 (some .int) 0 := ⟨m688, m689, m690, m1, m691, by decide +kernel, by decide +kernel, by decide +kernel⟩
theorem g_L_88 : xCV RL 88 yX8_fault cX8_fault 1 (some .int) 0 := ⟨m692, m693, m694, m1, m695, by decide +kernel, by decide +kernel, by decide +kernel⟩
theorem g_L_92 : xCV RL 92 yX8_undo cX8_undo 1 (some .int) 0 := ⟨m696, m697, m698, m1, m699, by decide +kernel, by decide +kernel, by decide +kernel⟩
theorem g_X8_251 : xCV RX8 251 yX4_takeBack cX4_takeBack 2 none 1 := ⟨m700, m701, m702, m9, m703, by decide +kernel, by decide +kernel, by decide +kernel⟩
theorem g_L_96 : xCV RL 96 yX8_save cX8_save 2 (some .int) 1 := ⟨m704, m705, m706, m1, m707, by decide +kernel, by decide +kernel, by decide +kernel⟩
theorem g_L_100 : xCV RL 100 yX8_restore cX8_restore 2 (some .int) 1 := ⟨m708, m709, m710, m1, m711, by decide +kernel, by decide +kernel, by decide +kernel⟩
theorem g_L_12 : xCI RL 12 yX9_init cX9_init 4 0 := ⟨m714, m715, m11, m716, rfl, by decide +kernel, by decide +kernel, by decide +kernel⟩
theorem f_X9_7 : xFl RX9 7 TX9 21 0 := ⟨m718, by decide⟩
theorem f_X9_13 : xFl RX9 13 TX9 21 1 := ⟨m719, by decide⟩
theorem f_X9_61 : xFl RX9 61 TX9 21 2 := ⟨m720, by decide⟩
theorem f_X9_57 : xFl RX9 57 TX9 21 3 := ⟨m721, by decide⟩
theorem f_X9_16 : xFl RX9 16 TX9 21 4 := ⟨m722, by decide⟩
theorem f_X9_19 : xFl RX9 19 TX9 21 5 := ⟨m723, by decide⟩
theorem f_X9_23 : xFl RX9 23 TX9 21 6 := ⟨m724, by decide⟩
theorem f_X9_26 : xFl RX9 26 TX9 21 7 := ⟨m725, by decide⟩
theorem f_X9_29 : xFl RX9 29 TX9 21 8 := ⟨m726, by decide⟩
theorem f_X9_32 : xFl RX9 32 TX9 21 9 := ⟨m727, by decide⟩
theorem f_X9_35 : xFl RX9 35 TX9 21 10 := ⟨m728, by decide⟩
theorem f_X9_38 : xFl RX9 38 TX9 21 11 := ⟨m729, by decide⟩
theorem f_X9_125 : xFl RX9 125 TX9 21 12 := ⟨m730, by decide⟩
theorem f_X9_41 : xFl RX9 41 TX9 21 13 := ⟨m731, by decide⟩
theorem f_X9_44 : xFl RX9 44 TX9 21 14 := ⟨m732, by decide⟩
theorem f_X9_47 : xFl RX9 47 TX9 21 15 := ⟨m733, by decide⟩
theorem f_X9_141 : xFl RX9 141 TX9 21 16 := ⟨m734, by decide⟩
theorem f_X9_180 : xFl RX9 180 TX9 21 17 := ⟨m735, by decide⟩
theorem f_X9_183 : xFl RX9 183 TX9 21 18 := ⟨m736, by decide⟩
theorem f_X9_50 : xFl RX9 50 TX9 21 19 := ⟨m737, by decide⟩
theorem f_X9_223 : xFl RX9 223 TX9 21 20 := ⟨m738, by decide⟩
theorem g_L_17 : xCV RL 17 yX9_set cX9_set 4 (some .int) 2 := ⟨m782, m783, m784, m11, m785, by decide +kernel, by decide +kernel, by decide +kernel⟩
theorem g_X9_53 : xCS RX9 53 yX9_in cX9_in 3 (some .boolean) 3 := ⟨m786, m787, m11, m788, by decide +kernel, by decide +kernel, by decide +kernel⟩
theorem g_X9_192 : xCV RX9 192 yX9_keep cX9_keep 3 none 0 := ⟨m789, m791, mp29, m11, m792, by decide +kernel, by decide +kernel, by decide +kernel⟩
theorem g_L_22 : xCV RL 22 yX9_block cX9_block 2 (some .int) 1 := ⟨m793, m794, m795, m11, m796, by decide +kernel, by decide +kernel, by decide +kernel⟩
theorem g_X9_195 : xCS RX9 195 yX9_isPlace cX9_isPlace 1 (some .boolean) 1 := ⟨m797, m798, m11, m799, by decide +kernel, by decide +kernel, by decide +kernel⟩
theorem g_X9_91 : xCV RX9 91 yX9_isFree cX9_isFree 2 (some .boolean) 1 := ⟨m800, m802, mp30, m11, m803, by decide +kernel, by decide +kernel, by decide +kernel⟩
theorem g_X9_78 : xCS RX9 78 yX9_has cX9_has 2 (some .boolean) 2 := ⟨m804, m805, m11, m806, by decide +kernel, by decide +kernel, by decide +kernel⟩
theorem g_X9_198 : xCS RX9 198 yX9_many cX9_many 3 (some .int) 1 := ⟨m807, m808, m11, m809, by decide +kernel, by decide +kernel, by decide +kernel⟩
theorem g_L_27 : xCV RL 27 yX9_setUp cX9_setUp 6 (some .int) 4 := ⟨m810, m811, m812, m11, m813, by decide +kernel, by decide +kernel, by decide +kernel⟩
theorem g_X9_201 : xCV RX9 201 yX9_whyNot cX9_whyNot 6 (some .int) 4 := ⟨m814, m816, mp31, m11, m817, by decide +kernel, by decide +kernel, by decide +kernel⟩
theorem g_X9_204 : xCV RX9 204 yX9_lay cX9_lay 5 none 4 := ⟨m818, m820, mp32, m11, m821, by decide +kernel, by decide +kernel, by decide +kernel⟩
theorem g_X9_82 : xCS RX9 82 yX9_lesser cX9_lesser 2 (some .int) 2 := ⟨m822, m823, m11, m824, by decide +kernel, by decide +kernel, by decide +kernel⟩
theorem g_X9_85 : xCS RX9 85 yX9_greater cX9_greater 2 (some .int) 2 := ⟨m825, m826, m11, m827, by decide +kernel, by decide +kernel, by decide +kernel⟩
theorem g_X9_208 : xCV RX9 208 yX9_distanceNow cX9_distanceNow 1 (some .int) 0 := ⟨m828, m830, mp33, m11, m831, by decide +kernel, by decide +kernel, by decide +kernel⟩
theorem g_X9_171 : xCV RX9 171 yX9_isCaught cX9_isCaught 1 (some .boolean) 0 := ⟨m832, m834, mp34, m11, m835, by decide +kernel, by decide +kernel, by decide +kernel⟩
theorem g_X9_161 : xCV RX9 161 yX9_work cX9_work 2 none 0 := ⟨m836, m838, mp35, m11, m839, by decide +kernel, by decide +kernel, by decide +kernel⟩
theorem g_X9_145 : xCV RX9 145 yX9_isAsWorked cX9_isAsWorked 3 (some .boolean) 0 := ⟨m840, m842, mp36, m11, m843, by decide +kernel, by decide +kernel, by decide +kernel⟩
theorem g_X9_149 : xCV RX9 149 yX9_workOutAll cX9_workOutAll 3 none 0 := ⟨m844, m846, mp37, m11, m847, by decide +kernel, by decide +kernel, by decide +kernel⟩
theorem g_X9_122 : xCV RX9 122 yX9_workOut cX9_workOut 7 (some .boolean) 1 := ⟨m848, m850, mp38, m11, m851, by decide +kernel, by decide +kernel, by decide +kernel⟩
theorem g_X9_113 : xCV RX9 113 yX9_isPosition cX9_isPosition 6 (some .boolean) 1 := ⟨m852, m854, mp39, m11, m855, by decide +kernel, by decide +kernel, by decide +kernel⟩
theorem g_X9_116 : xCV RX9 116 yX9_ofHunters cX9_ofHunters 4 (some .int) 2 := ⟨m856, m858, mp40, m11, m859, by decide +kernel, by decide +kernel, by decide +kernel⟩
theorem g_X9_106 : xCV RX9 106 yX9_canCatch cX9_canCatch 3 (some .boolean) 2 := ⟨m860, m862, mp41, m11, m863, by decide +kernel, by decide +kernel, by decide +kernel⟩
theorem g_X9_95 : xCS RX9 95 yX9_isStep cX9_isStep 3 (some .boolean) 3 := ⟨m864, m865, m11, m866, by decide +kernel, by decide +kernel, by decide +kernel⟩
theorem g_X9_75 : xCS RX9 75 yX9_between cX9_between 2 (some .int) 2 := ⟨m867, m868, m11, m869, by decide +kernel, by decide +kernel, by decide +kernel⟩
theorem g_X9_68 : xCS RX9 68 yX9_rowsBetween cX9_rowsBetween 2 (some .int) 2 := ⟨m870, m871, m11, m872, by decide +kernel, by decide +kernel, by decide +kernel⟩
theorem g_X9_64 : xCS RX9 64 yX9_size cX9_size 1 (some .int) 1 := ⟨m873, m874, m11, m875, by decide +kernel, by decide +kernel, by decide +kernel⟩
theorem g_X9_72 : xCS RX9 72 yX9_columnsBetween cX9_columnsBetween 2 (some .int) 2 := ⟨m876, m877, m11, m878, by decide +kernel, by decide +kernel, by decide +kernel⟩
theorem g_X9_109 : xCV RX9 109 yX9_ofHunter cX9_ofHunter 6 (some .int) 3 := ⟨m879, m881, mp42, m11, m882, by decide +kernel, by decide +kernel, by decide +kernel⟩
theorem g_X9_99 : xCS RX9 99 yX9_numberOf cX9_numberOf 4 (some .int) 4 := ⟨m883, m884, m11, m885, by decide +kernel, by decide +kernel, by decide +kernel⟩
theorem g_X9_88 : xCS RX9 88 yX9_pair cX9_pair 4 (some .int) 2 := ⟨m886, m887, m11, m888, by decide +kernel, by decide +kernel, by decide +kernel⟩
theorem g_X9_103 : xCS RX9 103 yX9_nearer cX9_nearer 2 (some .int) 2 := ⟨m889, m890, m11, m891, by decide +kernel, by decide +kernel, by decide +kernel⟩
theorem g_X9_119 : xCV RX9 119 yX9_ofFox cX9_ofFox 7 (some .int) 2 := ⟨m892, m894, mp43, m11, m895, by decide +kernel, by decide +kernel, by decide +kernel⟩
theorem g_X9_152 : xCV RX9 152 yX9_findSymmetries cX9_findSymmetries 5 none 0 := ⟨m896, m898, mp44, m11, m899, by decide +kernel, by decide +kernel, by decide +kernel⟩
theorem g_X9_128 : xCS RX9 128 yX9_turned cX9_turned 6 (some .int) 2 := ⟨m900, m901, m11, m902, by decide +kernel, by decide +kernel, by decide +kernel⟩
theorem g_X9_155 : xCV RX9 155 yX9_fold cX9_fold 2 none 0 := ⟨m903, m905, mp45, m11, m906, by decide +kernel, by decide +kernel, by decide +kernel⟩
theorem g_X9_131 : xCV RX9 131 yX9_foldOne cX9_foldOne 8 none 1 := ⟨m907, m909, mp46, m11, m910, by decide +kernel, by decide +kernel, by decide +kernel⟩
theorem g_X9_135 : xCV RX9 135 yX9_madeBy cX9_madeBy 5 (some .int) 2 := ⟨m911, m913, mp47, m11, m914, by decide +kernel, by decide +kernel, by decide +kernel⟩
theorem g_X9_158 : xCV RX9 158 yX9_ruleOf cX9_ruleOf 6 (some .int) 1 := ⟨m915, m917, mp48, m11, m918, by decide +kernel, by decide +kernel, by decide +kernel⟩
theorem g_X9_138 : xCV RX9 138 yX9_key cX9_key 6 (some .int) 1 := ⟨m919, m921, mp49, m11, m922, by decide +kernel, by decide +kernel, by decide +kernel⟩
theorem g_X9_164 : xCV RX9 164 yX9_isHit cX9_isHit 1 (some .boolean) 0 := ⟨m923, m925, mp50, m11, m926, by decide +kernel, by decide +kernel, by decide +kernel⟩
theorem g_X9_167 : xCV RX9 167 yX9_numberNow cX9_numberNow 1 (some .int) 0 := ⟨m927, m929, mp51, m11, m930, by decide +kernel, by decide +kernel, by decide +kernel⟩
theorem g_L_31 : xCV RL 31 yX9_move cX9_move 3 (some .int) 2 := ⟨m931, m932, m933, m11, m934, by decide +kernel, by decide +kernel, by decide +kernel⟩
theorem g_X9_186 : xCV RX9 186 yX9_isMove cX9_isMove 3 (some .boolean) 2 := ⟨m935, m937, mp52, m11, m938, by decide +kernel, by decide +kernel, by decide +kernel⟩
theorem g_X9_174 : xCV RX9 174 yX9_isHunterMove cX9_isHunterMove 5 (some .boolean) 2 := ⟨m939, m941, mp53, m11, m942, by decide +kernel, by decide +kernel, by decide +kernel⟩
theorem g_X9_177 : xCV RX9 177 yX9_isFoxMove cX9_isFoxMove 3 (some .boolean) 2 := ⟨m943, m945, mp54, m11, m946, by decide +kernel, by decide +kernel, by decide +kernel⟩
theorem g_X9_211 : xCV RX9 211 yX9_make cX9_make 4 (some .int) 2 := ⟨m947, m949, mp55, m11, m950, by decide +kernel, by decide +kernel, by decide +kernel⟩
theorem g_L_36 : xCV RL 36 yX9_play cX9_play 1 (some .int) 0 := ⟨m951, m952, m953, m11, m954, by decide +kernel, by decide +kernel, by decide +kernel⟩
theorem g_X9_214 : xCV RX9 214 yX9_findBest cX9_findBest 4 (some .boolean) 0 := ⟨m955, m957, mp56, m11, m958, by decide +kernel, by decide +kernel, by decide +kernel⟩
theorem g_X9_189 : xCV RX9 189 yX9_worth cX9_worth 6 (some .int) 2 := ⟨m959, m961, mp57, m11, m962, by decide +kernel, by decide +kernel, by decide +kernel⟩
theorem g_L_44 : xCV RL 44 yX9_now cX9_now 2 (some .int) 1 := ⟨m963, m964, m965, m11, m966, by decide +kernel, by decide +kernel, by decide +kernel⟩
theorem g_X9_217 : xCV RX9 217 yX9_best cX9_best 2 (some .int) 1 := ⟨m967, m969, mp58, m11, m970, by decide +kernel, by decide +kernel, by decide +kernel⟩
theorem g_X9_220 : xCV RX9 220 yX9_standsNow cX9_standsNow 1 (some .int) 0 := ⟨m971, m973, mp59, m11, m974, by decide +kernel, by decide +kernel, by decide +kernel⟩
theorem g_L_48 : xCV RL 48 yX9_distance cX9_distance 6 (some .int) 4 := ⟨m975, m976, m977, m11, m978, by decide +kernel, by decide +kernel, by decide +kernel⟩
theorem g_L_52 : xCV RL 52 yX9_number cX9_number 6 (some .int) 4 := ⟨m979, m980, m981, m11, m982, by decide +kernel, by decide +kernel, by decide +kernel⟩
theorem g_L_56 : xCV RL 56 yX9_folded cX9_folded 6 (some .int) 4 := ⟨m983, m984, m985, m11, m986, by decide +kernel, by decide +kernel, by decide +kernel⟩
theorem g_L_60 : xCV RL 60 yX9_of cX9_of 3 (some .int) 2 := ⟨m987, m988, m989, m11, m990, by decide +kernel, by decide +kernel, by decide +kernel⟩
theorem g_L_64 : xCV RL 64 yX9_line cX9_line 8 (some .int) 1 := ⟨m991, m992, m993, m11, m994, by decide +kernel, by decide +kernel, by decide +kernel⟩
theorem g_L_68 : xCV RL 68 yX9_all cX9_all 2 (some .int) 1 := ⟨m995, m996, m997, m11, m998, by decide +kernel, by decide +kernel, by decide +kernel⟩
theorem g_X9_229 : xCV RX9 229 yX9_positions cX9_positions 4 (some .int) 1 := ⟨m999, m1001, mp60, m11, m1002, by decide +kernel, by decide +kernel, by decide +kernel⟩
theorem g_X9_233 : xCV RX9 233 yX9_greatest cX9_greatest 3 (some .int) 0 := ⟨m1003, m1005, mp61, m11, m1006, by decide +kernel, by decide +kernel, by decide +kernel⟩
theorem g_X9_236 : xCV RX9 236 yX9_lowestWith cX9_lowestWith 3 (some .int) 1 := ⟨m1007, m1009, mp62, m11, m1010, by decide +kernel, by decide +kernel, by decide +kernel⟩
theorem g_X9_239 : xCV RX9 239 yX9_standingWith cX9_standingWith 4 (some .int) 1 := ⟨m1011, m1013, mp63, m11, m1014, by decide +kernel, by decide +kernel, by decide +kernel⟩
theorem g_X9_242 : xCV RX9 242 yX9_exceptions cX9_exceptions 3 (some .int) 0 := ⟨m1015, m1017, mp64, m11, m1018, by decide +kernel, by decide +kernel, by decide +kernel⟩
theorem g_X9_226 : xCV RX9 226 yX9_isException cX9_isException 2 (some .boolean) 1 := ⟨m1019, m1021, mp65, m11, m1022, by decide +kernel, by decide +kernel, by decide +kernel⟩
theorem g_X9_245 : xCV RX9 245 yX9_runs cX9_runs 6 (some .int) 1 := ⟨m1023, m1025, mp66, m11, m1026, by decide +kernel, by decide +kernel, by decide +kernel⟩
theorem g_X9_248 : xCV RX9 248 yX9_blocks cX9_blocks 5 (some .int) 0 := ⟨m1027, m1029, mp67, m11, m1030, by decide +kernel, by decide +kernel, by decide +kernel⟩
theorem g_X9_251 : xCV RX9 251 yX9_keys cX9_keys 3 (some .int) 0 := ⟨m1031, m1033, mp68, m11, m1034, by decide +kernel, by decide +kernel, by decide +kernel⟩
theorem g_L_72 : xCV RL 72 yX9_withDistance cX9_withDistance 2 (some .int) 1 := ⟨m1035, m1036, m1037, m11, m1038, by decide +kernel, by decide +kernel, by decide +kernel⟩
theorem g_L_76 : xCV RL 76 yX9_rule cX9_rule 2 (some .int) 1 := ⟨m1039, m1040, m1041, m11, m1042, by decide +kernel, by decide +kernel, by decide +kernel⟩
theorem g_L_83 : xCV RL 83 yX9_put cX9_put 7 (some .int) 1 := ⟨m1043, m1044, m1045, m11, m1046, by decide +kernel, by decide +kernel, by decide +kernel⟩
theorem g_L_87 : xCV RL 87 yX9_wipe cX9_wipe 2 (some .int) 0 := ⟨m1048, m1049, m1050, m11, m1051, by decide +kernel, by decide +kernel, by decide +kernel⟩
theorem g_L_91 : xCV RL 91 yX9_fault cX9_fault 2 (some .int) 0 := ⟨m1052, m1053, m1054, m11, m1055, by decide +kernel, by decide +kernel, by decide +kernel⟩
theorem g_X9_256 : xCS RX9 256 yX9_canStand cX9_canStand 2 (some .boolean) 2 := ⟨m1056, m1057, m11, m1058, by decide +kernel, by decide +kernel, by decide +kernel⟩
theorem g_L_40 : xCV RL 40 yX9_readPad cX9_readPad 4 (some .int) 0 := ⟨m1059, m1060, m1061, m11, m1062, by decide +kernel, by decide +kernel, by decide +kernel⟩
theorem g_X9_259 : xCV RX9 259 yX9_fault cX9_fault 2 (some .int) 0 := ⟨m1063, m1053, m1054, m11, m1055, by decide +kernel, by decide +kernel, by decide +kernel⟩
theorem g_X9_262 : xCV RX9 262 yX9_placesOf cX9_placesOf 4 (some .int) 1 := ⟨m1064, m1066, mp69, m11, m1067, by decide +kernel, by decide +kernel, by decide +kernel⟩
theorem g_X9_265 : xCS RX9 265 yX9_lowest cX9_lowest 2 (some .int) 1 := ⟨m1068, m1069, m11, m1070, by decide +kernel, by decide +kernel, by decide +kernel⟩
theorem g_L_95 : xCV RL 95 yX9_undo cX9_undo 3 (some .int) 0 := ⟨m1071, m1072, m1073, m11, m1074, by decide +kernel, by decide +kernel, by decide +kernel⟩
theorem g_L_99 : xCV RL 99 yX9_save cX9_save 3 (some .int) 1 := ⟨m1075, m1076, m1077, m11, m1078, by decide +kernel, by decide +kernel, by decide +kernel⟩
theorem g_L_103 : xCV RL 103 yX9_restore cX9_restore 3 (some .int) 1 := ⟨m1079, m1080, m1081, m11, m1082, by decide +kernel, by decide +kernel, by decide +kernel⟩
end
section
def LX0_init : List (Nat × (Instr × Nat)) := [(0, (.aload_n 0, 1)), (1, (.invokespecial 3, 3)), (4, (.aload_n 0, 1)), (5, (.aload_n 1, 1)), (6, (.putfield 9, 3)), (9, (.aload_n 0, 1)), (10, (.sipush 4096, 3)), (13, (.newarray .int, 2)), (15, (.putfield 17, 3)), (18, (.aload_n 0, 1)), (19, (.bipush 120, 2)), (21, (.newarray .int, 2)), (23, (.putfield 21, 3)), (26, (.aload_n 0, 1)), (27, (.bipush 120, 2)), (29, (.newarray .int, 2)), (31, (.putfield 24, 3)), (34, (.aload_n 0, 1)), (35, (.iconst (-1), 1)), (36, (.putfield 27, 3)), (39, (.return_, 1))]
theorem DX0_init_all : ∀ q ∈ LX0_init, decode cX0_init q.1 = .ok q.2 := by decide +kernel
theorem DX0_init (k : Nat) {pc : Nat} {q : Instr × Nat} (h : LX0_init[k]? = some (pc, q)) : decode cX0_init pc = .ok q := DX0_init_all (pc, q) (List.mem_of_getElem? h)
def LX0_signOf : List (Nat × (Instr × Nat)) := [(0, (.aload_n 0, 1)), (1, (.getfield 31, 3)), (4, (.bipush 16, 2)), (6, (.ishl, 1)), (7, (.aload_n 0, 1)), (8, (.getfield 36, 3)), (11, (.ior, 1)), (12, (.ireturn, 1))]
theorem DX0_signOf_all : ∀ q ∈ LX0_signOf, decode cX0_signOf q.1 = .ok q.2 := by decide +kernel
theorem DX0_signOf (k : Nat) {pc : Nat} {q : Instr × Nat} (h : LX0_signOf[k]? = some (pc, q)) : decode cX0_signOf pc = .ok q := DX0_signOf_all (pc, q) (List.mem_of_getElem? h)
def LX0_at : List (Nat × (Instr × Nat)) := [(0, (.iload_n 1, 1)), (1, (.ifCond .lt 19, 3)), (4, (.iload_n 1, 1)), (5, (.sipush 4096, 3)), (8, (.if_icmp .ge 12, 3)), (11, (.aload_n 0, 1)), (12, (.getfield 17, 3)), (15, (.iload_n 1, 1)), (16, (.iaload, 1)), (17, (.goto 5, 3)), (20, (.bipush (-6), 2)), (22, (.ireturn, 1))]
theorem DX0_at_all : ∀ q ∈ LX0_at, decode cX0_at q.1 = .ok q.2 := by decide +kernel
theorem DX0_at (k : Nat) {pc : Nat} {q : Instr × Nat} (h : LX0_at[k]? = some (pc, q)) : decode cX0_at pc = .ok q := DX0_at_all (pc, q) (List.mem_of_getElem? h)
def LX0_prepare : List (Nat × (Instr × Nat)) := [(0, (.aload_n 0, 1)), (1, (.getfield 27, 3)), (4, (.aload_n 1, 1)), (5, (.invokestatic 39, 3)), (8, (.if_icmp .ne 4, 3)), (11, (.return_, 1)), (12, (.aload_n 0, 1)), (13, (.aload_n 1, 1)), (14, (.invokestatic 39, 3)), (17, (.putfield 27, 3)), (20, (.aload_n 0, 1)), (21, (.ldc 43, 2)), (23, (.aload_n 1, 1)), (24, (.getfield 36, 3)), (27, (.iconst (-1), 1)), (28, (.ixor, 1)), (29, (.iand, 1)), (30, (.putfield 44, 3)), (33, (.aload_n 0, 1)), (34, (.aload_n 1, 1)), (35, (.iconst 0, 1)), (36, (.invokevirtual 47, 3)), (39, (.iconst 1, 1)), (40, (.if_icmp .ne 7, 3)), (43, (.iconst 1, 1)), (44, (.goto 4, 3)), (47, (.iconst 0, 1)), (48, (.putfield 51, 3)), (51, (.aload_n 0, 1)), (52, (.aload_n 1, 1)), (53, (.iconst 1, 1)), (54, (.invokevirtual 47, 3)), (57, (.iconst 1, 1)), (58, (.if_icmp .ne 7, 3)), (61, (.iconst 1, 1)), (62, (.goto 4, 3)), (65, (.iconst 0, 1)), (66, (.putfield 55, 3)), (69, (.aload_n 0, 1)), (70, (.aload_n 1, 1)), (71, (.iconst 2, 1)), (72, (.invokevirtual 47, 3)), (75, (.iconst 1, 1)), (76, (.if_icmp .ne 7, 3)), (79, (.iconst 1, 1)), (80, (.goto 4, 3)), (83, (.iconst 0, 1)), (84, (.putfield 58, 3)), (87, (.aload_n 0, 1)), (88, (.invokevirtual 61, 3)), (91, (.return_, 1))]
theorem DX0_prepare_all : ∀ q ∈ LX0_prepare, decode cX0_prepare q.1 = .ok q.2 := by decide +kernel
theorem DX0_prepare (k : Nat) {pc : Nat} {q : Instr × Nat} (h : LX0_prepare[k]? = some (pc, q)) : decode cX0_prepare pc = .ok q := DX0_prepare_all (pc, q) (List.mem_of_getElem? h)
def LX0_workOut_0 : List (Nat × (Instr × Nat)) := [(0, (.aload_n 0, 1)), (1, (.getfield 17, 3)), (4, (.bipush (-6), 2)), (6, (.invokestatic 64, 3)), (9, (.aload_n 0, 1)), (10, (.getfield 21, 3)), (13, (.iconst 0, 1)), (14, (.invokestatic 64, 3)), (17, (.aload_n 0, 1)), (18, (.getfield 24, 3)), (21, (.iconst 0, 1)), (22, (.invokestatic 64, 3)), (25, (.iconst 1, 1)), (26, (.istore_n 1, 1)), (27, (.iconst 0, 1)), (28, (.istore_n 2, 1)), (29, (.iload_n 1, 1)), (30, (.ifCond .eq 82, 3)), (33, (.iload_n 2, 1)), (34, (.sipush 4096, 3)), (37, (.if_icmp .ge 75, 3)), (40, (.iconst 0, 1)), (41, (.istore_n 3, 1)), (42, (.iconst 0, 1)), (43, (.istore 4, 2)), (45, (.iload 4, 2)), (47, (.bipush 120, 2)), (49, (.if_icmp .ge 19, 3)), (52, (.iload_n 3, 1)), (53, (.aload_n 0, 1)), (54, (.iload 4, 2)), (56, (.iload_n 2, 1)), (57, (.invokevirtual 70, 3)), (60, (.ior, 1)), (61, (.istore_n 3, 1)), (62, (.iinc 4 1, 3)), (65, (.goto (-20), 3)), (68, (.iconst 0, 1)), (69, (.istore 4, 2)), (71, (.iload 4, 2)), (73, (.bipush 120, 2)), (75, (.if_icmp .ge 21, 3)), (78, (.iload_n 3, 1)), (79, (.aload_n 0, 1)), (80, (.iload 4, 2)), (82, (.iload_n 2, 1)), (83, (.iconst 1, 1)), (84, (.iadd, 1)), (85, (.invokevirtual 74, 3)), (88, (.ior, 1)), (89, (.istore_n 3, 1)), (90, (.iinc 4 1, 3)), (93, (.goto (-22), 3)), (96, (.iload_n 3, 1)), (97, (.ifCond .eq 7, 3)), (100, (.iconst 1, 1)), (101, (.goto 4, 3)), (104, (.iconst 0, 1)), (105, (.istore_n 1, 1)), (106, (.iinc 2 2, 3))]
theorem DX0_workOut_0_all : ∀ q ∈ LX0_workOut_0, decode cX0_workOut q.1 = .ok q.2 := by decide +kernel
theorem DX0_workOut_0 (k : Nat) {pc : Nat} {q : Instr × Nat} (h : LX0_workOut_0[k]? = some (pc, q)) : decode cX0_workOut pc = .ok q := DX0_workOut_0_all (pc, q) (List.mem_of_getElem? h)
def LX0_workOut_1 : List (Nat × (Instr × Nat)) := [(109, (.goto (-80), 3)), (112, (.return_, 1))]
theorem DX0_workOut_1_all : ∀ q ∈ LX0_workOut_1, decode cX0_workOut q.1 = .ok q.2 := by decide +kernel
theorem DX0_workOut_1 (k : Nat) {pc : Nat} {q : Instr × Nat} (h : LX0_workOut_1[k]? = some (pc, q)) : decode cX0_workOut pc = .ok q := DX0_workOut_1_all (pc, q) (List.mem_of_getElem? h)
def LX0_placesForFox : List (Nat × (Instr × Nat)) := [(0, (.aload_n 0, 1)), (1, (.getfield 9, 3)), (4, (.iload_n 1, 1)), (5, (.invokevirtual 77, 3)), (8, (.istore_n 2, 1)), (9, (.iload_n 2, 1)), (10, (.aload_n 0, 1)), (11, (.getfield 44, 3)), (14, (.iand, 1)), (15, (.iload_n 2, 1)), (16, (.if_icmp .ne 14, 3)), (19, (.aload_n 0, 1)), (20, (.getfield 44, 3)), (23, (.iload_n 2, 1)), (24, (.iconst (-1), 1)), (25, (.ixor, 1)), (26, (.iand, 1)), (27, (.goto 4, 3)), (30, (.iconst 0, 1)), (31, (.ireturn, 1))]
theorem DX0_placesForFox_all : ∀ q ∈ LX0_placesForFox, decode cX0_placesForFox q.1 = .ok q.2 := by decide +kernel
theorem DX0_placesForFox (k : Nat) {pc : Nat} {q : Instr × Nat} (h : LX0_placesForFox[k]? = some (pc, q)) : decode cX0_placesForFox pc = .ok q := DX0_placesForFox_all (pc, q) (List.mem_of_getElem? h)
def LX0_foxLevel_0 : List (Nat × (Instr × Nat)) := [(0, (.aload_n 0, 1)), (1, (.iload_n 1, 1)), (2, (.invokevirtual 80, 3)), (5, (.aload_n 0, 1)), (6, (.getfield 21, 3)), (9, (.iload_n 1, 1)), (10, (.iaload, 1)), (11, (.iconst (-1), 1)), (12, (.ixor, 1)), (13, (.iand, 1)), (14, (.istore_n 3, 1)), (15, (.aload_n 0, 1)), (16, (.iload_n 1, 1)), (17, (.invokevirtual 80, 3)), (20, (.aload_n 0, 1)), (21, (.getfield 24, 3)), (24, (.iload_n 1, 1)), (25, (.iaload, 1)), (26, (.iconst (-1), 1)), (27, (.ixor, 1)), (28, (.iand, 1)), (29, (.istore 4, 2)), (31, (.iconst 0, 1)), (32, (.istore 5, 2)), (34, (.iconst 0, 1)), (35, (.istore 6, 2)), (37, (.iload 6, 2)), (39, (.bipush 16, 2)), (41, (.if_icmp .ge 46, 3)), (44, (.iload_n 3, 1)), (45, (.iload 6, 2)), (47, (.ishr, 1)), (48, (.iconst 1, 1)), (49, (.iand, 1)), (50, (.ifCond .eq 31, 3)), (53, (.aload_n 0, 1)), (54, (.getfield 9, 3)), (57, (.iload 6, 2)), (59, (.aload_n 0, 1)), (60, (.getfield 51, 3)), (63, (.invokevirtual 83, 3)), (66, (.iload 4, 2)), (68, (.iand, 1)), (69, (.ifCond .ne 12, 3)), (72, (.iload 5, 2)), (74, (.iconst 1, 1)), (75, (.iload 6, 2)), (77, (.ishl, 1)), (78, (.ior, 1)), (79, (.istore 5, 2)), (81, (.iinc 6 1, 3)), (84, (.goto (-47), 3)), (87, (.aload_n 0, 1)), (88, (.getfield 21, 3)), (91, (.iload_n 1, 1)), (92, (.dup2, 1)), (93, (.iaload, 1)), (94, (.iload 5, 2)), (96, (.ior, 1)), (97, (.iastore, 1))]
theorem DX0_foxLevel_0_all : ∀ q ∈ LX0_foxLevel_0, decode cX0_foxLevel q.1 = .ok q.2 := by decide +kernel
theorem DX0_foxLevel_0 (k : Nat) {pc : Nat} {q : Instr × Nat} (h : LX0_foxLevel_0[k]? = some (pc, q)) : decode cX0_foxLevel pc = .ok q := DX0_foxLevel_0_all (pc, q) (List.mem_of_getElem? h)
def LX0_foxLevel_1 : List (Nat × (Instr × Nat)) := [(98, (.aload_n 0, 1)), (99, (.iload 5, 2)), (101, (.iconst 1, 1)), (102, (.iload_n 1, 1)), (103, (.iload_n 2, 1)), (104, (.invokevirtual 87, 3)), (107, (.iload 5, 2)), (109, (.ireturn, 1))]
theorem DX0_foxLevel_1_all : ∀ q ∈ LX0_foxLevel_1, decode cX0_foxLevel q.1 = .ok q.2 := by decide +kernel
theorem DX0_foxLevel_1 (k : Nat) {pc : Nat} {q : Instr × Nat} (h : LX0_foxLevel_1[k]? = some (pc, q)) : decode cX0_foxLevel pc = .ok q := DX0_foxLevel_1_all (pc, q) (List.mem_of_getElem? h)
def LX0_huntersLevel_0 : List (Nat × (Instr × Nat)) := [(0, (.aload_n 0, 1)), (1, (.iload_n 1, 1)), (2, (.invokevirtual 80, 3)), (5, (.aload_n 0, 1)), (6, (.getfield 24, 3)), (9, (.iload_n 1, 1)), (10, (.iaload, 1)), (11, (.iconst (-1), 1)), (12, (.ixor, 1)), (13, (.iand, 1)), (14, (.istore_n 3, 1)), (15, (.iload_n 3, 1)), (16, (.ifCond .ne 5, 3)), (19, (.iconst 0, 1)), (20, (.ireturn, 1)), (21, (.aload_n 0, 1)), (22, (.getfield 9, 3)), (25, (.iload_n 1, 1)), (26, (.invokevirtual 91, 3)), (29, (.istore 4, 2)), (31, (.aload_n 0, 1)), (32, (.getfield 9, 3)), (35, (.iload_n 1, 1)), (36, (.invokevirtual 94, 3)), (39, (.istore 5, 2)), (41, (.aload_n 0, 1)), (42, (.iload 4, 2)), (44, (.iload 5, 2)), (46, (.invokevirtual 97, 3)), (49, (.aload_n 0, 1)), (50, (.iload 5, 2)), (52, (.iload 4, 2)), (54, (.invokevirtual 97, 3)), (57, (.ior, 1)), (58, (.istore 6, 2)), (60, (.aload_n 0, 1)), (61, (.getfield 58, 3)), (64, (.ifCond .eq 14, 3)), (67, (.iload 6, 2)), (69, (.aload_n 0, 1)), (70, (.getfield 21, 3)), (73, (.iload_n 1, 1)), (74, (.iaload, 1)), (75, (.ior, 1)), (76, (.istore 6, 2)), (78, (.iload_n 3, 1)), (79, (.iload 6, 2)), (81, (.iand, 1)), (82, (.istore 7, 2)), (84, (.aload_n 0, 1)), (85, (.getfield 24, 3)), (88, (.iload_n 1, 1)), (89, (.dup2, 1)), (90, (.iaload, 1)), (91, (.iload 7, 2)), (93, (.ior, 1)), (94, (.iastore, 1)), (95, (.aload_n 0, 1)), (96, (.iload 7, 2)), (98, (.iconst 0, 1))]
theorem DX0_huntersLevel_0_all : ∀ q ∈ LX0_huntersLevel_0, decode cX0_huntersLevel q.1 = .ok q.2 := by decide +kernel
theorem DX0_huntersLevel_0 (k : Nat) {pc : Nat} {q : Instr × Nat} (h : LX0_huntersLevel_0[k]? = some (pc, q)) : decode cX0_huntersLevel pc = .ok q := DX0_huntersLevel_0_all (pc, q) (List.mem_of_getElem? h)
def LX0_huntersLevel_1 : List (Nat × (Instr × Nat)) := [(99, (.iload_n 1, 1)), (100, (.iload_n 2, 1)), (101, (.invokevirtual 87, 3)), (104, (.iload 7, 2)), (106, (.ireturn, 1))]
theorem DX0_huntersLevel_1_all : ∀ q ∈ LX0_huntersLevel_1, decode cX0_huntersLevel q.1 = .ok q.2 := by decide +kernel
theorem DX0_huntersLevel_1 (k : Nat) {pc : Nat} {q : Instr × Nat} (h : LX0_huntersLevel_1[k]? = some (pc, q)) : decode cX0_huntersLevel pc = .ok q := DX0_huntersLevel_1_all (pc, q) (List.mem_of_getElem? h)
def LX0_reachedBy : List (Nat × (Instr × Nat)) := [(0, (.aload_n 0, 1)), (1, (.getfield 9, 3)), (4, (.iload_n 1, 1)), (5, (.aload_n 0, 1)), (6, (.getfield 55, 3)), (9, (.invokevirtual 83, 3)), (12, (.aload_n 0, 1)), (13, (.getfield 44, 3)), (16, (.iand, 1)), (17, (.iconst 1, 1)), (18, (.iload_n 2, 1)), (19, (.ishl, 1)), (20, (.iconst (-1), 1)), (21, (.ixor, 1)), (22, (.iand, 1)), (23, (.istore_n 3, 1)), (24, (.iload_n 3, 1)), (25, (.istore 4, 2)), (27, (.iconst 0, 1)), (28, (.istore 5, 2)), (30, (.iload 5, 2)), (32, (.bipush 16, 2)), (34, (.if_icmp .ge 38, 3)), (37, (.iload_n 3, 1)), (38, (.iload 5, 2)), (40, (.ishr, 1)), (41, (.iconst 1, 1)), (42, (.iand, 1)), (43, (.ifCond .eq 23, 3)), (46, (.iload 4, 2)), (48, (.aload_n 0, 1)), (49, (.getfield 21, 3)), (52, (.aload_n 0, 1)), (53, (.getfield 9, 3)), (56, (.iload 5, 2)), (58, (.iload_n 2, 1)), (59, (.invokevirtual 100, 3)), (62, (.iaload, 1)), (63, (.ior, 1)), (64, (.istore 4, 2)), (66, (.iinc 5 1, 3)), (69, (.goto (-39), 3)), (72, (.iload 4, 2)), (74, (.ireturn, 1))]
theorem DX0_reachedBy_all : ∀ q ∈ LX0_reachedBy, decode cX0_reachedBy q.1 = .ok q.2 := by decide +kernel
theorem DX0_reachedBy (k : Nat) {pc : Nat} {q : Instr × Nat} (h : LX0_reachedBy[k]? = some (pc, q)) : decode cX0_reachedBy pc = .ok q := DX0_reachedBy_all (pc, q) (List.mem_of_getElem? h)
def LX0_keep : List (Nat × (Instr × Nat)) := [(0, (.iload_n 1, 1)), (1, (.ifCond .ne 4, 3)), (4, (.return_, 1)), (5, (.iconst 0, 1)), (6, (.istore 5, 2)), (8, (.iload 5, 2)), (10, (.bipush 16, 2)), (12, (.if_icmp .ge 43, 3)), (15, (.iload_n 1, 1)), (16, (.iload 5, 2)), (18, (.ishr, 1)), (19, (.iconst 1, 1)), (20, (.iand, 1)), (21, (.ifCond .eq 28, 3)), (24, (.aload_n 0, 1)), (25, (.getfield 17, 3)), (28, (.sipush 2048, 3)), (31, (.iload_n 2, 1)), (32, (.imul, 1)), (33, (.sipush 128, 3)), (36, (.iload 5, 2)), (38, (.imul, 1)), (39, (.iadd, 1)), (40, (.iload_n 3, 1)), (41, (.iadd, 1)), (42, (.sipush 4095, 3)), (45, (.iand, 1)), (46, (.iload 4, 2)), (48, (.iastore, 1)), (49, (.iinc 5 1, 3)), (52, (.goto (-44), 3)), (55, (.return_, 1))]
theorem DX0_keep_all : ∀ q ∈ LX0_keep, decode cX0_keep q.1 = .ok q.2 := by decide +kernel
theorem DX0_keep (k : Nat) {pc : Nat} {q : Instr × Nat} (h : LX0_keep[k]? = some (pc, q)) : decode cX0_keep pc = .ok q := DX0_keep_all (pc, q) (List.mem_of_getElem? h)
def LX1_init : List (Nat × (Instr × Nat)) := [(0, (.aload_n 0, 1)), (1, (.invokespecial 1, 3)), (4, (.aload_n 0, 1)), (5, (.aload_n 1, 1)), (6, (.putfield 7, 3)), (9, (.aload_n 0, 1)), (10, (.bipush 8, 2)), (12, (.newarray .int, 2)), (14, (.putfield 15, 3)), (17, (.aload_n 0, 1)), (18, (.iconst (-1), 1)), (19, (.putfield 19, 3)), (22, (.return_, 1))]
theorem DX1_init_all : ∀ q ∈ LX1_init, decode cX1_init q.1 = .ok q.2 := by decide +kernel
theorem DX1_init (k : Nat) {pc : Nat} {q : Instr × Nat} (h : LX1_init[k]? = some (pc, q)) : decode cX1_init pc = .ok q := DX1_init_all (pc, q) (List.mem_of_getElem? h)
def LX1_prepare : List (Nat × (Instr × Nat)) := [(0, (.aload_n 0, 1)), (1, (.getfield 19, 3)), (4, (.iload_n 1, 1)), (5, (.if_icmp .ne 4, 3)), (8, (.return_, 1)), (9, (.aload_n 0, 1)), (10, (.iload_n 1, 1)), (11, (.putfield 19, 3)), (14, (.aload_n 0, 1)), (15, (.iconst 0, 1)), (16, (.putfield 23, 3)), (19, (.iconst 1, 1)), (20, (.istore_n 2, 1)), (21, (.iload_n 2, 1)), (22, (.bipush 8, 2)), (24, (.if_icmp .ge 42, 3)), (27, (.aload_n 0, 1)), (28, (.iload_n 2, 1)), (29, (.iload_n 1, 1)), (30, (.invokevirtual 26, 3)), (33, (.iload_n 1, 1)), (34, (.if_icmp .ne 26, 3)), (37, (.aload_n 0, 1)), (38, (.getfield 15, 3)), (41, (.aload_n 0, 1)), (42, (.getfield 23, 3)), (45, (.bipush 7, 2)), (47, (.iand, 1)), (48, (.iload_n 2, 1)), (49, (.iastore, 1)), (50, (.aload_n 0, 1)), (51, (.dup, 1)), (52, (.getfield 23, 3)), (55, (.iconst 1, 1)), (56, (.iadd, 1)), (57, (.putfield 23, 3)), (60, (.iinc 2 1, 3)), (63, (.goto (-42), 3)), (66, (.return_, 1))]
theorem DX1_prepare_all : ∀ q ∈ LX1_prepare, decode cX1_prepare q.1 = .ok q.2 := by decide +kernel
theorem DX1_prepare (k : Nat) {pc : Nat} {q : Instr × Nat} (h : LX1_prepare[k]? = some (pc, q)) : decode cX1_prepare pc = .ok q := DX1_prepare_all (pc, q) (List.mem_of_getElem? h)
def LX1_imageOf : List (Nat × (Instr × Nat)) := [(0, (.iconst 0, 1)), (1, (.istore_n 3, 1)), (2, (.iconst 0, 1)), (3, (.istore 4, 2)), (5, (.iload 4, 2)), (7, (.bipush 16, 2)), (9, (.if_icmp .ge 33, 3)), (12, (.iload_n 2, 1)), (13, (.iload 4, 2)), (15, (.ishr, 1)), (16, (.iconst 1, 1)), (17, (.iand, 1)), (18, (.ifCond .eq 18, 3)), (21, (.iload_n 3, 1)), (22, (.iconst 1, 1)), (23, (.aload_n 0, 1)), (24, (.getfield 7, 3)), (27, (.iload_n 1, 1)), (28, (.iload 4, 2)), (30, (.invokevirtual 30, 3)), (33, (.ishl, 1)), (34, (.ior, 1)), (35, (.istore_n 3, 1)), (36, (.iinc 4 1, 3)), (39, (.goto (-34), 3)), (42, (.iload_n 3, 1)), (43, (.ireturn, 1))]
theorem DX1_imageOf_all : ∀ q ∈ LX1_imageOf, decode cX1_imageOf q.1 = .ok q.2 := by decide +kernel
theorem DX1_imageOf (k : Nat) {pc : Nat} {q : Instr × Nat} (h : LX1_imageOf[k]? = some (pc, q)) : decode cX1_imageOf pc = .ok q := DX1_imageOf_all (pc, q) (List.mem_of_getElem? h)
def LX1_symmetries : List (Nat × (Instr × Nat)) := [(0, (.aload_n 0, 1)), (1, (.getfield 23, 3)), (4, (.iconst 1, 1)), (5, (.iadd, 1)), (6, (.ireturn, 1))]
theorem DX1_symmetries_all : ∀ q ∈ LX1_symmetries, decode cX1_symmetries q.1 = .ok q.2 := by decide +kernel
theorem DX1_symmetries (k : Nat) {pc : Nat} {q : Instr × Nat} (h : LX1_symmetries[k]? = some (pc, q)) : decode cX1_symmetries pc = .ok q := DX1_symmetries_all (pc, q) (List.mem_of_getElem? h)
def LX1_imageOfNumber : List (Nat × (Instr × Nat)) := [(0, (.iload_n 2, 1)), (1, (.invokestatic 33, 3)), (4, (.istore_n 3, 1)), (5, (.aload_n 0, 1)), (6, (.getfield 7, 3)), (9, (.iload_n 1, 1)), (10, (.iload_n 2, 1)), (11, (.invokestatic 37, 3)), (14, (.invokevirtual 30, 3)), (17, (.istore 4, 2)), (19, (.aload_n 0, 1)), (20, (.getfield 7, 3)), (23, (.iload_n 1, 1)), (24, (.aload_n 0, 1)), (25, (.getfield 7, 3)), (28, (.iload_n 3, 1)), (29, (.invokevirtual 40, 3)), (32, (.invokevirtual 30, 3)), (35, (.istore 5, 2)), (37, (.aload_n 0, 1)), (38, (.getfield 7, 3)), (41, (.iload_n 1, 1)), (42, (.aload_n 0, 1)), (43, (.getfield 7, 3)), (46, (.iload_n 3, 1)), (47, (.invokevirtual 43, 3)), (50, (.invokevirtual 30, 3)), (53, (.istore 6, 2)), (55, (.aload_n 0, 1)), (56, (.getfield 7, 3)), (59, (.iload_n 2, 1)), (60, (.invokestatic 46, 3)), (63, (.iload 4, 2)), (65, (.iload 5, 2)), (67, (.iload 6, 2)), (69, (.invokevirtual 49, 3)), (72, (.ireturn, 1))]
theorem DX1_imageOfNumber_all : ∀ q ∈ LX1_imageOfNumber, decode cX1_imageOfNumber q.1 = .ok q.2 := by decide +kernel
theorem DX1_imageOfNumber (k : Nat) {pc : Nat} {q : Instr × Nat} (h : LX1_imageOfNumber[k]? = some (pc, q)) : decode cX1_imageOfNumber pc = .ok q := DX1_imageOfNumber_all (pc, q) (List.mem_of_getElem? h)
def LX1_lowestAlike : List (Nat × (Instr × Nat)) := [(0, (.iload_n 1, 1)), (1, (.istore_n 2, 1)), (2, (.iconst 0, 1)), (3, (.istore_n 3, 1)), (4, (.iload_n 3, 1)), (5, (.aload_n 0, 1)), (6, (.getfield 23, 3)), (9, (.if_icmp .ge 34, 3)), (12, (.iload_n 3, 1)), (13, (.aload_n 0, 1)), (14, (.getfield 15, 3)), (17, (.arraylength, 1)), (18, (.if_icmp .ge 25, 3)), (21, (.iload_n 2, 1)), (22, (.aload_n 0, 1)), (23, (.aload_n 0, 1)), (24, (.getfield 15, 3)), (27, (.iload_n 3, 1)), (28, (.iaload, 1)), (29, (.iload_n 1, 1)), (30, (.invokevirtual 53, 3)), (33, (.invokestatic 56, 3)), (36, (.istore_n 2, 1)), (37, (.iinc 3 1, 3)), (40, (.goto (-36), 3)), (43, (.iload_n 2, 1)), (44, (.ireturn, 1))]
theorem DX1_lowestAlike_all : ∀ q ∈ LX1_lowestAlike, decode cX1_lowestAlike q.1 = .ok q.2 := by decide +kernel
theorem DX1_lowestAlike (k : Nat) {pc : Nat} {q : Instr × Nat} (h : LX1_lowestAlike[k]? = some (pc, q)) : decode cX1_lowestAlike pc = .ok q := DX1_lowestAlike_all (pc, q) (List.mem_of_getElem? h)
def LX1_standsForItself : List (Nat × (Instr × Nat)) := [(0, (.iconst 0, 1)), (1, (.istore_n 2, 1)), (2, (.iload_n 2, 1)), (3, (.aload_n 0, 1)), (4, (.getfield 23, 3)), (7, (.if_icmp .ge 35, 3)), (10, (.iload_n 2, 1)), (11, (.aload_n 0, 1)), (12, (.getfield 15, 3)), (15, (.arraylength, 1)), (16, (.if_icmp .ge 26, 3)), (19, (.aload_n 0, 1)), (20, (.aload_n 0, 1)), (21, (.getfield 15, 3)), (24, (.iload_n 2, 1)), (25, (.iaload, 1)), (26, (.iload_n 1, 1)), (27, (.invokevirtual 53, 3)), (30, (.iload_n 1, 1)), (31, (.if_icmp .ge 5, 3)), (34, (.iconst 0, 1)), (35, (.ireturn, 1)), (36, (.iinc 2 1, 3)), (39, (.goto (-37), 3)), (42, (.iconst 1, 1)), (43, (.ireturn, 1))]
theorem DX1_standsForItself_all : ∀ q ∈ LX1_standsForItself, decode cX1_standsForItself q.1 = .ok q.2 := by decide +kernel
theorem DX1_standsForItself (k : Nat) {pc : Nat} {q : Instr × Nat} (h : LX1_standsForItself[k]? = some (pc, q)) : decode cX1_standsForItself pc = .ok q := DX1_standsForItself_all (pc, q) (List.mem_of_getElem? h)
def LX1_alike : List (Nat × (Instr × Nat)) := [(0, (.iconst 1, 1)), (1, (.istore_n 2, 1)), (2, (.iconst 0, 1)), (3, (.istore_n 3, 1)), (4, (.iload_n 3, 1)), (5, (.aload_n 0, 1)), (6, (.getfield 23, 3)), (9, (.if_icmp .ge 36, 3)), (12, (.iload_n 3, 1)), (13, (.aload_n 0, 1)), (14, (.getfield 15, 3)), (17, (.arraylength, 1)), (18, (.if_icmp .ge 27, 3)), (21, (.aload_n 0, 1)), (22, (.aload_n 0, 1)), (23, (.getfield 15, 3)), (26, (.iload_n 3, 1)), (27, (.iaload, 1)), (28, (.iload_n 1, 1)), (29, (.invokevirtual 53, 3)), (32, (.iload_n 1, 1)), (33, (.if_icmp .ne 6, 3)), (36, (.iinc 2 1, 3)), (39, (.iinc 3 1, 3)), (42, (.goto (-38), 3)), (45, (.iload_n 2, 1)), (46, (.ifCond .le 12, 3)), (49, (.aload_n 0, 1)), (50, (.invokevirtual 61, 3)), (53, (.iload_n 2, 1)), (54, (.idiv, 1)), (55, (.goto 4, 3)), (58, (.iconst 1, 1)), (59, (.ireturn, 1))]
theorem DX1_alike_all : ∀ q ∈ LX1_alike, decode cX1_alike q.1 = .ok q.2 := by decide +kernel
theorem DX1_alike (k : Nat) {pc : Nat} {q : Instr × Nat} (h : LX1_alike[k]? = some (pc, q)) : decode cX1_alike pc = .ok q := DX1_alike_all (pc, q) (List.mem_of_getElem? h)
def LX2_init : List (Nat × (Instr × Nat)) := [(0, (.aload_n 0, 1)), (1, (.invokespecial 3, 3)), (4, (.aload_n 0, 1)), (5, (.aload_n 1, 1)), (6, (.putfield 9, 3)), (9, (.aload_n 0, 1)), (10, (.aload_n 2, 1)), (11, (.putfield 15, 3)), (14, (.return_, 1))]
theorem DX2_init_all : ∀ q ∈ LX2_init, decode cX2_init q.1 = .ok q.2 := by decide +kernel
theorem DX2_init (k : Nat) {pc : Nat} {q : Instr × Nat} (h : LX2_init[k]? = some (pc, q)) : decode cX2_init pc = .ok q := DX2_init_all (pc, q) (List.mem_of_getElem? h)
def LX2_fromOf : List (Nat × (Instr × Nat)) := [(0, (.iload_n 0, 1)), (1, (.ifCond .ge 8, 3)), (4, (.bipush (-6), 2)), (6, (.goto 7, 3)), (9, (.iload_n 0, 1)), (10, (.bipush 16, 2)), (12, (.idiv, 1)), (13, (.ireturn, 1))]
theorem DX2_fromOf_all : ∀ q ∈ LX2_fromOf, decode cX2_fromOf q.1 = .ok q.2 := by decide +kernel
theorem DX2_fromOf (k : Nat) {pc : Nat} {q : Instr × Nat} (h : LX2_fromOf[k]? = some (pc, q)) : decode cX2_fromOf pc = .ok q := DX2_fromOf_all (pc, q) (List.mem_of_getElem? h)
def LX2_toOf : List (Nat × (Instr × Nat)) := [(0, (.iload_n 0, 1)), (1, (.ifCond .ge 8, 3)), (4, (.bipush (-6), 2)), (6, (.goto 7, 3)), (9, (.iload_n 0, 1)), (10, (.bipush 16, 2)), (12, (.irem, 1)), (13, (.ireturn, 1))]
theorem DX2_toOf_all : ∀ q ∈ LX2_toOf, decode cX2_toOf q.1 = .ok q.2 := by decide +kernel
theorem DX2_toOf (k : Nat) {pc : Nat} {q : Instr × Nat} (h : LX2_toOf[k]? = some (pc, q)) : decode cX2_toOf pc = .ok q := DX2_toOf_all (pc, q) (List.mem_of_getElem? h)
def LX2_caught : List (Nat × (Instr × Nat)) := [(0, (.aload_n 1, 1)), (1, (.invokevirtual 21, 3)), (4, (.ifCond .ne 19, 3)), (7, (.aload_n 1, 1)), (8, (.getfield 27, 3)), (11, (.iconst 1, 1)), (12, (.if_icmp .ne 15, 3)), (15, (.aload_n 0, 1)), (16, (.aload_n 1, 1)), (17, (.invokevirtual 31, 3)), (20, (.ifCond .ne 7, 3)), (23, (.iconst 1, 1)), (24, (.goto 4, 3)), (27, (.iconst 0, 1)), (28, (.ireturn, 1))]
theorem DX2_caught_all : ∀ q ∈ LX2_caught, decode cX2_caught q.1 = .ok q.2 := by decide +kernel
theorem DX2_caught (k : Nat) {pc : Nat} {q : Instr × Nat} (h : LX2_caught[k]? = some (pc, q)) : decode cX2_caught pc = .ok q := DX2_caught_all (pc, q) (List.mem_of_getElem? h)
def LX2_foxSteps : List (Nat × (Instr × Nat)) := [(0, (.aload_n 0, 1)), (1, (.getfield 9, 3)), (4, (.aload_n 1, 1)), (5, (.getfield 35, 3)), (8, (.aload_n 1, 1)), (9, (.iconst 0, 1)), (10, (.invokevirtual 38, 3)), (13, (.iconst 1, 1)), (14, (.if_icmp .ne 7, 3)), (17, (.iconst 1, 1)), (18, (.goto 4, 3)), (21, (.iconst 0, 1)), (22, (.invokevirtual 42, 3)), (25, (.aload_n 1, 1)), (26, (.getfield 46, 3)), (29, (.iconst (-1), 1)), (30, (.ixor, 1)), (31, (.iand, 1)), (32, (.aload_n 1, 1)), (33, (.invokevirtual 49, 3)), (36, (.iconst (-1), 1)), (37, (.ixor, 1)), (38, (.iand, 1)), (39, (.ireturn, 1))]
theorem DX2_foxSteps_all : ∀ q ∈ LX2_foxSteps, decode cX2_foxSteps q.1 = .ok q.2 := by decide +kernel
theorem DX2_foxSteps (k : Nat) {pc : Nat} {q : Instr × Nat} (h : LX2_foxSteps[k]? = some (pc, q)) : decode cX2_foxSteps pc = .ok q := DX2_foxSteps_all (pc, q) (List.mem_of_getElem? h)
def LX2_hunterSteps : List (Nat × (Instr × Nat)) := [(0, (.aload_n 0, 1)), (1, (.getfield 9, 3)), (4, (.iload_n 2, 1)), (5, (.aload_n 1, 1)), (6, (.iconst 1, 1)), (7, (.invokevirtual 38, 3)), (10, (.iconst 1, 1)), (11, (.if_icmp .ne 7, 3)), (14, (.iconst 1, 1)), (15, (.goto 4, 3)), (18, (.iconst 0, 1)), (19, (.invokevirtual 42, 3)), (22, (.aload_n 1, 1)), (23, (.getfield 46, 3)), (26, (.iconst (-1), 1)), (27, (.ixor, 1)), (28, (.iand, 1)), (29, (.aload_n 1, 1)), (30, (.invokevirtual 49, 3)), (33, (.iconst (-1), 1)), (34, (.ixor, 1)), (35, (.iand, 1)), (36, (.ireturn, 1))]
theorem DX2_hunterSteps_all : ∀ q ∈ LX2_hunterSteps, decode cX2_hunterSteps q.1 = .ok q.2 := by decide +kernel
theorem DX2_hunterSteps (k : Nat) {pc : Nat} {q : Instr × Nat} (h : LX2_hunterSteps[k]? = some (pc, q)) : decode cX2_hunterSteps pc = .ok q := DX2_hunterSteps_all (pc, q) (List.mem_of_getElem? h)
def LX2_allows_0 : List (Nat × (Instr × Nat)) := [(0, (.aload_n 0, 1)), (1, (.aload_n 1, 1)), (2, (.invokevirtual 53, 3)), (5, (.ifCond .eq 5, 3)), (8, (.iconst 0, 1)), (9, (.ireturn, 1)), (10, (.aload_n 1, 1)), (11, (.getfield 27, 3)), (14, (.iconst 1, 1)), (15, (.if_icmp .ne 29, 3)), (18, (.iload_n 2, 1)), (19, (.aload_n 1, 1)), (20, (.getfield 35, 3)), (23, (.if_icmp .ne 19, 3)), (26, (.aload_n 0, 1)), (27, (.aload_n 1, 1)), (28, (.invokevirtual 31, 3)), (31, (.iload_n 3, 1)), (32, (.ishr, 1)), (33, (.iconst 1, 1)), (34, (.iand, 1)), (35, (.ifCond .eq 7, 3)), (38, (.iconst 1, 1)), (39, (.goto 4, 3)), (42, (.iconst 0, 1)), (43, (.ireturn, 1)), (44, (.iload_n 2, 1)), (45, (.aload_n 1, 1)), (46, (.getfield 57, 3)), (49, (.if_icmp .eq 13, 3)), (52, (.iload_n 2, 1)), (53, (.aload_n 1, 1)), (54, (.getfield 60, 3)), (57, (.if_icmp .eq 5, 3)), (60, (.iconst 0, 1)), (61, (.ireturn, 1)), (62, (.iload_n 2, 1)), (63, (.iload_n 3, 1)), (64, (.if_icmp .ne 18, 3)), (67, (.aload_n 1, 1)), (68, (.iconst 2, 1)), (69, (.invokevirtual 38, 3)), (72, (.iconst 1, 1)), (73, (.if_icmp .ne 7, 3)), (76, (.iconst 1, 1)), (77, (.goto 4, 3)), (80, (.iconst 0, 1)), (81, (.ireturn, 1)), (82, (.aload_n 0, 1)), (83, (.aload_n 1, 1)), (84, (.iload_n 2, 1)), (85, (.invokevirtual 63, 3)), (88, (.iload_n 3, 1)), (89, (.ishr, 1)), (90, (.iconst 1, 1)), (91, (.iand, 1)), (92, (.ifCond .eq 7, 3)), (95, (.iconst 1, 1)), (96, (.goto 4, 3)), (99, (.iconst 0, 1))]
theorem DX2_allows_0_all : ∀ q ∈ LX2_allows_0, decode cX2_allows q.1 = .ok q.2 := by decide +kernel
theorem DX2_allows_0 (k : Nat) {pc : Nat} {q : Instr × Nat} (h : LX2_allows_0[k]? = some (pc, q)) : decode cX2_allows pc = .ok q := DX2_allows_0_all (pc, q) (List.mem_of_getElem? h)
def LX2_allows_1 : List (Nat × (Instr × Nat)) := [(100, (.ireturn, 1))]
theorem DX2_allows_1_all : ∀ q ∈ LX2_allows_1, decode cX2_allows q.1 = .ok q.2 := by decide +kernel
theorem DX2_allows_1 (k : Nat) {pc : Nat} {q : Instr × Nat} (h : LX2_allows_1[k]? = some (pc, q)) : decode cX2_allows pc = .ok q := DX2_allows_1_all (pc, q) (List.mem_of_getElem? h)
def LX2_make : List (Nat × (Instr × Nat)) := [(0, (.aload_n 1, 1)), (1, (.getfield 27, 3)), (4, (.iconst 1, 1)), (5, (.if_icmp .ne 20, 3)), (8, (.aload_n 1, 1)), (9, (.iconst 0, 1)), (10, (.iload_n 3, 1)), (11, (.aload_n 1, 1)), (12, (.getfield 57, 3)), (15, (.aload_n 1, 1)), (16, (.getfield 60, 3)), (19, (.invokevirtual 67, 3)), (22, (.goto 36, 3)), (25, (.iload_n 2, 1)), (26, (.aload_n 1, 1)), (27, (.getfield 57, 3)), (30, (.if_icmp .ne 10, 3)), (33, (.aload_n 1, 1)), (34, (.getfield 60, 3)), (37, (.goto 7, 3)), (40, (.aload_n 1, 1)), (41, (.getfield 57, 3)), (44, (.istore 4, 2)), (46, (.aload_n 1, 1)), (47, (.iconst 1, 1)), (48, (.aload_n 1, 1)), (49, (.getfield 35, 3)), (52, (.iload_n 3, 1)), (53, (.iload 4, 2)), (55, (.invokevirtual 67, 3)), (58, (.return_, 1))]
theorem DX2_make_all : ∀ q ∈ LX2_make, decode cX2_make q.1 = .ok q.2 := by decide +kernel
theorem DX2_make (k : Nat) {pc : Nat} {q : Instr × Nat} (h : LX2_make[k]? = some (pc, q)) : decode cX2_make pc = .ok q := DX2_make_all (pc, q) (List.mem_of_getElem? h)
def LX2_bestMove : List (Nat × (Instr × Nat)) := [(0, (.aload_n 0, 1)), (1, (.aload_n 1, 1)), (2, (.invokevirtual 53, 3)), (5, (.ifCond .eq 6, 3)), (8, (.bipush (-6), 2)), (10, (.ireturn, 1)), (11, (.aload_n 0, 1)), (12, (.getfield 15, 3)), (15, (.aload_n 1, 1)), (16, (.invokevirtual 71, 3)), (19, (.aload_n 1, 1)), (20, (.getfield 27, 3)), (23, (.iconst 1, 1)), (24, (.if_icmp .ne 11, 3)), (27, (.aload_n 0, 1)), (28, (.aload_n 1, 1)), (29, (.invokevirtual 77, 3)), (32, (.goto 8, 3)), (35, (.aload_n 0, 1)), (36, (.aload_n 1, 1)), (37, (.invokevirtual 80, 3)), (40, (.ireturn, 1))]
theorem DX2_bestMove_all : ∀ q ∈ LX2_bestMove, decode cX2_bestMove q.1 = .ok q.2 := by decide +kernel
theorem DX2_bestMove (k : Nat) {pc : Nat} {q : Instr × Nat} (h : LX2_bestMove[k]? = some (pc, q)) : decode cX2_bestMove pc = .ok q := DX2_bestMove_all (pc, q) (List.mem_of_getElem? h)
def LX2_bestOfFox : List (Nat × (Instr × Nat)) := [(0, (.aload_n 0, 1)), (1, (.aload_n 1, 1)), (2, (.invokevirtual 31, 3)), (5, (.istore_n 2, 1)), (6, (.bipush (-6), 2)), (8, (.istore_n 3, 1)), (9, (.iconst (-1), 1)), (10, (.istore 4, 2)), (12, (.iconst 0, 1)), (13, (.istore 5, 2)), (15, (.iload 5, 2)), (17, (.bipush 16, 2)), (19, (.if_icmp .ge 57, 3)), (22, (.iload_n 2, 1)), (23, (.iload 5, 2)), (25, (.ishr, 1)), (26, (.iconst 1, 1)), (27, (.iand, 1)), (28, (.ifCond .eq 42, 3)), (31, (.aload_n 0, 1)), (32, (.iconst 0, 1)), (33, (.iload 5, 2)), (35, (.aload_n 1, 1)), (36, (.getfield 57, 3)), (39, (.aload_n 1, 1)), (40, (.getfield 60, 3)), (43, (.invokevirtual 83, 3)), (46, (.istore 6, 2)), (48, (.iload 6, 2)), (50, (.iload 4, 2)), (52, (.if_icmp .le 18, 3)), (55, (.iload 6, 2)), (57, (.istore 4, 2)), (59, (.bipush 16, 2)), (61, (.aload_n 1, 1)), (62, (.getfield 35, 3)), (65, (.imul, 1)), (66, (.iload 5, 2)), (68, (.iadd, 1)), (69, (.istore_n 3, 1)), (70, (.iinc 5 1, 3)), (73, (.goto (-58), 3)), (76, (.iload_n 3, 1)), (77, (.ireturn, 1))]
theorem DX2_bestOfFox_all : ∀ q ∈ LX2_bestOfFox, decode cX2_bestOfFox q.1 = .ok q.2 := by decide +kernel
theorem DX2_bestOfFox (k : Nat) {pc : Nat} {q : Instr × Nat} (h : LX2_bestOfFox[k]? = some (pc, q)) : decode cX2_bestOfFox pc = .ok q := DX2_bestOfFox_all (pc, q) (List.mem_of_getElem? h)
def LX2_bestOfHunters_0 : List (Nat × (Instr × Nat)) := [(0, (.bipush (-6), 2)), (2, (.istore_n 2, 1)), (3, (.ldc 87, 2)), (5, (.istore_n 3, 1)), (6, (.iconst 0, 1)), (7, (.istore 4, 2)), (9, (.iload 4, 2)), (11, (.iconst 2, 1)), (12, (.if_icmp .ge 94, 3)), (15, (.iload 4, 2)), (17, (.ifCond .ne 10, 3)), (20, (.aload_n 1, 1)), (21, (.getfield 57, 3)), (24, (.goto 7, 3)), (27, (.aload_n 1, 1)), (28, (.getfield 60, 3)), (31, (.istore 5, 2)), (33, (.aload_n 0, 1)), (34, (.aload_n 1, 1)), (35, (.iload 5, 2)), (37, (.invokevirtual 63, 3)), (40, (.istore 6, 2)), (42, (.iconst 0, 1)), (43, (.istore 7, 2)), (45, (.iload 7, 2)), (47, (.bipush 16, 2)), (49, (.if_icmp .ge 51, 3)), (52, (.iload 6, 2)), (54, (.iload 7, 2)), (56, (.ishr, 1)), (57, (.iconst 1, 1)), (58, (.iand, 1)), (59, (.ifCond .eq 35, 3)), (62, (.aload_n 0, 1)), (63, (.aload_n 1, 1)), (64, (.iload 5, 2)), (66, (.iload 7, 2)), (68, (.invokevirtual 88, 3)), (71, (.iload_n 3, 1)), (72, (.if_icmp .ge 22, 3)), (75, (.aload_n 0, 1)), (76, (.aload_n 1, 1)), (77, (.iload 5, 2)), (79, (.iload 7, 2)), (81, (.invokevirtual 88, 3)), (84, (.istore_n 3, 1)), (85, (.bipush 16, 2)), (87, (.iload 5, 2)), (89, (.imul, 1)), (90, (.iload 7, 2)), (92, (.iadd, 1)), (93, (.istore_n 2, 1)), (94, (.iinc 7 1, 3)), (97, (.goto (-52), 3)), (100, (.iinc 4 1, 3)), (103, (.goto (-94), 3)), (106, (.aload_n 1, 1)), (107, (.iconst 2, 1)), (108, (.invokevirtual 38, 3)), (111, (.iconst 1, 1))]
theorem DX2_bestOfHunters_0_all : ∀ q ∈ LX2_bestOfHunters_0, decode cX2_bestOfHunters q.1 = .ok q.2 := by decide +kernel
theorem DX2_bestOfHunters_0 (k : Nat) {pc : Nat} {q : Instr × Nat} (h : LX2_bestOfHunters_0[k]? = some (pc, q)) : decode cX2_bestOfHunters pc = .ok q := DX2_bestOfHunters_0_all (pc, q) (List.mem_of_getElem? h)
def LX2_bestOfHunters_1 : List (Nat × (Instr × Nat)) := [(112, (.if_icmp .ne 33, 3)), (115, (.aload_n 0, 1)), (116, (.aload_n 1, 1)), (117, (.aload_n 1, 1)), (118, (.getfield 57, 3)), (121, (.aload_n 1, 1)), (122, (.getfield 57, 3)), (125, (.invokevirtual 88, 3)), (128, (.iload_n 3, 1)), (129, (.if_icmp .ge 16, 3)), (132, (.bipush 16, 2)), (134, (.aload_n 1, 1)), (135, (.getfield 57, 3)), (138, (.imul, 1)), (139, (.aload_n 1, 1)), (140, (.getfield 57, 3)), (143, (.iadd, 1)), (144, (.istore_n 2, 1)), (145, (.iload_n 2, 1)), (146, (.ireturn, 1))]
theorem DX2_bestOfHunters_1_all : ∀ q ∈ LX2_bestOfHunters_1, decode cX2_bestOfHunters q.1 = .ok q.2 := by decide +kernel
theorem DX2_bestOfHunters_1 (k : Nat) {pc : Nat} {q : Instr × Nat} (h : LX2_bestOfHunters_1[k]? = some (pc, q)) : decode cX2_bestOfHunters pc = .ok q := DX2_bestOfHunters_1_all (pc, q) (List.mem_of_getElem? h)
def LX2_worthOf : List (Nat × (Instr × Nat)) := [(0, (.iload_n 2, 1)), (1, (.aload_n 1, 1)), (2, (.getfield 57, 3)), (5, (.if_icmp .ne 10, 3)), (8, (.aload_n 1, 1)), (9, (.getfield 60, 3)), (12, (.goto 7, 3)), (15, (.aload_n 1, 1)), (16, (.getfield 57, 3)), (19, (.istore 4, 2)), (21, (.iload_n 3, 1)), (22, (.aload_n 1, 1)), (23, (.getfield 35, 3)), (26, (.if_icmp .ne 7, 3)), (29, (.iconst (-1), 1)), (30, (.goto 15, 3)), (33, (.aload_n 0, 1)), (34, (.iconst 1, 1)), (35, (.aload_n 1, 1)), (36, (.getfield 35, 3)), (39, (.iload_n 3, 1)), (40, (.iload 4, 2)), (42, (.invokevirtual 83, 3)), (45, (.ireturn, 1))]
theorem DX2_worthOf_all : ∀ q ∈ LX2_worthOf, decode cX2_worthOf q.1 = .ok q.2 := by decide +kernel
theorem DX2_worthOf (k : Nat) {pc : Nat} {q : Instr × Nat} (h : LX2_worthOf[k]? = some (pc, q)) : decode cX2_worthOf pc = .ok q := DX2_worthOf_all (pc, q) (List.mem_of_getElem? h)
def LX2_lengthOf : List (Nat × (Instr × Nat)) := [(0, (.aload_n 0, 1)), (1, (.getfield 15, 3)), (4, (.aload_n 0, 1)), (5, (.getfield 9, 3)), (8, (.iload_n 1, 1)), (9, (.iload_n 2, 1)), (10, (.iload_n 3, 1)), (11, (.iload 4, 2)), (13, (.invokevirtual 92, 3)), (16, (.invokevirtual 95, 3)), (19, (.istore 5, 2)), (21, (.iload 5, 2)), (23, (.bipush (-6), 2)), (25, (.if_icmp .ne 8, 3)), (28, (.ldc 98, 2)), (30, (.goto 5, 3)), (33, (.iload 5, 2)), (35, (.ireturn, 1))]
theorem DX2_lengthOf_all : ∀ q ∈ LX2_lengthOf, decode cX2_lengthOf q.1 = .ok q.2 := by decide +kernel
theorem DX2_lengthOf (k : Nat) {pc : Nat} {q : Instr × Nat} (h : LX2_lengthOf[k]? = some (pc, q)) : decode cX2_lengthOf pc = .ok q := DX2_lengthOf_all (pc, q) (List.mem_of_getElem? h)
def LX3_init : List (Nat × (Instr × Nat)) := [(0, (.aload_n 0, 1)), (1, (.invokespecial 1, 3)), (4, (.aload_n 0, 1)), (5, (.bipush 16, 2)), (7, (.newarray .int, 2)), (9, (.putfield 9, 3)), (12, (.aload_n 0, 1)), (13, (.bipush 16, 2)), (15, (.newarray .int, 2)), (17, (.putfield 13, 3)), (20, (.aload_n 0, 1)), (21, (.sipush 256, 3)), (24, (.newarray .int, 2)), (26, (.putfield 16, 3)), (29, (.aload_n 0, 1)), (30, (.sipush 128, 3)), (33, (.newarray .int, 2)), (35, (.putfield 19, 3)), (38, (.aload_n 0, 1)), (39, (.sipush 128, 3)), (42, (.newarray .int, 2)), (44, (.putfield 22, 3)), (47, (.aload_n 0, 1)), (48, (.sipush 128, 3)), (51, (.newarray .int, 2)), (53, (.putfield 25, 3)), (56, (.aload_n 0, 1)), (57, (.sipush 128, 3)), (60, (.newarray .int, 2)), (62, (.putfield 28, 3)), (65, (.aload_n 0, 1)), (66, (.invokevirtual 31, 3)), (69, (.aload_n 0, 1)), (70, (.invokevirtual 34, 3)), (73, (.aload_n 0, 1)), (74, (.invokevirtual 37, 3)), (77, (.return_, 1))]
theorem DX3_init_all : ∀ q ∈ LX3_init, decode cX3_init q.1 = .ok q.2 := by decide +kernel
theorem DX3_init (k : Nat) {pc : Nat} {q : Instr × Nat} (h : LX3_init[k]? = some (pc, q)) : decode cX3_init pc = .ok q := DX3_init_all (pc, q) (List.mem_of_getElem? h)
def LX3_fillSteps : List (Nat × (Instr × Nat)) := [(0, (.iconst 0, 1)), (1, (.istore_n 1, 1)), (2, (.iload_n 1, 1)), (3, (.bipush 16, 2)), (5, (.if_icmp .ge 84, 3)), (8, (.iconst 0, 1)), (9, (.istore_n 2, 1)), (10, (.iload_n 2, 1)), (11, (.bipush 16, 2)), (13, (.if_icmp .ge 70, 3)), (16, (.iload_n 1, 1)), (17, (.iload_n 2, 1)), (18, (.invokestatic 40, 3)), (21, (.istore_n 3, 1)), (22, (.iload_n 3, 1)), (23, (.iconst 1, 1)), (24, (.if_icmp .ne 18, 3)), (27, (.aload_n 0, 1)), (28, (.getfield 9, 3)), (31, (.iload_n 1, 1)), (32, (.dup2, 1)), (33, (.iaload, 1)), (34, (.iconst 1, 1)), (35, (.iload_n 2, 1)), (36, (.ishl, 1)), (37, (.ior, 1)), (38, (.iastore, 1)), (39, (.goto 38, 3)), (42, (.iload_n 3, 1)), (43, (.iconst 2, 1)), (44, (.if_icmp .ne 33, 3)), (47, (.iload_n 1, 1)), (48, (.iconst 4, 1)), (49, (.idiv, 1)), (50, (.iload_n 2, 1)), (51, (.iconst 4, 1)), (52, (.idiv, 1)), (53, (.if_icmp .eq 24, 3)), (56, (.iload_n 1, 1)), (57, (.iconst 4, 1)), (58, (.irem, 1)), (59, (.iload_n 2, 1)), (60, (.iconst 4, 1)), (61, (.irem, 1)), (62, (.if_icmp .eq 15, 3)), (65, (.aload_n 0, 1)), (66, (.getfield 13, 3)), (69, (.iload_n 1, 1)), (70, (.dup2, 1)), (71, (.iaload, 1)), (72, (.iconst 1, 1)), (73, (.iload_n 2, 1)), (74, (.ishl, 1)), (75, (.ior, 1)), (76, (.iastore, 1)), (77, (.iinc 2 1, 3)), (80, (.goto (-70), 3)), (83, (.iinc 1 1, 3)), (86, (.goto (-84), 3)), (89, (.return_, 1))]
theorem DX3_fillSteps_all : ∀ q ∈ LX3_fillSteps, decode cX3_fillSteps q.1 = .ok q.2 := by decide +kernel
theorem DX3_fillSteps (k : Nat) {pc : Nat} {q : Instr × Nat} (h : LX3_fillSteps[k]? = some (pc, q)) : decode cX3_fillSteps pc = .ok q := DX3_fillSteps_all (pc, q) (List.mem_of_getElem? h)
def LX3_fillPairs_0 : List (Nat × (Instr × Nat)) := [(0, (.iconst 0, 1)), (1, (.istore_n 1, 1)), (2, (.iconst 0, 1)), (3, (.istore_n 2, 1)), (4, (.iload_n 2, 1)), (5, (.bipush 16, 2)), (7, (.if_icmp .ge 88, 3)), (10, (.iload_n 2, 1)), (11, (.iconst 1, 1)), (12, (.iadd, 1)), (13, (.istore_n 3, 1)), (14, (.iload_n 3, 1)), (15, (.bipush 16, 2)), (17, (.if_icmp .ge 72, 3)), (20, (.aload_n 0, 1)), (21, (.getfield 16, 3)), (24, (.iload_n 2, 1)), (25, (.bipush 16, 2)), (27, (.imul, 1)), (28, (.iload_n 3, 1)), (29, (.iadd, 1)), (30, (.iload_n 1, 1)), (31, (.iastore, 1)), (32, (.aload_n 0, 1)), (33, (.getfield 16, 3)), (36, (.iload_n 3, 1)), (37, (.bipush 16, 2)), (39, (.imul, 1)), (40, (.iload_n 2, 1)), (41, (.iadd, 1)), (42, (.iload_n 1, 1)), (43, (.iastore, 1)), (44, (.aload_n 0, 1)), (45, (.getfield 19, 3)), (48, (.iload_n 1, 1)), (49, (.bipush 127, 2)), (51, (.iand, 1)), (52, (.iload_n 2, 1)), (53, (.iastore, 1)), (54, (.aload_n 0, 1)), (55, (.getfield 22, 3)), (58, (.iload_n 1, 1)), (59, (.bipush 127, 2)), (61, (.iand, 1)), (62, (.iload_n 3, 1)), (63, (.iastore, 1)), (64, (.aload_n 0, 1)), (65, (.getfield 25, 3)), (68, (.iload_n 1, 1)), (69, (.bipush 127, 2)), (71, (.iand, 1)), (72, (.iconst 1, 1)), (73, (.iload_n 2, 1)), (74, (.ishl, 1)), (75, (.iconst 1, 1)), (76, (.iload_n 3, 1)), (77, (.ishl, 1)), (78, (.ior, 1)), (79, (.iastore, 1)), (80, (.iinc 1 1, 3))]
theorem DX3_fillPairs_0_all : ∀ q ∈ LX3_fillPairs_0, decode cX3_fillPairs q.1 = .ok q.2 := by decide +kernel
theorem DX3_fillPairs_0 (k : Nat) {pc : Nat} {q : Instr × Nat} (h : LX3_fillPairs_0[k]? = some (pc, q)) : decode cX3_fillPairs pc = .ok q := DX3_fillPairs_0_all (pc, q) (List.mem_of_getElem? h)
def LX3_fillPairs_1 : List (Nat × (Instr × Nat)) := [(83, (.iinc 3 1, 3)), (86, (.goto (-72), 3)), (89, (.iinc 2 1, 3)), (92, (.goto (-88), 3)), (95, (.return_, 1))]
theorem DX3_fillPairs_1_all : ∀ q ∈ LX3_fillPairs_1, decode cX3_fillPairs q.1 = .ok q.2 := by decide +kernel
theorem DX3_fillPairs_1 (k : Nat) {pc : Nat} {q : Instr × Nat} (h : LX3_fillPairs_1[k]? = some (pc, q)) : decode cX3_fillPairs pc = .ok q := DX3_fillPairs_1_all (pc, q) (List.mem_of_getElem? h)
def LX3_fillImages_0 : List (Nat × (Instr × Nat)) := [(0, (.iconst 0, 1)), (1, (.istore_n 1, 1)), (2, (.iload_n 1, 1)), (3, (.bipush 8, 2)), (5, (.if_icmp .ge 92, 3)), (8, (.iconst 0, 1)), (9, (.istore_n 2, 1)), (10, (.iload_n 2, 1)), (11, (.bipush 16, 2)), (13, (.if_icmp .ge 78, 3)), (16, (.iload_n 1, 1)), (17, (.iconst 1, 1)), (18, (.iand, 1)), (19, (.ifCond .ne 9, 3)), (22, (.iload_n 2, 1)), (23, (.iconst 4, 1)), (24, (.idiv, 1)), (25, (.goto 8, 3)), (28, (.iconst 3, 1)), (29, (.iload_n 2, 1)), (30, (.iconst 4, 1)), (31, (.idiv, 1)), (32, (.isub, 1)), (33, (.istore_n 3, 1)), (34, (.iload_n 1, 1)), (35, (.iconst 2, 1)), (36, (.iand, 1)), (37, (.ifCond .ne 9, 3)), (40, (.iload_n 2, 1)), (41, (.iconst 4, 1)), (42, (.irem, 1)), (43, (.goto 8, 3)), (46, (.iconst 3, 1)), (47, (.iload_n 2, 1)), (48, (.iconst 4, 1)), (49, (.irem, 1)), (50, (.isub, 1)), (51, (.istore 4, 2)), (53, (.aload_n 0, 1)), (54, (.getfield 28, 3)), (57, (.iload_n 1, 1)), (58, (.bipush 16, 2)), (60, (.imul, 1)), (61, (.iload_n 2, 1)), (62, (.iadd, 1)), (63, (.iload_n 1, 1)), (64, (.iconst 4, 1)), (65, (.iand, 1)), (66, (.ifCond .ne 12, 3)), (69, (.iconst 4, 1)), (70, (.iload_n 3, 1)), (71, (.imul, 1)), (72, (.iload 4, 2)), (74, (.iadd, 1)), (75, (.goto 9, 3)), (78, (.iconst 4, 1)), (79, (.iload 4, 2)), (81, (.imul, 1)), (82, (.iload_n 3, 1)), (83, (.iadd, 1))]
theorem DX3_fillImages_0_all : ∀ q ∈ LX3_fillImages_0, decode cX3_fillImages q.1 = .ok q.2 := by decide +kernel
theorem DX3_fillImages_0 (k : Nat) {pc : Nat} {q : Instr × Nat} (h : LX3_fillImages_0[k]? = some (pc, q)) : decode cX3_fillImages pc = .ok q := DX3_fillImages_0_all (pc, q) (List.mem_of_getElem? h)
def LX3_fillImages_1 : List (Nat × (Instr × Nat)) := [(84, (.iastore, 1)), (85, (.iinc 2 1, 3)), (88, (.goto (-78), 3)), (91, (.iinc 1 1, 3)), (94, (.goto (-92), 3)), (97, (.return_, 1))]
theorem DX3_fillImages_1_all : ∀ q ∈ LX3_fillImages_1, decode cX3_fillImages q.1 = .ok q.2 := by decide +kernel
theorem DX3_fillImages_1 (k : Nat) {pc : Nat} {q : Instr × Nat} (h : LX3_fillImages_1[k]? = some (pc, q)) : decode cX3_fillImages pc = .ok q := DX3_fillImages_1_all (pc, q) (List.mem_of_getElem? h)
def LX3_isPlace : List (Nat × (Instr × Nat)) := [(0, (.iload_n 0, 1)), (1, (.ifCond .lt 13, 3)), (4, (.iload_n 0, 1)), (5, (.bipush 16, 2)), (7, (.if_icmp .ge 7, 3)), (10, (.iconst 1, 1)), (11, (.goto 4, 3)), (14, (.iconst 0, 1)), (15, (.ireturn, 1))]
theorem DX3_isPlace_all : ∀ q ∈ LX3_isPlace, decode cX3_isPlace q.1 = .ok q.2 := by decide +kernel
theorem DX3_isPlace (k : Nat) {pc : Nat} {q : Instr × Nat} (h : LX3_isPlace[k]? = some (pc, q)) : decode cX3_isPlace pc = .ok q := DX3_isPlace_all (pc, q) (List.mem_of_getElem? h)
def LX3_lowest : List (Nat × (Instr × Nat)) := [(0, (.iconst 0, 1)), (1, (.istore_n 1, 1)), (2, (.iload_n 1, 1)), (3, (.bipush 16, 2)), (5, (.if_icmp .ge 19, 3)), (8, (.iload_n 0, 1)), (9, (.iload_n 1, 1)), (10, (.ishr, 1)), (11, (.iconst 1, 1)), (12, (.iand, 1)), (13, (.ifCond .eq 5, 3)), (16, (.iload_n 1, 1)), (17, (.ireturn, 1)), (18, (.iinc 1 1, 3)), (21, (.goto (-19), 3)), (24, (.iconst 0, 1)), (25, (.ireturn, 1))]
theorem DX3_lowest_all : ∀ q ∈ LX3_lowest, decode cX3_lowest q.1 = .ok q.2 := by decide +kernel
theorem DX3_lowest (k : Nat) {pc : Nat} {q : Instr × Nat} (h : LX3_lowest[k]? = some (pc, q)) : decode cX3_lowest pc = .ok q := DX3_lowest_all (pc, q) (List.mem_of_getElem? h)
def LX3_highest : List (Nat × (Instr × Nat)) := [(0, (.bipush 15, 2)), (2, (.istore_n 1, 1)), (3, (.iload_n 1, 1)), (4, (.ifCond .le 19, 3)), (7, (.iload_n 0, 1)), (8, (.iload_n 1, 1)), (9, (.ishr, 1)), (10, (.iconst 1, 1)), (11, (.iand, 1)), (12, (.ifCond .eq 5, 3)), (15, (.iload_n 1, 1)), (16, (.ireturn, 1)), (17, (.iinc 1 (-1), 3)), (20, (.goto (-17), 3)), (23, (.iconst 0, 1)), (24, (.ireturn, 1))]
theorem DX3_highest_all : ∀ q ∈ LX3_highest, decode cX3_highest q.1 = .ok q.2 := by decide +kernel
theorem DX3_highest (k : Nat) {pc : Nat} {q : Instr × Nat} (h : LX3_highest[k]? = some (pc, q)) : decode cX3_highest pc = .ok q := DX3_highest_all (pc, q) (List.mem_of_getElem? h)
def LX3_far : List (Nat × (Instr × Nat)) := [(0, (.iload_n 0, 1)), (1, (.iconst 4, 1)), (2, (.idiv, 1)), (3, (.iload_n 1, 1)), (4, (.iconst 4, 1)), (5, (.idiv, 1)), (6, (.isub, 1)), (7, (.invokestatic 44, 3)), (10, (.iload_n 0, 1)), (11, (.iconst 4, 1)), (12, (.irem, 1)), (13, (.iload_n 1, 1)), (14, (.iconst 4, 1)), (15, (.irem, 1)), (16, (.isub, 1)), (17, (.invokestatic 44, 3)), (20, (.iadd, 1)), (21, (.ireturn, 1))]
theorem DX3_far_all : ∀ q ∈ LX3_far, decode cX3_far q.1 = .ok q.2 := by decide +kernel
theorem DX3_far (k : Nat) {pc : Nat} {q : Instr × Nat} (h : LX3_far[k]? = some (pc, q)) : decode cX3_far pc = .ok q := DX3_far_all (pc, q) (List.mem_of_getElem? h)
def LX3_stepsFrom : List (Nat × (Instr × Nat)) := [(0, (.iload_n 1, 1)), (1, (.bipush 15, 2)), (3, (.iand, 1)), (4, (.istore_n 3, 1)), (5, (.iload_n 2, 1)), (6, (.ifCond .eq 19, 3)), (9, (.aload_n 0, 1)), (10, (.getfield 9, 3)), (13, (.iload_n 3, 1)), (14, (.iaload, 1)), (15, (.aload_n 0, 1)), (16, (.getfield 13, 3)), (19, (.iload_n 3, 1)), (20, (.iaload, 1)), (21, (.ior, 1)), (22, (.goto 9, 3)), (25, (.aload_n 0, 1)), (26, (.getfield 9, 3)), (29, (.iload_n 3, 1)), (30, (.iaload, 1)), (31, (.ireturn, 1))]
theorem DX3_stepsFrom_all : ∀ q ∈ LX3_stepsFrom, decode cX3_stepsFrom q.1 = .ok q.2 := by decide +kernel
theorem DX3_stepsFrom (k : Nat) {pc : Nat} {q : Instr × Nat} (h : LX3_stepsFrom[k]? = some (pc, q)) : decode cX3_stepsFrom pc = .ok q := DX3_stepsFrom_all (pc, q) (List.mem_of_getElem? h)
def LX3_pairOf : List (Nat × (Instr × Nat)) := [(0, (.aload_n 0, 1)), (1, (.getfield 16, 3)), (4, (.iload_n 1, 1)), (5, (.bipush 15, 2)), (7, (.iand, 1)), (8, (.bipush 16, 2)), (10, (.imul, 1)), (11, (.iload_n 2, 1)), (12, (.bipush 15, 2)), (14, (.iand, 1)), (15, (.iadd, 1)), (16, (.iaload, 1)), (17, (.ireturn, 1))]
theorem DX3_pairOf_all : ∀ q ∈ LX3_pairOf, decode cX3_pairOf q.1 = .ok q.2 := by decide +kernel
theorem DX3_pairOf (k : Nat) {pc : Nat} {q : Instr × Nat} (h : LX3_pairOf[k]? = some (pc, q)) : decode cX3_pairOf pc = .ok q := DX3_pairOf_all (pc, q) (List.mem_of_getElem? h)
def LX3_lowerOf : List (Nat × (Instr × Nat)) := [(0, (.aload_n 0, 1)), (1, (.getfield 19, 3)), (4, (.iload_n 1, 1)), (5, (.bipush 127, 2)), (7, (.iand, 1)), (8, (.iaload, 1)), (9, (.ireturn, 1))]
theorem DX3_lowerOf_all : ∀ q ∈ LX3_lowerOf, decode cX3_lowerOf q.1 = .ok q.2 := by decide +kernel
theorem DX3_lowerOf (k : Nat) {pc : Nat} {q : Instr × Nat} (h : LX3_lowerOf[k]? = some (pc, q)) : decode cX3_lowerOf pc = .ok q := DX3_lowerOf_all (pc, q) (List.mem_of_getElem? h)
def LX3_higherOf : List (Nat × (Instr × Nat)) := [(0, (.aload_n 0, 1)), (1, (.getfield 22, 3)), (4, (.iload_n 1, 1)), (5, (.bipush 127, 2)), (7, (.iand, 1)), (8, (.iaload, 1)), (9, (.ireturn, 1))]
theorem DX3_higherOf_all : ∀ q ∈ LX3_higherOf, decode cX3_higherOf q.1 = .ok q.2 := by decide +kernel
theorem DX3_higherOf (k : Nat) {pc : Nat} {q : Instr × Nat} (h : LX3_higherOf[k]? = some (pc, q)) : decode cX3_higherOf pc = .ok q := DX3_higherOf_all (pc, q) (List.mem_of_getElem? h)
def LX3_placesOf : List (Nat × (Instr × Nat)) := [(0, (.aload_n 0, 1)), (1, (.getfield 25, 3)), (4, (.iload_n 1, 1)), (5, (.bipush 127, 2)), (7, (.iand, 1)), (8, (.iaload, 1)), (9, (.ireturn, 1))]
theorem DX3_placesOf_all : ∀ q ∈ LX3_placesOf, decode cX3_placesOf q.1 = .ok q.2 := by decide +kernel
theorem DX3_placesOf (k : Nat) {pc : Nat} {q : Instr × Nat} (h : LX3_placesOf[k]? = some (pc, q)) : decode cX3_placesOf pc = .ok q := DX3_placesOf_all (pc, q) (List.mem_of_getElem? h)
def LX3_image : List (Nat × (Instr × Nat)) := [(0, (.aload_n 0, 1)), (1, (.getfield 28, 3)), (4, (.iload_n 1, 1)), (5, (.bipush 7, 2)), (7, (.iand, 1)), (8, (.bipush 16, 2)), (10, (.imul, 1)), (11, (.iload_n 2, 1)), (12, (.bipush 15, 2)), (14, (.iand, 1)), (15, (.iadd, 1)), (16, (.iaload, 1)), (17, (.ireturn, 1))]
theorem DX3_image_all : ∀ q ∈ LX3_image, decode cX3_image q.1 = .ok q.2 := by decide +kernel
theorem DX3_image (k : Nat) {pc : Nat} {q : Instr × Nat} (h : LX3_image[k]? = some (pc, q)) : decode cX3_image pc = .ok q := DX3_image_all (pc, q) (List.mem_of_getElem? h)
def LX3_numberOf : List (Nat × (Instr × Nat)) := [(0, (.sipush 2048, 3)), (3, (.iload_n 1, 1)), (4, (.imul, 1)), (5, (.sipush 128, 3)), (8, (.iload_n 2, 1)), (9, (.imul, 1)), (10, (.iadd, 1)), (11, (.aload_n 0, 1)), (12, (.iload_n 3, 1)), (13, (.iload 4, 2)), (15, (.invokevirtual 50, 3)), (18, (.iadd, 1)), (19, (.ireturn, 1))]
theorem DX3_numberOf_all : ∀ q ∈ LX3_numberOf, decode cX3_numberOf q.1 = .ok q.2 := by decide +kernel
theorem DX3_numberOf (k : Nat) {pc : Nat} {q : Instr × Nat} (h : LX3_numberOf[k]? = some (pc, q)) : decode cX3_numberOf pc = .ok q := DX3_numberOf_all (pc, q) (List.mem_of_getElem? h)
def LX3_whoOf : List (Nat × (Instr × Nat)) := [(0, (.iload_n 0, 1)), (1, (.bipush 11, 2)), (3, (.ishr, 1)), (4, (.iconst 1, 1)), (5, (.iand, 1)), (6, (.ireturn, 1))]
theorem DX3_whoOf_all : ∀ q ∈ LX3_whoOf, decode cX3_whoOf q.1 = .ok q.2 := by decide +kernel
theorem DX3_whoOf (k : Nat) {pc : Nat} {q : Instr × Nat} (h : LX3_whoOf[k]? = some (pc, q)) : decode cX3_whoOf pc = .ok q := DX3_whoOf_all (pc, q) (List.mem_of_getElem? h)
def LX3_foxOf : List (Nat × (Instr × Nat)) := [(0, (.iload_n 0, 1)), (1, (.bipush 7, 2)), (3, (.ishr, 1)), (4, (.bipush 15, 2)), (6, (.iand, 1)), (7, (.ireturn, 1))]
theorem DX3_foxOf_all : ∀ q ∈ LX3_foxOf, decode cX3_foxOf q.1 = .ok q.2 := by decide +kernel
theorem DX3_foxOf (k : Nat) {pc : Nat} {q : Instr × Nat} (h : LX3_foxOf[k]? = some (pc, q)) : decode cX3_foxOf pc = .ok q := DX3_foxOf_all (pc, q) (List.mem_of_getElem? h)
def LX3_pairIn : List (Nat × (Instr × Nat)) := [(0, (.iload_n 0, 1)), (1, (.bipush 127, 2)), (3, (.iand, 1)), (4, (.ireturn, 1))]
theorem DX3_pairIn_all : ∀ q ∈ LX3_pairIn, decode cX3_pairIn q.1 = .ok q.2 := by decide +kernel
theorem DX3_pairIn (k : Nat) {pc : Nat} {q : Instr × Nat} (h : LX3_pairIn[k]? = some (pc, q)) : decode cX3_pairIn pc = .ok q := DX3_pairIn_all (pc, q) (List.mem_of_getElem? h)
def LX3_isPosition : List (Nat × (Instr × Nat)) := [(0, (.iload_n 1, 1)), (1, (.invokestatic 53, 3)), (4, (.istore_n 3, 1)), (5, (.iconst 1, 1)), (6, (.iload_n 1, 1)), (7, (.invokestatic 56, 3)), (10, (.ishl, 1)), (11, (.istore 4, 2)), (13, (.aload_n 0, 1)), (14, (.iload_n 3, 1)), (15, (.invokevirtual 59, 3)), (18, (.istore 5, 2)), (20, (.iload_n 3, 1)), (21, (.bipush 120, 2)), (23, (.if_icmp .ge 25, 3)), (26, (.iload 4, 2)), (28, (.iload 5, 2)), (30, (.iand, 1)), (31, (.ifCond .ne 17, 3)), (34, (.iload 4, 2)), (36, (.iload 5, 2)), (38, (.ior, 1)), (39, (.iload_n 2, 1)), (40, (.iand, 1)), (41, (.ifCond .ne 7, 3)), (44, (.iconst 1, 1)), (45, (.goto 4, 3)), (48, (.iconst 0, 1)), (49, (.ireturn, 1))]
theorem DX3_isPosition_all : ∀ q ∈ LX3_isPosition, decode cX3_isPosition q.1 = .ok q.2 := by decide +kernel
theorem DX3_isPosition (k : Nat) {pc : Nat} {q : Instr × Nat} (h : LX3_isPosition[k]? = some (pc, q)) : decode cX3_isPosition pc = .ok q := DX3_isPosition_all (pc, q) (List.mem_of_getElem? h)
def LX3_keyOf : List (Nat × (Instr × Nat)) := [(0, (.iload_n 1, 1)), (1, (.invokestatic 56, 3)), (4, (.istore_n 2, 1)), (5, (.iload_n 1, 1)), (6, (.invokestatic 53, 3)), (9, (.istore_n 3, 1)), (10, (.iload_n 2, 1)), (11, (.aload_n 0, 1)), (12, (.iload_n 3, 1)), (13, (.invokevirtual 62, 3)), (16, (.invokestatic 40, 3)), (19, (.istore 4, 2)), (21, (.iload_n 2, 1)), (22, (.aload_n 0, 1)), (23, (.iload_n 3, 1)), (24, (.invokevirtual 65, 3)), (27, (.invokestatic 40, 3)), (30, (.istore 5, 2)), (32, (.bipush 49, 2)), (34, (.iload_n 1, 1)), (35, (.invokestatic 68, 3)), (38, (.imul, 1)), (39, (.bipush 7, 2)), (41, (.iload 4, 2)), (43, (.iload 5, 2)), (45, (.invokestatic 71, 3)), (48, (.imul, 1)), (49, (.iadd, 1)), (50, (.iload 4, 2)), (52, (.iload 5, 2)), (54, (.invokestatic 74, 3)), (57, (.iadd, 1)), (58, (.ireturn, 1))]
theorem DX3_keyOf_all : ∀ q ∈ LX3_keyOf, decode cX3_keyOf q.1 = .ok q.2 := by decide +kernel
theorem DX3_keyOf (k : Nat) {pc : Nat} {q : Instr × Nat} (h : LX3_keyOf[k]? = some (pc, q)) : decode cX3_keyOf pc = .ok q := DX3_keyOf_all (pc, q) (List.mem_of_getElem? h)
def LX4_init : List (Nat × (Instr × Nat)) := [(0, (.aload_n 0, 1)), (1, (.invokespecial 1, 3)), (4, (.aload_n 0, 1)), (5, (.bipush 6, 2)), (7, (.anewarray 9, 3)), (10, (.putfield 11, 3)), (13, (.iconst 0, 1)), (14, (.istore_n 1, 1)), (15, (.iload_n 1, 1)), (16, (.bipush 6, 2)), (18, (.if_icmp .ge 22, 3)), (21, (.aload_n 0, 1)), (22, (.getfield 11, 3)), (25, (.iload_n 1, 1)), (26, (.new 9, 3)), (29, (.dup, 1)), (30, (.invokespecial 15, 3)), (33, (.aastore, 1)), (34, (.iinc 1 1, 3)), (37, (.goto (-22), 3)), (40, (.return_, 1))]
theorem DX4_init_all : ∀ q ∈ LX4_init, decode cX4_init q.1 = .ok q.2 := by decide +kernel
theorem DX4_init (k : Nat) {pc : Nat} {q : Instr × Nat} (h : LX4_init[k]? = some (pc, q)) : decode cX4_init pc = .ok q := DX4_init_all (pc, q) (List.mem_of_getElem? h)
def LX4_length : List (Nat × (Instr × Nat)) := [(0, (.aload_n 0, 1)), (1, (.getfield 16, 3)), (4, (.ireturn, 1))]
theorem DX4_length_all : ∀ q ∈ LX4_length, decode cX4_length q.1 = .ok q.2 := by decide +kernel
theorem DX4_length (k : Nat) {pc : Nat} {q : Instr × Nat} (h : LX4_length[k]? = some (pc, q)) : decode cX4_length pc = .ok q := DX4_length_all (pc, q) (List.mem_of_getElem? h)
def LX4_record : List (Nat × (Instr × Nat)) := [(0, (.aload_n 0, 1)), (1, (.getfield 16, 3)), (4, (.bipush 6, 2)), (6, (.if_icmp .lt 7, 3)), (9, (.aload_n 0, 1)), (10, (.invokevirtual 20, 3)), (13, (.aload_n 0, 1)), (14, (.getfield 11, 3)), (17, (.aload_n 0, 1)), (18, (.getfield 16, 3)), (21, (.aaload, 1)), (22, (.aload_n 1, 1)), (23, (.invokevirtual 23, 3)), (26, (.aload_n 0, 1)), (27, (.dup, 1)), (28, (.getfield 16, 3)), (31, (.iconst 1, 1)), (32, (.iadd, 1)), (33, (.putfield 16, 3)), (36, (.return_, 1))]
theorem DX4_record_all : ∀ q ∈ LX4_record, decode cX4_record q.1 = .ok q.2 := by decide +kernel
theorem DX4_record (k : Nat) {pc : Nat} {q : Instr × Nat} (h : LX4_record[k]? = some (pc, q)) : decode cX4_record pc = .ok q := DX4_record_all (pc, q) (List.mem_of_getElem? h)
def LX4_dropOldest : List (Nat × (Instr × Nat)) := [(0, (.aload_n 0, 1)), (1, (.getfield 11, 3)), (4, (.iconst 0, 1)), (5, (.aaload, 1)), (6, (.astore_n 1, 1)), (7, (.iconst 1, 1)), (8, (.istore_n 2, 1)), (9, (.iload_n 2, 1)), (10, (.bipush 6, 2)), (12, (.if_icmp .ge 23, 3)), (15, (.aload_n 0, 1)), (16, (.getfield 11, 3)), (19, (.iload_n 2, 1)), (20, (.iconst 1, 1)), (21, (.isub, 1)), (22, (.aload_n 0, 1)), (23, (.getfield 11, 3)), (26, (.iload_n 2, 1)), (27, (.aaload, 1)), (28, (.aastore, 1)), (29, (.iinc 2 1, 3)), (32, (.goto (-23), 3)), (35, (.aload_n 0, 1)), (36, (.getfield 11, 3)), (39, (.iconst 5, 1)), (40, (.aload_n 1, 1)), (41, (.aastore, 1)), (42, (.aload_n 0, 1)), (43, (.iconst 5, 1)), (44, (.putfield 16, 3)), (47, (.return_, 1))]
theorem DX4_dropOldest_all : ∀ q ∈ LX4_dropOldest, decode cX4_dropOldest q.1 = .ok q.2 := by decide +kernel
theorem DX4_dropOldest (k : Nat) {pc : Nat} {q : Instr × Nat} (h : LX4_dropOldest[k]? = some (pc, q)) : decode cX4_dropOldest pc = .ok q := DX4_dropOldest_all (pc, q) (List.mem_of_getElem? h)
def LX4_takeBack : List (Nat × (Instr × Nat)) := [(0, (.aload_n 0, 1)), (1, (.getfield 16, 3)), (4, (.ifCond .le 26, 3)), (7, (.aload_n 0, 1)), (8, (.dup, 1)), (9, (.getfield 16, 3)), (12, (.iconst 1, 1)), (13, (.isub, 1)), (14, (.putfield 16, 3)), (17, (.aload_n 1, 1)), (18, (.aload_n 0, 1)), (19, (.getfield 11, 3)), (22, (.aload_n 0, 1)), (23, (.getfield 16, 3)), (26, (.aaload, 1)), (27, (.invokevirtual 23, 3)), (30, (.return_, 1))]
theorem DX4_takeBack_all : ∀ q ∈ LX4_takeBack, decode cX4_takeBack q.1 = .ok q.2 := by decide +kernel
theorem DX4_takeBack (k : Nat) {pc : Nat} {q : Instr × Nat} (h : LX4_takeBack[k]? = some (pc, q)) : decode cX4_takeBack pc = .ok q := DX4_takeBack_all (pc, q) (List.mem_of_getElem? h)
def LX5_init : List (Nat × (Instr × Nat)) := [(0, (.aload_n 0, 1)), (1, (.invokespecial 3, 3)), (4, (.aload_n 0, 1)), (5, (.bipush 24, 2)), (7, (.newarray .char, 2)), (9, (.putfield 11, 3)), (12, (.return_, 1))]
theorem DX5_init_all : ∀ q ∈ LX5_init, decode cX5_init q.1 = .ok q.2 := by decide +kernel
theorem DX5_init (k : Nat) {pc : Nat} {q : Instr × Nat} (h : LX5_init[k]? = some (pc, q)) : decode cX5_init pc = .ok q := DX5_init_all (pc, q) (List.mem_of_getElem? h)
def LX5_length : List (Nat × (Instr × Nat)) := [(0, (.aload_n 0, 1)), (1, (.getfield 15, 3)), (4, (.ireturn, 1))]
theorem DX5_length_all : ∀ q ∈ LX5_length, decode cX5_length q.1 = .ok q.2 := by decide +kernel
theorem DX5_length (k : Nat) {pc : Nat} {q : Instr × Nat} (h : LX5_length[k]? = some (pc, q)) : decode cX5_length pc = .ok q := DX5_length_all (pc, q) (List.mem_of_getElem? h)
def LX5_empty : List (Nat × (Instr × Nat)) := [(0, (.aload_n 0, 1)), (1, (.iconst 0, 1)), (2, (.putfield 15, 3)), (5, (.return_, 1))]
theorem DX5_empty_all : ∀ q ∈ LX5_empty, decode cX5_empty q.1 = .ok q.2 := by decide +kernel
theorem DX5_empty (k : Nat) {pc : Nat} {q : Instr × Nat} (h : LX5_empty[k]? = some (pc, q)) : decode cX5_empty pc = .ok q := DX5_empty_all (pc, q) (List.mem_of_getElem? h)
def LX5_countIn : List (Nat × (Instr × Nat)) := [(0, (.lload_n 0, 1)), (1, (.lstore_n 2, 1)), (2, (.iconst 0, 1)), (3, (.istore 4, 2)), (5, (.iconst 0, 1)), (6, (.istore 5, 2)), (8, (.iload 5, 2)), (10, (.bipush 8, 2)), (12, (.if_icmp .ge 48, 3)), (15, (.lload_n 2, 1)), (16, (.lconst 0, 1)), (17, (.lcmp, 1)), (18, (.ifCond .eq 42, 3)), (21, (.lload_n 2, 1)), (22, (.ldc2_w 19, 3)), (25, (.land, 1)), (26, (.l2i, 1)), (27, (.istore 6, 2)), (29, (.iload 6, 2)), (31, (.bipush 33, 2)), (33, (.if_icmp .lt 10, 3)), (36, (.iload 6, 2)), (38, (.bipush 126, 2)), (40, (.if_icmp .le 6, 3)), (43, (.bipush (-2), 2)), (45, (.ireturn, 1)), (46, (.lload_n 2, 1)), (47, (.bipush 8, 2)), (49, (.lushr, 1)), (50, (.lstore_n 2, 1)), (51, (.iinc 4 1, 3)), (54, (.iinc 5 1, 3)), (57, (.goto (-49), 3)), (60, (.iload 4, 2)), (62, (.ireturn, 1))]
theorem DX5_countIn_all : ∀ q ∈ LX5_countIn, decode cX5_countIn q.1 = .ok q.2 := by decide +kernel
theorem DX5_countIn (k : Nat) {pc : Nat} {q : Instr × Nat} (h : LX5_countIn[k]? = some (pc, q)) : decode cX5_countIn pc = .ok q := DX5_countIn_all (pc, q) (List.mem_of_getElem? h)
def LX5_append : List (Nat × (Instr × Nat)) := [(0, (.iload_n 3, 1)), (1, (.iconst 1, 1)), (2, (.isub, 1)), (3, (.istore 4, 2)), (5, (.iload 4, 2)), (7, (.ifCond .lt 50, 3)), (10, (.aload_n 0, 1)), (11, (.getfield 15, 3)), (14, (.bipush 24, 2)), (16, (.if_icmp .ge 41, 3)), (19, (.aload_n 0, 1)), (20, (.getfield 11, 3)), (23, (.aload_n 0, 1)), (24, (.getfield 15, 3)), (27, (.lload_n 1, 1)), (28, (.bipush 8, 2)), (30, (.iload 4, 2)), (32, (.imul, 1)), (33, (.lushr, 1)), (34, (.ldc2_w 19, 3)), (37, (.land, 1)), (38, (.l2i, 1)), (39, (.i2c, 1)), (40, (.castore, 1)), (41, (.aload_n 0, 1)), (42, (.dup, 1)), (43, (.getfield 15, 3)), (46, (.iconst 1, 1)), (47, (.iadd, 1)), (48, (.putfield 15, 3)), (51, (.iinc 4 (-1), 3)), (54, (.goto (-49), 3)), (57, (.return_, 1))]
theorem DX5_append_all : ∀ q ∈ LX5_append, decode cX5_append q.1 = .ok q.2 := by decide +kernel
theorem DX5_append (k : Nat) {pc : Nat} {q : Instr × Nat} (h : LX5_append[k]? = some (pc, q)) : decode cX5_append pc = .ok q := DX5_append_all (pc, q) (List.mem_of_getElem? h)
def LX5_firstFault : List (Nat × (Instr × Nat)) := [(0, (.iconst 0, 1)), (1, (.istore_n 1, 1)), (2, (.iload_n 1, 1)), (3, (.aload_n 0, 1)), (4, (.getfield 15, 3)), (7, (.if_icmp .ge 24, 3)), (10, (.aload_n 0, 1)), (11, (.getfield 11, 3)), (14, (.iload_n 1, 1)), (15, (.caload, 1)), (16, (.iload_n 1, 1)), (17, (.invokestatic 21, 3)), (20, (.ifCond .ne 5, 3)), (23, (.iload_n 1, 1)), (24, (.ireturn, 1)), (25, (.iinc 1 1, 3)), (28, (.goto (-26), 3)), (31, (.aload_n 0, 1)), (32, (.getfield 15, 3)), (35, (.bipush 20, 2)), (37, (.if_icmp .ge 10, 3)), (40, (.aload_n 0, 1)), (41, (.getfield 15, 3)), (44, (.goto 5, 3)), (47, (.bipush (-6), 2)), (49, (.ireturn, 1))]
theorem DX5_firstFault_all : ∀ q ∈ LX5_firstFault, decode cX5_firstFault q.1 = .ok q.2 := by decide +kernel
theorem DX5_firstFault (k : Nat) {pc : Nat} {q : Instr × Nat} (h : LX5_firstFault[k]? = some (pc, q)) : decode cX5_firstFault pc = .ok q := DX5_firstFault_all (pc, q) (List.mem_of_getElem? h)
def LX5_canStand : List (Nat × (Instr × Nat)) := [(0, (.iload_n 1, 1)), (1, (.bipush 20, 2)), (3, (.if_icmp .lt 5, 3)), (6, (.iconst 0, 1)), (7, (.ireturn, 1)), (8, (.iload_n 1, 1)), (9, (.bipush 19, 2)), (11, (.if_icmp .ne 21, 3)), (14, (.iload_n 0, 1)), (15, (.bipush 104, 2)), (17, (.if_icmp .eq 9, 3)), (20, (.iload_n 0, 1)), (21, (.bipush 102, 2)), (23, (.if_icmp .ne 7, 3)), (26, (.iconst 1, 1)), (27, (.goto 4, 3)), (30, (.iconst 0, 1)), (31, (.ireturn, 1)), (32, (.iload_n 1, 1)), (33, (.iconst 5, 1)), (34, (.irem, 1)), (35, (.iconst 4, 1)), (36, (.if_icmp .ne 15, 3)), (39, (.iload_n 0, 1)), (40, (.bipush 47, 2)), (42, (.if_icmp .ne 7, 3)), (45, (.iconst 1, 1)), (46, (.goto 4, 3)), (49, (.iconst 0, 1)), (50, (.ireturn, 1)), (51, (.iload_n 0, 1)), (52, (.bipush 46, 2)), (54, (.if_icmp .eq 21, 3)), (57, (.iload_n 0, 1)), (58, (.bipush 35, 2)), (60, (.if_icmp .eq 15, 3)), (63, (.iload_n 0, 1)), (64, (.bipush 70, 2)), (66, (.if_icmp .eq 9, 3)), (69, (.iload_n 0, 1)), (70, (.bipush 72, 2)), (72, (.if_icmp .ne 7, 3)), (75, (.iconst 1, 1)), (76, (.goto 4, 3)), (79, (.iconst 0, 1)), (80, (.ireturn, 1))]
theorem DX5_canStand_all : ∀ q ∈ LX5_canStand, decode cX5_canStand q.1 = .ok q.2 := by decide +kernel
theorem DX5_canStand (k : Nat) {pc : Nat} {q : Instr × Nat} (h : LX5_canStand[k]? = some (pc, q)) : decode cX5_canStand pc = .ok q := DX5_canStand_all (pc, q) (List.mem_of_getElem? h)
def LX5_placesOf : List (Nat × (Instr × Nat)) := [(0, (.iconst 0, 1)), (1, (.istore_n 2, 1)), (2, (.iconst 0, 1)), (3, (.istore_n 3, 1)), (4, (.iload_n 3, 1)), (5, (.bipush 16, 2)), (7, (.if_icmp .ge 29, 3)), (10, (.aload_n 0, 1)), (11, (.getfield 11, 3)), (14, (.iload_n 3, 1)), (15, (.iload_n 3, 1)), (16, (.iconst 4, 1)), (17, (.idiv, 1)), (18, (.iadd, 1)), (19, (.caload, 1)), (20, (.iload_n 1, 1)), (21, (.if_icmp .ne 9, 3)), (24, (.iload_n 2, 1)), (25, (.iconst 1, 1)), (26, (.iload_n 3, 1)), (27, (.ishl, 1)), (28, (.ior, 1)), (29, (.istore_n 2, 1)), (30, (.iinc 3 1, 3)), (33, (.goto (-29), 3)), (36, (.iload_n 2, 1)), (37, (.ireturn, 1))]
theorem DX5_placesOf_all : ∀ q ∈ LX5_placesOf, decode cX5_placesOf q.1 = .ok q.2 := by decide +kernel
theorem DX5_placesOf (k : Nat) {pc : Nat} {q : Instr × Nat} (h : LX5_placesOf[k]? = some (pc, q)) : decode cX5_placesOf pc = .ok q := DX5_placesOf_all (pc, q) (List.mem_of_getElem? h)
def LX5_foxMoves : List (Nat × (Instr × Nat)) := [(0, (.aload_n 0, 1)), (1, (.getfield 11, 3)), (4, (.bipush 19, 2)), (6, (.caload, 1)), (7, (.bipush 102, 2)), (9, (.if_icmp .ne 7, 3)), (12, (.iconst 1, 1)), (13, (.goto 4, 3)), (16, (.iconst 0, 1)), (17, (.ireturn, 1))]
theorem DX5_foxMoves_all : ∀ q ∈ LX5_foxMoves, decode cX5_foxMoves q.1 = .ok q.2 := by decide +kernel
theorem DX5_foxMoves (k : Nat) {pc : Nat} {q : Instr × Nat} (h : LX5_foxMoves[k]? = some (pc, q)) : decode cX5_foxMoves pc = .ok q := DX5_foxMoves_all (pc, q) (List.mem_of_getElem? h)
def LX6_init : List (Nat × (Instr × Nat)) := [(0, (.aload_n 0, 1)), (1, (.invokespecial 1, 3)), (4, (.return_, 1))]
theorem DX6_init_all : ∀ q ∈ LX6_init, decode cX6_init q.1 = .ok q.2 := by decide +kernel
theorem DX6_init (k : Nat) {pc : Nat} {q : Instr × Nat} (h : LX6_init[k]? = some (pc, q)) : decode cX6_init pc = .ok q := DX6_init_all (pc, q) (List.mem_of_getElem? h)
def LX6_take : List (Nat × (Instr × Nat)) := [(0, (.aload_n 0, 1)), (1, (.aload_n 1, 1)), (2, (.getfield 7, 3)), (5, (.putfield 7, 3)), (8, (.aload_n 0, 1)), (9, (.aload_n 1, 1)), (10, (.getfield 13, 3)), (13, (.putfield 13, 3)), (16, (.aload_n 0, 1)), (17, (.aload_n 1, 1)), (18, (.getfield 16, 3)), (21, (.putfield 16, 3)), (24, (.aload_n 0, 1)), (25, (.aload_n 1, 1)), (26, (.getfield 19, 3)), (29, (.putfield 19, 3)), (32, (.aload_n 0, 1)), (33, (.aload_n 1, 1)), (34, (.getfield 22, 3)), (37, (.putfield 22, 3)), (40, (.aload_n 0, 1)), (41, (.aload_n 1, 1)), (42, (.getfield 25, 3)), (45, (.putfield 25, 3)), (48, (.return_, 1))]
theorem DX6_take_all : ∀ q ∈ LX6_take, decode cX6_take q.1 = .ok q.2 := by decide +kernel
theorem DX6_take (k : Nat) {pc : Nat} {q : Instr × Nat} (h : LX6_take[k]? = some (pc, q)) : decode cX6_take pc = .ok q := DX6_take_all (pc, q) (List.mem_of_getElem? h)
def LX6_place : List (Nat × (Instr × Nat)) := [(0, (.aload_n 0, 1)), (1, (.iload_n 1, 1)), (2, (.putfield 16, 3)), (5, (.aload_n 0, 1)), (6, (.iload_n 2, 1)), (7, (.putfield 19, 3)), (10, (.aload_n 0, 1)), (11, (.iload_n 3, 1)), (12, (.iload 4, 2)), (14, (.invokestatic 28, 3)), (17, (.putfield 22, 3)), (20, (.aload_n 0, 1)), (21, (.iload_n 3, 1)), (22, (.iload 4, 2)), (24, (.invokestatic 34, 3)), (27, (.putfield 25, 3)), (30, (.return_, 1))]
theorem DX6_place_all : ∀ q ∈ LX6_place, decode cX6_place q.1 = .ok q.2 := by decide +kernel
theorem DX6_place (k : Nat) {pc : Nat} {q : Instr × Nat} (h : LX6_place[k]? = some (pc, q)) : decode cX6_place pc = .ok q := DX6_place_all (pc, q) (List.mem_of_getElem? h)
def LX6_setting : List (Nat × (Instr × Nat)) := [(0, (.aload_n 0, 1)), (1, (.getfield 7, 3)), (4, (.iload_n 1, 1)), (5, (.ishr, 1)), (6, (.iconst 1, 1)), (7, (.iand, 1)), (8, (.ireturn, 1))]
theorem DX6_setting_all : ∀ q ∈ LX6_setting, decode cX6_setting q.1 = .ok q.2 := by decide +kernel
theorem DX6_setting (k : Nat) {pc : Nat} {q : Instr × Nat} (h : LX6_setting[k]? = some (pc, q)) : decode cX6_setting pc = .ok q := DX6_setting_all (pc, q) (List.mem_of_getElem? h)
def LX6_change : List (Nat × (Instr × Nat)) := [(0, (.aload_n 0, 1)), (1, (.aload_n 0, 1)), (2, (.getfield 7, 3)), (5, (.iconst 1, 1)), (6, (.iload_n 1, 1)), (7, (.ishl, 1)), (8, (.iconst (-1), 1)), (9, (.ixor, 1)), (10, (.iand, 1)), (11, (.iload_n 2, 1)), (12, (.iload_n 1, 1)), (13, (.ishl, 1)), (14, (.ior, 1)), (15, (.putfield 7, 3)), (18, (.return_, 1))]
theorem DX6_change_all : ∀ q ∈ LX6_change, decode cX6_change q.1 = .ok q.2 := by decide +kernel
theorem DX6_change (k : Nat) {pc : Nat} {q : Instr × Nat} (h : LX6_change[k]? = some (pc, q)) : decode cX6_change pc = .ok q := DX6_change_all (pc, q) (List.mem_of_getElem? h)
def LX6_hunters : List (Nat × (Instr × Nat)) := [(0, (.iconst 1, 1)), (1, (.aload_n 0, 1)), (2, (.getfield 22, 3)), (5, (.ishl, 1)), (6, (.iconst 1, 1)), (7, (.aload_n 0, 1)), (8, (.getfield 25, 3)), (11, (.ishl, 1)), (12, (.ior, 1)), (13, (.ireturn, 1))]
theorem DX6_hunters_all : ∀ q ∈ LX6_hunters, decode cX6_hunters q.1 = .ok q.2 := by decide +kernel
theorem DX6_hunters (k : Nat) {pc : Nat} {q : Instr × Nat} (h : LX6_hunters[k]? = some (pc, q)) : decode cX6_hunters pc = .ok q := DX6_hunters_all (pc, q) (List.mem_of_getElem? h)
def LX6_taken : List (Nat × (Instr × Nat)) := [(0, (.aload_n 0, 1)), (1, (.invokevirtual 37, 3)), (4, (.iconst 1, 1)), (5, (.aload_n 0, 1)), (6, (.getfield 19, 3)), (9, (.ishl, 1)), (10, (.ior, 1)), (11, (.ireturn, 1))]
theorem DX6_taken_all : ∀ q ∈ LX6_taken, decode cX6_taken q.1 = .ok q.2 := by decide +kernel
theorem DX6_taken (k : Nat) {pc : Nat} {q : Instr × Nat} (h : LX6_taken[k]? = some (pc, q)) : decode cX6_taken pc = .ok q := DX6_taken_all (pc, q) (List.mem_of_getElem? h)
def LX6_hunterOnFox : List (Nat × (Instr × Nat)) := [(0, (.aload_n 0, 1)), (1, (.getfield 19, 3)), (4, (.aload_n 0, 1)), (5, (.getfield 22, 3)), (8, (.if_icmp .eq 14, 3)), (11, (.aload_n 0, 1)), (12, (.getfield 19, 3)), (15, (.aload_n 0, 1)), (16, (.getfield 25, 3)), (19, (.if_icmp .ne 7, 3)), (22, (.iconst 1, 1)), (23, (.goto 4, 3)), (26, (.iconst 0, 1)), (27, (.ireturn, 1))]
theorem DX6_hunterOnFox_all : ∀ q ∈ LX6_hunterOnFox, decode cX6_hunterOnFox q.1 = .ok q.2 := by decide +kernel
theorem DX6_hunterOnFox (k : Nat) {pc : Nat} {q : Instr × Nat} (h : LX6_hunterOnFox[k]? = some (pc, q)) : decode cX6_hunterOnFox pc = .ok q := DX6_hunterOnFox_all (pc, q) (List.mem_of_getElem? h)
def LX7_init : List (Nat × (Instr × Nat)) := [(0, (.aload_n 0, 1)), (1, (.invokespecial 5, 3)), (4, (.aload_n 0, 1)), (5, (.aload_n 1, 1)), (6, (.putfield 11, 3)), (9, (.aload_n 0, 1)), (10, (.aload_n 2, 1)), (11, (.putfield 15, 3)), (14, (.aload_n 0, 1)), (15, (.aload_n 3, 1)), (16, (.putfield 19, 3)), (19, (.aload_n 0, 1)), (20, (.bipush 11, 2)), (22, (.newarray .int, 2)), (24, (.putfield 23, 3)), (27, (.aload_n 0, 1)), (28, (.sipush 4096, 3)), (31, (.newarray .int, 2)), (33, (.putfield 29, 3)), (36, (.aload_n 0, 1)), (37, (.sipush 6272, 3)), (40, (.newarray .int, 2)), (42, (.putfield 32, 3)), (45, (.aload_n 0, 1)), (46, (.bipush 98, 2)), (48, (.newarray .int, 2)), (50, (.putfield 35, 3)), (53, (.aload_n 0, 1)), (54, (.iconst (-1), 1)), (55, (.putfield 38, 3)), (58, (.return_, 1))]
theorem DX7_init_all : ∀ q ∈ LX7_init, decode cX7_init q.1 = .ok q.2 := by decide +kernel
theorem DX7_init (k : Nat) {pc : Nat} {q : Instr × Nat} (h : LX7_init[k]? = some (pc, q)) : decode cX7_init pc = .ok q := DX7_init_all (pc, q) (List.mem_of_getElem? h)
def LX7_total : List (Nat × (Instr × Nat)) := [(0, (.iload_n 1, 1)), (1, (.ifCond .lt 18, 3)), (4, (.iload_n 1, 1)), (5, (.bipush 11, 2)), (7, (.if_icmp .ge 12, 3)), (10, (.aload_n 0, 1)), (11, (.getfield 23, 3)), (14, (.iload_n 1, 1)), (15, (.iaload, 1)), (16, (.goto 4, 3)), (19, (.iconst 0, 1)), (20, (.ireturn, 1))]
theorem DX7_total_all : ∀ q ∈ LX7_total, decode cX7_total q.1 = .ok q.2 := by decide +kernel
theorem DX7_total (k : Nat) {pc : Nat} {q : Instr × Nat} (h : LX7_total[k]? = some (pc, q)) : decode cX7_total pc = .ok q := DX7_total_all (pc, q) (List.mem_of_getElem? h)
def LX7_told : List (Nat × (Instr × Nat)) := [(0, (.iload_n 1, 1)), (1, (.ifCond .lt 18, 3)), (4, (.iload_n 1, 1)), (5, (.bipush 98, 2)), (7, (.if_icmp .ge 12, 3)), (10, (.aload_n 0, 1)), (11, (.getfield 35, 3)), (14, (.iload_n 1, 1)), (15, (.iaload, 1)), (16, (.goto 4, 3)), (19, (.iconst (-1), 1)), (20, (.ireturn, 1))]
theorem DX7_told_all : ∀ q ∈ LX7_told, decode cX7_told q.1 = .ok q.2 := by decide +kernel
theorem DX7_told (k : Nat) {pc : Nat} {q : Instr × Nat} (h : LX7_told[k]? = some (pc, q)) : decode cX7_told pc = .ok q := DX7_told_all (pc, q) (List.mem_of_getElem? h)
def LX7_countWith : List (Nat × (Instr × Nat)) := [(0, (.iload_n 1, 1)), (1, (.bipush (-6), 2)), (3, (.if_icmp .ne 8, 3)), (6, (.bipush 63, 2)), (8, (.goto 4, 3)), (11, (.iload_n 1, 1)), (12, (.istore_n 2, 1)), (13, (.iconst 0, 1)), (14, (.istore_n 3, 1)), (15, (.iconst 0, 1)), (16, (.istore 4, 2)), (18, (.iload 4, 2)), (20, (.bipush 98, 2)), (22, (.if_icmp .ge 46, 3)), (25, (.iload_n 2, 1)), (26, (.ifCond .lt 42, 3)), (29, (.iload_n 2, 1)), (30, (.bipush 64, 2)), (32, (.if_icmp .ge 36, 3)), (35, (.iload_n 3, 1)), (36, (.iload_n 2, 1)), (37, (.invokestatic 42, 3)), (40, (.iload_n 1, 1)), (41, (.if_icmp .ne 18, 3)), (44, (.aload_n 0, 1)), (45, (.getfield 32, 3)), (48, (.iload 4, 2)), (50, (.bipush 64, 2)), (52, (.imul, 1)), (53, (.iload_n 2, 1)), (54, (.iadd, 1)), (55, (.iaload, 1)), (56, (.goto 4, 3)), (59, (.iconst 0, 1)), (60, (.iadd, 1)), (61, (.istore_n 3, 1)), (62, (.iinc 4 1, 3)), (65, (.goto (-47), 3)), (68, (.iload_n 3, 1)), (69, (.ireturn, 1))]
theorem DX7_countWith_all : ∀ q ∈ LX7_countWith, decode cX7_countWith q.1 = .ok q.2 := by decide +kernel
theorem DX7_countWith (k : Nat) {pc : Nat} {q : Instr × Nat} (h : LX7_countWith[k]? = some (pc, q)) : decode cX7_countWith pc = .ok q := DX7_countWith_all (pc, q) (List.mem_of_getElem? h)
def LX7_distanceOf : List (Nat × (Instr × Nat)) := [(0, (.iload_n 0, 1)), (1, (.bipush 63, 2)), (3, (.if_icmp .ne 8, 3)), (6, (.bipush (-6), 2)), (8, (.goto 4, 3)), (11, (.iload_n 0, 1)), (12, (.ireturn, 1))]
theorem DX7_distanceOf_all : ∀ q ∈ LX7_distanceOf, decode cX7_distanceOf q.1 = .ok q.2 := by decide +kernel
theorem DX7_distanceOf (k : Nat) {pc : Nat} {q : Instr × Nat} (h : LX7_distanceOf[k]? = some (pc, q)) : decode cX7_distanceOf pc = .ok q := DX7_distanceOf_all (pc, q) (List.mem_of_getElem? h)
def LX7_prepare : List (Nat × (Instr × Nat)) := [(0, (.aload_n 0, 1)), (1, (.getfield 38, 3)), (4, (.aload_n 1, 1)), (5, (.invokestatic 46, 3)), (8, (.if_icmp .ne 4, 3)), (11, (.return_, 1)), (12, (.aload_n 0, 1)), (13, (.aload_n 1, 1)), (14, (.invokestatic 46, 3)), (17, (.putfield 38, 3)), (20, (.aload_n 0, 1)), (21, (.getfield 15, 3)), (24, (.aload_n 1, 1)), (25, (.invokevirtual 52, 3)), (28, (.aload_n 0, 1)), (29, (.getfield 19, 3)), (32, (.aload_n 1, 1)), (33, (.getfield 56, 3)), (36, (.invokevirtual 61, 3)), (39, (.aload_n 0, 1)), (40, (.getfield 23, 3)), (43, (.iconst 0, 1)), (44, (.invokestatic 66, 3)), (47, (.aload_n 0, 1)), (48, (.getfield 32, 3)), (51, (.iconst 0, 1)), (52, (.invokestatic 66, 3)), (55, (.aload_n 0, 1)), (56, (.getfield 23, 3)), (59, (.iconst 2, 1)), (60, (.aload_n 0, 1)), (61, (.getfield 19, 3)), (64, (.invokevirtual 72, 3)), (67, (.iastore, 1)), (68, (.aload_n 0, 1)), (69, (.aload_n 1, 1)), (70, (.getfield 56, 3)), (73, (.invokevirtual 76, 3)), (76, (.aload_n 0, 1)), (77, (.invokevirtual 79, 3)), (80, (.aload_n 0, 1)), (81, (.invokevirtual 82, 3)), (84, (.aload_n 0, 1)), (85, (.getfield 23, 3)), (88, (.iconst 5, 1)), (89, (.aload_n 0, 1)), (90, (.bipush (-6), 2)), (92, (.invokevirtual 85, 3)), (95, (.iastore, 1)), (96, (.return_, 1))]
theorem DX7_prepare_all : ∀ q ∈ LX7_prepare, decode cX7_prepare q.1 = .ok q.2 := by decide +kernel
theorem DX7_prepare (k : Nat) {pc : Nat} {q : Instr × Nat} (h : LX7_prepare[k]? = some (pc, q)) : decode cX7_prepare pc = .ok q := DX7_prepare_all (pc, q) (List.mem_of_getElem? h)
def LX7_goThrough_0 : List (Nat × (Instr × Nat)) := [(0, (.aload_n 0, 1)), (1, (.getfield 23, 3)), (4, (.iconst 3, 1)), (5, (.bipush (-6), 2)), (7, (.iastore, 1)), (8, (.aload_n 0, 1)), (9, (.getfield 23, 3)), (12, (.iconst 4, 1)), (13, (.bipush (-6), 2)), (15, (.iastore, 1)), (16, (.iconst 0, 1)), (17, (.istore_n 2, 1)), (18, (.iload_n 2, 1)), (19, (.sipush 4096, 3)), (22, (.if_icmp .ge 85, 3)), (25, (.aload_n 0, 1)), (26, (.getfield 11, 3)), (29, (.iload_n 2, 1)), (30, (.iload_n 1, 1)), (31, (.invokevirtual 88, 3)), (34, (.ifCond .eq 67, 3)), (37, (.aload_n 0, 1)), (38, (.getfield 23, 3)), (41, (.iconst 0, 1)), (42, (.dup2, 1)), (43, (.iaload, 1)), (44, (.iconst 1, 1)), (45, (.iadd, 1)), (46, (.iastore, 1)), (47, (.aload_n 0, 1)), (48, (.getfield 15, 3)), (51, (.iload_n 2, 1)), (52, (.invokevirtual 92, 3)), (55, (.aload_n 0, 1)), (56, (.getfield 23, 3)), (59, (.iconst 3, 1)), (60, (.iaload, 1)), (61, (.if_icmp .le 24, 3)), (64, (.aload_n 0, 1)), (65, (.getfield 23, 3)), (68, (.iconst 3, 1)), (69, (.aload_n 0, 1)), (70, (.getfield 15, 3)), (73, (.iload_n 2, 1)), (74, (.invokevirtual 92, 3)), (77, (.iastore, 1)), (78, (.aload_n 0, 1)), (79, (.getfield 23, 3)), (82, (.iconst 4, 1)), (83, (.iload_n 2, 1)), (84, (.iastore, 1)), (85, (.aload_n 0, 1)), (86, (.getfield 19, 3)), (89, (.iload_n 2, 1)), (90, (.invokevirtual 95, 3)), (93, (.ifCond .eq 8, 3)), (96, (.aload_n 0, 1)), (97, (.iload_n 2, 1)), (98, (.invokevirtual 99, 3)), (101, (.iinc 2 1, 3))]
theorem DX7_goThrough_0_all : ∀ q ∈ LX7_goThrough_0, decode cX7_goThrough q.1 = .ok q.2 := by decide +kernel
theorem DX7_goThrough_0 (k : Nat) {pc : Nat} {q : Instr × Nat} (h : LX7_goThrough_0[k]? = some (pc, q)) : decode cX7_goThrough pc = .ok q := DX7_goThrough_0_all (pc, q) (List.mem_of_getElem? h)
def LX7_goThrough_1 : List (Nat × (Instr × Nat)) := [(104, (.goto (-86), 3)), (107, (.return_, 1))]
theorem DX7_goThrough_1_all : ∀ q ∈ LX7_goThrough_1, decode cX7_goThrough q.1 = .ok q.2 := by decide +kernel
theorem DX7_goThrough_1 (k : Nat) {pc : Nat} {q : Instr × Nat} (h : LX7_goThrough_1[k]? = some (pc, q)) : decode cX7_goThrough pc = .ok q := DX7_goThrough_1_all (pc, q) (List.mem_of_getElem? h)
def LX7_collect_0 : List (Nat × (Instr × Nat)) := [(0, (.aload_n 0, 1)), (1, (.getfield 15, 3)), (4, (.iload_n 1, 1)), (5, (.invokevirtual 92, 3)), (8, (.istore_n 2, 1)), (9, (.iload_n 2, 1)), (10, (.bipush (-6), 2)), (12, (.if_icmp .ne 8, 3)), (15, (.bipush 63, 2)), (17, (.goto 4, 3)), (20, (.iload_n 2, 1)), (21, (.istore_n 3, 1)), (22, (.aload_n 0, 1)), (23, (.getfield 11, 3)), (26, (.iload_n 1, 1)), (27, (.invokevirtual 102, 3)), (30, (.bipush 64, 2)), (32, (.imul, 1)), (33, (.iload_n 3, 1)), (34, (.iadd, 1)), (35, (.istore 4, 2)), (37, (.iload 4, 2)), (39, (.ifCond .lt 60, 3)), (42, (.iload 4, 2)), (44, (.aload_n 0, 1)), (45, (.getfield 32, 3)), (48, (.arraylength, 1)), (49, (.if_icmp .ge 50, 3)), (52, (.aload_n 0, 1)), (53, (.getfield 23, 3)), (56, (.iconst 1, 1)), (57, (.iaload, 1)), (58, (.aload_n 0, 1)), (59, (.getfield 29, 3)), (62, (.arraylength, 1)), (63, (.if_icmp .ge 36, 3)), (66, (.aload_n 0, 1)), (67, (.getfield 32, 3)), (70, (.iload 4, 2)), (72, (.dup2, 1)), (73, (.iaload, 1)), (74, (.iconst 1, 1)), (75, (.iadd, 1)), (76, (.iastore, 1)), (77, (.aload_n 0, 1)), (78, (.getfield 29, 3)), (81, (.aload_n 0, 1)), (82, (.getfield 23, 3)), (85, (.iconst 1, 1)), (86, (.iaload, 1)), (87, (.iload_n 1, 1)), (88, (.iastore, 1)), (89, (.aload_n 0, 1)), (90, (.getfield 23, 3)), (93, (.iconst 1, 1)), (94, (.dup2, 1)), (95, (.iaload, 1)), (96, (.iconst 1, 1)), (97, (.iadd, 1)), (98, (.iastore, 1))]
theorem DX7_collect_0_all : ∀ q ∈ LX7_collect_0, decode cX7_collect q.1 = .ok q.2 := by decide +kernel
theorem DX7_collect_0 (k : Nat) {pc : Nat} {q : Instr × Nat} (h : LX7_collect_0[k]? = some (pc, q)) : decode cX7_collect pc = .ok q := DX7_collect_0_all (pc, q) (List.mem_of_getElem? h)
def LX7_collect_1 : List (Nat × (Instr × Nat)) := [(99, (.return_, 1))]
theorem DX7_collect_1_all : ∀ q ∈ LX7_collect_1, decode cX7_collect q.1 = .ok q.2 := by decide +kernel
theorem DX7_collect_1 (k : Nat) {pc : Nat} {q : Instr × Nat} (h : LX7_collect_1[k]? = some (pc, q)) : decode cX7_collect pc = .ok q := DX7_collect_1_all (pc, q) (List.mem_of_getElem? h)
def LX7_makeRule : List (Nat × (Instr × Nat)) := [(0, (.iconst 0, 1)), (1, (.istore_n 1, 1)), (2, (.iload_n 1, 1)), (3, (.bipush 98, 2)), (5, (.if_icmp .ge 41, 3)), (8, (.aload_n 0, 1)), (9, (.getfield 35, 3)), (12, (.iload_n 1, 1)), (13, (.aload_n 0, 1)), (14, (.iload_n 1, 1)), (15, (.invokevirtual 105, 3)), (18, (.iastore, 1)), (19, (.aload_n 0, 1)), (20, (.getfield 35, 3)), (23, (.iload_n 1, 1)), (24, (.iaload, 1)), (25, (.iconst (-1), 1)), (26, (.if_icmp .eq 14, 3)), (29, (.aload_n 0, 1)), (30, (.getfield 23, 3)), (33, (.bipush 10, 2)), (35, (.dup2, 1)), (36, (.iaload, 1)), (37, (.iconst 1, 1)), (38, (.iadd, 1)), (39, (.iastore, 1)), (40, (.iinc 1 1, 3)), (43, (.goto (-41), 3)), (46, (.return_, 1))]
theorem DX7_makeRule_all : ∀ q ∈ LX7_makeRule, decode cX7_makeRule q.1 = .ok q.2 := by decide +kernel
theorem DX7_makeRule (k : Nat) {pc : Nat} {q : Instr × Nat} (h : LX7_makeRule[k]? = some (pc, q)) : decode cX7_makeRule pc = .ok q := DX7_makeRule_all (pc, q) (List.mem_of_getElem? h)
def LX7_commonest : List (Nat × (Instr × Nat)) := [(0, (.iconst 0, 1)), (1, (.istore_n 2, 1)), (2, (.iconst (-1), 1)), (3, (.istore_n 3, 1)), (4, (.iconst 0, 1)), (5, (.istore 4, 2)), (7, (.iload 4, 2)), (9, (.bipush 64, 2)), (11, (.if_icmp .ge 38, 3)), (14, (.aload_n 0, 1)), (15, (.getfield 32, 3)), (18, (.iload_n 1, 1)), (19, (.bipush 64, 2)), (21, (.imul, 1)), (22, (.iload 4, 2)), (24, (.iadd, 1)), (25, (.iaload, 1)), (26, (.istore 5, 2)), (28, (.iload 5, 2)), (30, (.iload_n 2, 1)), (31, (.if_icmp .le 12, 3)), (34, (.iload 5, 2)), (36, (.istore_n 2, 1)), (37, (.iload 4, 2)), (39, (.invokestatic 42, 3)), (42, (.istore_n 3, 1)), (43, (.iinc 4 1, 3)), (46, (.goto (-39), 3)), (49, (.iload_n 3, 1)), (50, (.ireturn, 1))]
theorem DX7_commonest_all : ∀ q ∈ LX7_commonest, decode cX7_commonest q.1 = .ok q.2 := by decide +kernel
theorem DX7_commonest (k : Nat) {pc : Nat} {q : Instr × Nat} (h : LX7_commonest[k]? = some (pc, q)) : decode cX7_commonest pc = .ok q := DX7_commonest_all (pc, q) (List.mem_of_getElem? h)
def LX7_countExceptions : List (Nat × (Instr × Nat)) := [(0, (.iconst 0, 1)), (1, (.istore_n 1, 1)), (2, (.iconst (-1), 1)), (3, (.istore_n 2, 1)), (4, (.iconst 0, 1)), (5, (.istore_n 3, 1)), (6, (.iload_n 3, 1)), (7, (.aload_n 0, 1)), (8, (.getfield 23, 3)), (11, (.iconst 1, 1)), (12, (.iaload, 1)), (13, (.if_icmp .ge 84, 3)), (16, (.iload_n 3, 1)), (17, (.aload_n 0, 1)), (18, (.getfield 29, 3)), (21, (.arraylength, 1)), (22, (.if_icmp .ge 75, 3)), (25, (.aload_n 0, 1)), (26, (.getfield 29, 3)), (29, (.iload_n 3, 1)), (30, (.iaload, 1)), (31, (.istore 4, 2)), (33, (.aload_n 0, 1)), (34, (.getfield 15, 3)), (37, (.iload 4, 2)), (39, (.invokevirtual 92, 3)), (42, (.aload_n 0, 1)), (43, (.aload_n 0, 1)), (44, (.getfield 11, 3)), (47, (.iload 4, 2)), (49, (.invokevirtual 102, 3)), (52, (.invokevirtual 108, 3)), (55, (.if_icmp .ne 8, 3)), (58, (.iconst 0, 1)), (59, (.istore_n 1, 1)), (60, (.goto 31, 3)), (63, (.iinc 1 1, 3)), (66, (.aload_n 0, 1)), (67, (.iload_n 1, 1)), (68, (.iload_n 2, 1)), (69, (.iload 4, 2)), (71, (.bipush 64, 2)), (73, (.idiv, 1)), (74, (.if_icmp .eq 7, 3)), (77, (.iconst 1, 1)), (78, (.goto 4, 3)), (81, (.iconst 0, 1)), (82, (.invokevirtual 110, 3)), (85, (.iload 4, 2)), (87, (.bipush 64, 2)), (89, (.idiv, 1)), (90, (.istore_n 2, 1)), (91, (.iinc 3 1, 3)), (94, (.goto (-88), 3)), (97, (.return_, 1))]
theorem DX7_countExceptions_all : ∀ q ∈ LX7_countExceptions, decode cX7_countExceptions q.1 = .ok q.2 := by decide +kernel
theorem DX7_countExceptions (k : Nat) {pc : Nat} {q : Instr × Nat} (h : LX7_countExceptions[k]? = some (pc, q)) : decode cX7_countExceptions pc = .ok q := DX7_countExceptions_all (pc, q) (List.mem_of_getElem? h)
def LX7_countException : List (Nat × (Instr × Nat)) := [(0, (.aload_n 0, 1)), (1, (.getfield 23, 3)), (4, (.bipush 6, 2)), (6, (.dup2, 1)), (7, (.iaload, 1)), (8, (.iconst 1, 1)), (9, (.iadd, 1)), (10, (.iastore, 1)), (11, (.iload_n 1, 1)), (12, (.iconst 1, 1)), (13, (.if_icmp .ne 14, 3)), (16, (.aload_n 0, 1)), (17, (.getfield 23, 3)), (20, (.bipush 7, 2)), (22, (.dup2, 1)), (23, (.iaload, 1)), (24, (.iconst 1, 1)), (25, (.iadd, 1)), (26, (.iastore, 1)), (27, (.iload_n 2, 1)), (28, (.ifCond .eq 14, 3)), (31, (.aload_n 0, 1)), (32, (.getfield 23, 3)), (35, (.bipush 8, 2)), (37, (.dup2, 1)), (38, (.iaload, 1)), (39, (.iconst 1, 1)), (40, (.iadd, 1)), (41, (.iastore, 1)), (42, (.aload_n 0, 1)), (43, (.getfield 23, 3)), (46, (.bipush 9, 2)), (48, (.aload_n 0, 1)), (49, (.getfield 23, 3)), (52, (.bipush 9, 2)), (54, (.iaload, 1)), (55, (.iload_n 1, 1)), (56, (.invokestatic 114, 3)), (59, (.iastore, 1)), (60, (.return_, 1))]
theorem DX7_countException_all : ∀ q ∈ LX7_countException, decode cX7_countException q.1 = .ok q.2 := by decide +kernel
theorem DX7_countException (k : Nat) {pc : Nat} {q : Instr × Nat} (h : LX7_countException[k]? = some (pc, q)) : decode cX7_countException pc = .ok q := DX7_countException_all (pc, q) (List.mem_of_getElem? h)
def LX8_init_0 : List (Nat × (Instr × Nat)) := [(0, (.aload_n 0, 1)), (1, (.invokespecial 1, 3)), (4, (.aload_n 0, 1)), (5, (.new 7, 3)), (8, (.dup, 1)), (9, (.invokespecial 9, 3)), (12, (.putfield 10, 3)), (15, (.aload_n 0, 1)), (16, (.new 16, 3)), (19, (.dup, 1)), (20, (.aload_n 0, 1)), (21, (.getfield 10, 3)), (24, (.invokespecial 18, 3)), (27, (.putfield 21, 3)), (30, (.aload_n 0, 1)), (31, (.new 25, 3)), (34, (.dup, 1)), (35, (.aload_n 0, 1)), (36, (.getfield 10, 3)), (39, (.invokespecial 27, 3)), (42, (.putfield 28, 3)), (45, (.aload_n 0, 1)), (46, (.new 32, 3)), (49, (.dup, 1)), (50, (.aload_n 0, 1)), (51, (.getfield 10, 3)), (54, (.aload_n 0, 1)), (55, (.getfield 21, 3)), (58, (.aload_n 0, 1)), (59, (.getfield 28, 3)), (62, (.invokespecial 34, 3)), (65, (.putfield 37, 3)), (68, (.aload_n 0, 1)), (69, (.new 41, 3)), (72, (.dup, 1)), (73, (.aload_n 0, 1)), (74, (.getfield 10, 3)), (77, (.aload_n 0, 1)), (78, (.getfield 21, 3)), (81, (.invokespecial 43, 3)), (84, (.putfield 46, 3)), (87, (.aload_n 0, 1)), (88, (.new 50, 3)), (91, (.dup, 1)), (92, (.invokespecial 52, 3)), (95, (.putfield 53, 3)), (98, (.aload_n 0, 1)), (99, (.new 50, 3)), (102, (.dup, 1)), (103, (.invokespecial 52, 3)), (106, (.putfield 57, 3)), (109, (.aload_n 0, 1)), (110, (.new 60, 3)), (113, (.dup, 1)), (114, (.invokespecial 62, 3)), (117, (.putfield 63, 3)), (120, (.aload_n 0, 1)), (121, (.new 67, 3)), (124, (.dup, 1)), (125, (.invokespecial 69, 3))]
theorem DX8_init_0_all : ∀ q ∈ LX8_init_0, decode cX8_init q.1 = .ok q.2 := by decide +kernel
theorem DX8_init_0 (k : Nat) {pc : Nat} {q : Instr × Nat} (h : LX8_init_0[k]? = some (pc, q)) : decode cX8_init pc = .ok q := DX8_init_0_all (pc, q) (List.mem_of_getElem? h)
def LX8_init_1 : List (Nat × (Instr × Nat)) := [(128, (.putfield 70, 3)), (131, (.aload_n 0, 1)), (132, (.iconst 2, 1)), (133, (.anewarray 50, 3)), (136, (.putfield 74, 3)), (139, (.iconst 0, 1)), (140, (.istore_n 1, 1)), (141, (.iload_n 1, 1)), (142, (.iconst 2, 1)), (143, (.if_icmp .ge 22, 3)), (146, (.aload_n 0, 1)), (147, (.getfield 74, 3)), (150, (.iload_n 1, 1)), (151, (.new 50, 3)), (154, (.dup, 1)), (155, (.invokespecial 52, 3)), (158, (.aastore, 1)), (159, (.iinc 1 1, 3)), (162, (.goto (-21), 3)), (165, (.aload_n 0, 1)), (166, (.iconst 2, 1)), (167, (.newarray .boolean, 2)), (169, (.putfield 78, 3)), (172, (.aload_n 0, 1)), (173, (.getfield 53, 3)), (176, (.iconst 0, 1)), (177, (.iconst 5, 1)), (178, (.iconst 0, 1)), (179, (.bipush 15, 2)), (181, (.invokevirtual 82, 3)), (184, (.return_, 1))]
theorem DX8_init_1_all : ∀ q ∈ LX8_init_1, decode cX8_init q.1 = .ok q.2 := by decide +kernel
theorem DX8_init_1 (k : Nat) {pc : Nat} {q : Instr × Nat} (h : LX8_init_1[k]? = some (pc, q)) : decode cX8_init pc = .ok q := DX8_init_1_all (pc, q) (List.mem_of_getElem? h)
def LX8_set : List (Nat × (Instr × Nat)) := [(0, (.iload_n 1, 1)), (1, (.ifCond .lt 17, 3)), (4, (.iload_n 1, 1)), (5, (.iconst 2, 1)), (6, (.if_icmp .gt 12, 3)), (9, (.iload_n 2, 1)), (10, (.ifCond .lt 8, 3)), (13, (.iload_n 2, 1)), (14, (.iconst 1, 1)), (15, (.if_icmp .le 6, 3)), (18, (.bipush (-2), 2)), (20, (.ireturn, 1)), (21, (.aload_n 0, 1)), (22, (.getfield 63, 3)), (25, (.aload_n 0, 1)), (26, (.getfield 53, 3)), (29, (.invokevirtual 86, 3)), (32, (.aload_n 0, 1)), (33, (.getfield 53, 3)), (36, (.iload_n 1, 1)), (37, (.invokevirtual 90, 3)), (40, (.istore_n 3, 1)), (41, (.aload_n 0, 1)), (42, (.getfield 53, 3)), (45, (.iload_n 1, 1)), (46, (.iload_n 2, 1)), (47, (.invokevirtual 94, 3)), (50, (.iload_n 3, 1)), (51, (.ireturn, 1))]
theorem DX8_set_all : ∀ q ∈ LX8_set, decode cX8_set q.1 = .ok q.2 := by decide +kernel
theorem DX8_set (k : Nat) {pc : Nat} {q : Instr × Nat} (h : LX8_set[k]? = some (pc, q)) : decode cX8_set pc = .ok q := DX8_set_all (pc, q) (List.mem_of_getElem? h)
def LX8_block : List (Nat × (Instr × Nat)) := [(0, (.iload_n 1, 1)), (1, (.invokestatic 98, 3)), (4, (.ifCond .ne 5, 3)), (7, (.iconst (-1), 1)), (8, (.ireturn, 1)), (9, (.iconst 1, 1)), (10, (.iload_n 1, 1)), (11, (.ishl, 1)), (12, (.istore_n 2, 1)), (13, (.aload_n 0, 1)), (14, (.getfield 53, 3)), (17, (.getfield 102, 3)), (20, (.iload_n 2, 1)), (21, (.iand, 1)), (22, (.ifCond .ne 7, 3)), (25, (.iconst 1, 1)), (26, (.goto 4, 3)), (29, (.iconst 0, 1)), (30, (.istore_n 3, 1)), (31, (.iload_n 3, 1)), (32, (.ifCond .eq 21, 3)), (35, (.aload_n 0, 1)), (36, (.getfield 53, 3)), (39, (.getfield 102, 3)), (42, (.invokestatic 106, 3)), (45, (.bipush 6, 2)), (47, (.if_icmp .lt 6, 3)), (50, (.bipush (-4), 2)), (52, (.ireturn, 1)), (53, (.aload_n 0, 1)), (54, (.getfield 53, 3)), (57, (.invokevirtual 111, 3)), (60, (.iload_n 2, 1)), (61, (.iand, 1)), (62, (.ifCond .eq 6, 3)), (65, (.bipush (-5), 2)), (67, (.ireturn, 1)), (68, (.aload_n 0, 1)), (69, (.getfield 63, 3)), (72, (.aload_n 0, 1)), (73, (.getfield 53, 3)), (76, (.invokevirtual 86, 3)), (79, (.aload_n 0, 1)), (80, (.getfield 53, 3)), (83, (.dup, 1)), (84, (.getfield 102, 3)), (87, (.iload_n 2, 1)), (88, (.ixor, 1)), (89, (.putfield 102, 3)), (92, (.aload_n 0, 1)), (93, (.getfield 53, 3)), (96, (.getfield 102, 3)), (99, (.invokestatic 106, 3)), (102, (.ireturn, 1))]
theorem DX8_block_all : ∀ q ∈ LX8_block, decode cX8_block q.1 = .ok q.2 := by decide +kernel
theorem DX8_block (k : Nat) {pc : Nat} {q : Instr × Nat} (h : LX8_block[k]? = some (pc, q)) : decode cX8_block pc = .ok q := DX8_block_all (pc, q) (List.mem_of_getElem? h)
def LX8_setUp : List (Nat × (Instr × Nat)) := [(0, (.aload_n 0, 1)), (1, (.iload_n 1, 1)), (2, (.iload_n 2, 1)), (3, (.iload_n 3, 1)), (4, (.iload 4, 2)), (6, (.invokevirtual 115, 3)), (9, (.istore 5, 2)), (11, (.iload 5, 2)), (13, (.ifCond .eq 6, 3)), (16, (.iload 5, 2)), (18, (.ireturn, 1)), (19, (.aload_n 0, 1)), (20, (.getfield 63, 3)), (23, (.aload_n 0, 1)), (24, (.getfield 53, 3)), (27, (.invokevirtual 86, 3)), (30, (.aload_n 0, 1)), (31, (.getfield 53, 3)), (34, (.iload_n 1, 1)), (35, (.iload_n 2, 1)), (36, (.iload_n 3, 1)), (37, (.iload 4, 2)), (39, (.invokevirtual 82, 3)), (42, (.aload_n 0, 1)), (43, (.invokevirtual 119, 3)), (46, (.ireturn, 1))]
theorem DX8_setUp_all : ∀ q ∈ LX8_setUp, decode cX8_setUp q.1 = .ok q.2 := by decide +kernel
theorem DX8_setUp (k : Nat) {pc : Nat} {q : Instr × Nat} (h : LX8_setUp[k]? = some (pc, q)) : decode cX8_setUp pc = .ok q := DX8_setUp_all (pc, q) (List.mem_of_getElem? h)
def LX8_move : List (Nat × (Instr × Nat)) := [(0, (.iload_n 1, 1)), (1, (.invokestatic 98, 3)), (4, (.ifCond .eq 10, 3)), (7, (.iload_n 2, 1)), (8, (.invokestatic 98, 3)), (11, (.ifCond .ne 5, 3)), (14, (.iconst (-1), 1)), (15, (.ireturn, 1)), (16, (.aload_n 0, 1)), (17, (.getfield 46, 3)), (20, (.aload_n 0, 1)), (21, (.getfield 53, 3)), (24, (.iload_n 1, 1)), (25, (.iload_n 2, 1)), (26, (.invokevirtual 122, 3)), (29, (.ifCond .ne 6, 3)), (32, (.bipush (-5), 2)), (34, (.ireturn, 1)), (35, (.aload_n 0, 1)), (36, (.iload_n 1, 1)), (37, (.iload_n 2, 1)), (38, (.invokevirtual 126, 3)), (41, (.ireturn, 1))]
theorem DX8_move_all : ∀ q ∈ LX8_move, decode cX8_move q.1 = .ok q.2 := by decide +kernel
theorem DX8_move (k : Nat) {pc : Nat} {q : Instr × Nat} (h : LX8_move[k]? = some (pc, q)) : decode cX8_move pc = .ok q := DX8_move_all (pc, q) (List.mem_of_getElem? h)
def LX8_play : List (Nat × (Instr × Nat)) := [(0, (.aload_n 0, 1)), (1, (.getfield 46, 3)), (4, (.aload_n 0, 1)), (5, (.getfield 53, 3)), (8, (.invokevirtual 130, 3)), (11, (.istore_n 1, 1)), (12, (.iload_n 1, 1)), (13, (.bipush (-6), 2)), (15, (.if_icmp .ne 6, 3)), (18, (.bipush (-5), 2)), (20, (.ireturn, 1)), (21, (.aload_n 0, 1)), (22, (.iload_n 1, 1)), (23, (.invokestatic 134, 3)), (26, (.iload_n 1, 1)), (27, (.invokestatic 137, 3)), (30, (.invokevirtual 126, 3)), (33, (.ireturn, 1))]
theorem DX8_play_all : ∀ q ∈ LX8_play, decode cX8_play q.1 = .ok q.2 := by decide +kernel
theorem DX8_play (k : Nat) {pc : Nat} {q : Instr × Nat} (h : LX8_play[k]? = some (pc, q)) : decode cX8_play pc = .ok q := DX8_play_all (pc, q) (List.mem_of_getElem? h)
def LX8_readPad_0 : List (Nat × (Instr × Nat)) := [(0, (.aload_n 0, 1)), (1, (.getfield 70, 3)), (4, (.invokevirtual 140, 3)), (7, (.bipush (-6), 2)), (9, (.if_icmp .eq 6, 3)), (12, (.bipush (-3), 2)), (14, (.ireturn, 1)), (15, (.aload_n 0, 1)), (16, (.getfield 70, 3)), (19, (.bipush 70, 2)), (21, (.invokevirtual 143, 3)), (24, (.istore_n 1, 1)), (25, (.aload_n 0, 1)), (26, (.getfield 70, 3)), (29, (.bipush 72, 2)), (31, (.invokevirtual 143, 3)), (34, (.istore_n 2, 1)), (35, (.aload_n 0, 1)), (36, (.getfield 70, 3)), (39, (.bipush 35, 2)), (41, (.invokevirtual 143, 3)), (44, (.istore_n 3, 1)), (45, (.iload_n 1, 1)), (46, (.invokestatic 106, 3)), (49, (.iconst 1, 1)), (50, (.if_icmp .ne 11, 3)), (53, (.iload_n 2, 1)), (54, (.invokestatic 106, 3)), (57, (.iconst 2, 1)), (58, (.if_icmp .eq 6, 3)), (61, (.bipush (-5), 2)), (63, (.ireturn, 1)), (64, (.iload_n 3, 1)), (65, (.invokestatic 106, 3)), (68, (.bipush 6, 2)), (70, (.if_icmp .le 6, 3)), (73, (.bipush (-4), 2)), (75, (.ireturn, 1)), (76, (.aload_n 0, 1)), (77, (.getfield 63, 3)), (80, (.aload_n 0, 1)), (81, (.getfield 53, 3)), (84, (.invokevirtual 86, 3)), (87, (.aload_n 0, 1)), (88, (.getfield 53, 3)), (91, (.iload_n 3, 1)), (92, (.putfield 102, 3)), (95, (.aload_n 0, 1)), (96, (.getfield 53, 3)), (99, (.aload_n 0, 1)), (100, (.getfield 70, 3)), (103, (.invokevirtual 147, 3)), (106, (.ifCond .eq 7, 3)), (109, (.iconst 1, 1)), (110, (.goto 4, 3)), (113, (.iconst 0, 1)), (114, (.iload_n 1, 1)), (115, (.invokestatic 151, 3)), (118, (.iload_n 2, 1)), (119, (.invokestatic 151, 3))]
theorem DX8_readPad_0_all : ∀ q ∈ LX8_readPad_0, decode cX8_readPad q.1 = .ok q.2 := by decide +kernel
theorem DX8_readPad_0 (k : Nat) {pc : Nat} {q : Instr × Nat} (h : LX8_readPad_0[k]? = some (pc, q)) : decode cX8_readPad pc = .ok q := DX8_readPad_0_all (pc, q) (List.mem_of_getElem? h)
def LX8_readPad_1 : List (Nat × (Instr × Nat)) := [(122, (.iload_n 2, 1)), (123, (.invokestatic 154, 3)), (126, (.invokevirtual 82, 3)), (129, (.aload_n 0, 1)), (130, (.getfield 70, 3)), (133, (.invokevirtual 157, 3)), (136, (.aload_n 0, 1)), (137, (.invokevirtual 119, 3)), (140, (.ireturn, 1))]
theorem DX8_readPad_1_all : ∀ q ∈ LX8_readPad_1, decode cX8_readPad q.1 = .ok q.2 := by decide +kernel
theorem DX8_readPad_1 (k : Nat) {pc : Nat} {q : Instr × Nat} (h : LX8_readPad_1[k]? = some (pc, q)) : decode cX8_readPad pc = .ok q := DX8_readPad_1_all (pc, q) (List.mem_of_getElem? h)
def LX8_now_0 : List (Nat × (Instr × Nat)) := [(0, (.iload_n 1, 1)), (1, (.ifCond .lt 9, 3)), (4, (.iload_n 1, 1)), (5, (.bipush 15, 2)), (7, (.if_icmp .le 6, 3)), (10, (.bipush (-2), 2)), (12, (.ireturn, 1)), (13, (.iload_n 1, 1)), (14, (.tableswitch 241 0 15 #[78, 86, 94, 102, 110, 130, 135, 150, 165, 189, 217, 241, 241, 241, 225, 233], 78)), (92, (.aload_n 0, 1)), (93, (.getfield 53, 3)), (96, (.getfield 160, 3)), (99, (.ireturn, 1)), (100, (.aload_n 0, 1)), (101, (.getfield 53, 3)), (104, (.getfield 163, 3)), (107, (.ireturn, 1)), (108, (.aload_n 0, 1)), (109, (.getfield 53, 3)), (112, (.getfield 166, 3)), (115, (.ireturn, 1)), (116, (.aload_n 0, 1)), (117, (.getfield 53, 3)), (120, (.getfield 169, 3)), (123, (.ireturn, 1)), (124, (.aload_n 0, 1)), (125, (.getfield 46, 3)), (128, (.aload_n 0, 1)), (129, (.getfield 53, 3)), (132, (.invokevirtual 172, 3)), (135, (.ifCond .eq 7, 3)), (138, (.iconst 1, 1)), (139, (.goto 4, 3)), (142, (.iconst 0, 1)), (143, (.ireturn, 1)), (144, (.aload_n 0, 1)), (145, (.invokevirtual 119, 3)), (148, (.ireturn, 1)), (149, (.aload_n 0, 1)), (150, (.getfield 46, 3)), (153, (.aload_n 0, 1)), (154, (.getfield 53, 3)), (157, (.invokevirtual 130, 3)), (160, (.invokestatic 134, 3)), (163, (.ireturn, 1)), (164, (.aload_n 0, 1)), (165, (.getfield 46, 3)), (168, (.aload_n 0, 1)), (169, (.getfield 53, 3)), (172, (.invokevirtual 130, 3)), (175, (.invokestatic 137, 3)), (178, (.ireturn, 1)), (179, (.aload_n 0, 1)), (180, (.getfield 53, 3)), (183, (.invokevirtual 176, 3)), (186, (.ifCond .eq 8, 3)), (189, (.bipush (-6), 2)), (191, (.goto 11, 3)), (194, (.aload_n 0, 1)), (195, (.aload_n 0, 1))]
theorem DX8_now_0_all : ∀ q ∈ LX8_now_0, decode cX8_now q.1 = .ok q.2 := by decide +kernel
theorem DX8_now_0 (k : Nat) {pc : Nat} {q : Instr × Nat} (h : LX8_now_0[k]? = some (pc, q)) : decode cX8_now pc = .ok q := DX8_now_0_all (pc, q) (List.mem_of_getElem? h)
def LX8_now_1 : List (Nat × (Instr × Nat)) := [(196, (.getfield 53, 3)), (199, (.invokevirtual 179, 3)), (202, (.ireturn, 1)), (203, (.aload_n 0, 1)), (204, (.getfield 53, 3)), (207, (.invokevirtual 176, 3)), (210, (.ifCond .eq 8, 3)), (213, (.bipush (-6), 2)), (215, (.goto 15, 3)), (218, (.aload_n 0, 1)), (219, (.aload_n 0, 1)), (220, (.aload_n 0, 1)), (221, (.getfield 53, 3)), (224, (.invokevirtual 179, 3)), (227, (.invokevirtual 182, 3)), (230, (.ireturn, 1)), (231, (.aload_n 0, 1)), (232, (.getfield 53, 3)), (235, (.getfield 102, 3)), (238, (.ireturn, 1)), (239, (.aload_n 0, 1)), (240, (.getfield 70, 3)), (243, (.invokevirtual 185, 3)), (246, (.ireturn, 1)), (247, (.aload_n 0, 1)), (248, (.getfield 63, 3)), (251, (.invokevirtual 188, 3)), (254, (.ireturn, 1)), (255, (.aload_n 0, 1)), (256, (.getfield 53, 3)), (259, (.iload_n 1, 1)), (260, (.bipush 11, 2)), (262, (.isub, 1)), (263, (.invokevirtual 90, 3)), (266, (.ireturn, 1))]
theorem DX8_now_1_all : ∀ q ∈ LX8_now_1, decode cX8_now q.1 = .ok q.2 := by decide +kernel
theorem DX8_now_1 (k : Nat) {pc : Nat} {q : Instr × Nat} (h : LX8_now_1[k]? = some (pc, q)) : decode cX8_now pc = .ok q := DX8_now_1_all (pc, q) (List.mem_of_getElem? h)
def LX8_distance : List (Nat × (Instr × Nat)) := [(0, (.aload_n 0, 1)), (1, (.iload_n 1, 1)), (2, (.iload_n 2, 1)), (3, (.iload_n 3, 1)), (4, (.iload 4, 2)), (6, (.invokevirtual 115, 3)), (9, (.istore 5, 2)), (11, (.iload 5, 2)), (13, (.ifCond .eq 6, 3)), (16, (.iload 5, 2)), (18, (.ireturn, 1)), (19, (.aload_n 0, 1)), (20, (.getfield 21, 3)), (23, (.aload_n 0, 1)), (24, (.getfield 53, 3)), (27, (.invokevirtual 189, 3)), (30, (.aload_n 0, 1)), (31, (.getfield 21, 3)), (34, (.aload_n 0, 1)), (35, (.getfield 10, 3)), (38, (.iload_n 1, 1)), (39, (.iload_n 2, 1)), (40, (.iload_n 3, 1)), (41, (.iload 4, 2)), (43, (.invokevirtual 192, 3)), (46, (.invokevirtual 195, 3)), (49, (.ireturn, 1))]
theorem DX8_distance_all : ∀ q ∈ LX8_distance, decode cX8_distance q.1 = .ok q.2 := by decide +kernel
theorem DX8_distance (k : Nat) {pc : Nat} {q : Instr × Nat} (h : LX8_distance[k]? = some (pc, q)) : decode cX8_distance pc = .ok q := DX8_distance_all (pc, q) (List.mem_of_getElem? h)
def LX8_number : List (Nat × (Instr × Nat)) := [(0, (.aload_n 0, 1)), (1, (.iload_n 1, 1)), (2, (.iload_n 2, 1)), (3, (.iload_n 3, 1)), (4, (.iload 4, 2)), (6, (.invokevirtual 115, 3)), (9, (.istore 5, 2)), (11, (.iload 5, 2)), (13, (.ifCond .eq 8, 3)), (16, (.iload 5, 2)), (18, (.goto 15, 3)), (21, (.aload_n 0, 1)), (22, (.getfield 10, 3)), (25, (.iload_n 1, 1)), (26, (.iload_n 2, 1)), (27, (.iload_n 3, 1)), (28, (.iload 4, 2)), (30, (.invokevirtual 192, 3)), (33, (.ireturn, 1))]
theorem DX8_number_all : ∀ q ∈ LX8_number, decode cX8_number q.1 = .ok q.2 := by decide +kernel
theorem DX8_number (k : Nat) {pc : Nat} {q : Instr × Nat} (h : LX8_number[k]? = some (pc, q)) : decode cX8_number pc = .ok q := DX8_number_all (pc, q) (List.mem_of_getElem? h)
def LX8_folded : List (Nat × (Instr × Nat)) := [(0, (.aload_n 0, 1)), (1, (.iload_n 1, 1)), (2, (.iload_n 2, 1)), (3, (.iload_n 3, 1)), (4, (.iload 4, 2)), (6, (.invokevirtual 115, 3)), (9, (.istore 5, 2)), (11, (.iload 5, 2)), (13, (.ifCond .eq 8, 3)), (16, (.iload 5, 2)), (18, (.goto 19, 3)), (21, (.aload_n 0, 1)), (22, (.aload_n 0, 1)), (23, (.getfield 10, 3)), (26, (.iload_n 1, 1)), (27, (.iload_n 2, 1)), (28, (.iload_n 3, 1)), (29, (.iload 4, 2)), (31, (.invokevirtual 192, 3)), (34, (.invokevirtual 182, 3)), (37, (.ireturn, 1))]
theorem DX8_folded_all : ∀ q ∈ LX8_folded, decode cX8_folded q.1 = .ok q.2 := by decide +kernel
theorem DX8_folded (k : Nat) {pc : Nat} {q : Instr × Nat} (h : LX8_folded[k]? = some (pc, q)) : decode cX8_folded pc = .ok q := DX8_folded_all (pc, q) (List.mem_of_getElem? h)
def LX8_of_0 : List (Nat × (Instr × Nat)) := [(0, (.iload_n 1, 1)), (1, (.ifCond .lt 20, 3)), (4, (.iload_n 1, 1)), (5, (.sipush 4096, 3)), (8, (.if_icmp .ge 13, 3)), (11, (.iload_n 2, 1)), (12, (.ifCond .lt 9, 3)), (15, (.iload_n 2, 1)), (16, (.bipush 6, 2)), (18, (.if_icmp .le 6, 3)), (21, (.bipush (-2), 2)), (23, (.ireturn, 1)), (24, (.aload_n 0, 1)), (25, (.getfield 10, 3)), (28, (.iload_n 1, 1)), (29, (.aload_n 0, 1)), (30, (.getfield 53, 3)), (33, (.getfield 102, 3)), (36, (.invokevirtual 198, 3)), (39, (.ifCond .ne 5, 3)), (42, (.iconst (-1), 1)), (43, (.ireturn, 1)), (44, (.iload_n 2, 1)), (45, (.tableswitch 120 0 5 #[39, 44, 49, 61, 73, 93], 39)), (84, (.iload_n 1, 1)), (85, (.invokestatic 202, 3)), (88, (.ireturn, 1)), (89, (.iload_n 1, 1)), (90, (.invokestatic 205, 3)), (93, (.ireturn, 1)), (94, (.aload_n 0, 1)), (95, (.getfield 10, 3)), (98, (.iload_n 1, 1)), (99, (.invokestatic 208, 3)), (102, (.invokevirtual 211, 3)), (105, (.ireturn, 1)), (106, (.aload_n 0, 1)), (107, (.getfield 10, 3)), (110, (.iload_n 1, 1)), (111, (.invokestatic 208, 3)), (114, (.invokevirtual 214, 3)), (117, (.ireturn, 1)), (118, (.aload_n 0, 1)), (119, (.getfield 21, 3)), (122, (.aload_n 0, 1)), (123, (.getfield 53, 3)), (126, (.invokevirtual 189, 3)), (129, (.aload_n 0, 1)), (130, (.getfield 21, 3)), (133, (.iload_n 1, 1)), (134, (.invokevirtual 195, 3)), (137, (.ireturn, 1)), (138, (.aload_n 0, 1)), (139, (.getfield 37, 3)), (142, (.aload_n 0, 1)), (143, (.getfield 53, 3)), (146, (.invokevirtual 217, 3)), (149, (.aload_n 0, 1)), (150, (.getfield 37, 3)), (153, (.aload_n 0, 1))]
theorem DX8_of_0_all : ∀ q ∈ LX8_of_0, decode cX8_of q.1 = .ok q.2 := by decide +kernel
theorem DX8_of_0 (k : Nat) {pc : Nat} {q : Instr × Nat} (h : LX8_of_0[k]? = some (pc, q)) : decode cX8_of pc = .ok q := DX8_of_0_all (pc, q) (List.mem_of_getElem? h)
def LX8_of_1 : List (Nat × (Instr × Nat)) := [(154, (.getfield 10, 3)), (157, (.iload_n 1, 1)), (158, (.invokevirtual 218, 3)), (161, (.invokevirtual 221, 3)), (164, (.ireturn, 1)), (165, (.aload_n 0, 1)), (166, (.getfield 28, 3)), (169, (.aload_n 0, 1)), (170, (.getfield 53, 3)), (173, (.getfield 102, 3)), (176, (.invokevirtual 224, 3)), (179, (.aload_n 0, 1)), (180, (.getfield 28, 3)), (183, (.iload_n 1, 1)), (184, (.invokevirtual 227, 3)), (187, (.ireturn, 1))]
theorem DX8_of_1_all : ∀ q ∈ LX8_of_1, decode cX8_of q.1 = .ok q.2 := by decide +kernel
theorem DX8_of_1 (k : Nat) {pc : Nat} {q : Instr × Nat} (h : LX8_of_1[k]? = some (pc, q)) : decode cX8_of pc = .ok q := DX8_of_1_all (pc, q) (List.mem_of_getElem? h)
def LX8_line : List (Nat × (Instr × Nat)) := [(0, (.iload_n 1, 1)), (1, (.iconst 1, 1)), (2, (.if_icmp .lt 9, 3)), (5, (.iload_n 1, 1)), (6, (.bipush 60, 2)), (8, (.if_icmp .le 6, 3)), (11, (.bipush (-2), 2)), (13, (.ireturn, 1)), (14, (.aload_n 0, 1)), (15, (.getfield 57, 3)), (18, (.aload_n 0, 1)), (19, (.getfield 53, 3)), (22, (.invokevirtual 230, 3)), (25, (.iconst 0, 1)), (26, (.istore_n 2, 1)), (27, (.iload_n 2, 1)), (28, (.iload_n 1, 1)), (29, (.if_icmp .ge 49, 3)), (32, (.aload_n 0, 1)), (33, (.getfield 46, 3)), (36, (.aload_n 0, 1)), (37, (.getfield 57, 3)), (40, (.invokevirtual 130, 3)), (43, (.istore_n 3, 1)), (44, (.iload_n 3, 1)), (45, (.bipush (-6), 2)), (47, (.if_icmp .ne 6, 3)), (50, (.bipush (-6), 2)), (52, (.ireturn, 1)), (53, (.aload_n 0, 1)), (54, (.getfield 46, 3)), (57, (.aload_n 0, 1)), (58, (.getfield 57, 3)), (61, (.iload_n 3, 1)), (62, (.invokestatic 134, 3)), (65, (.iload_n 3, 1)), (66, (.invokestatic 137, 3)), (69, (.invokevirtual 233, 3)), (72, (.iinc 2 1, 3)), (75, (.goto (-48), 3)), (78, (.aload_n 0, 1)), (79, (.getfield 46, 3)), (82, (.aload_n 0, 1)), (83, (.getfield 57, 3)), (86, (.invokevirtual 172, 3)), (89, (.ifCond .eq 8, 3)), (92, (.bipush (-6), 2)), (94, (.goto 11, 3)), (97, (.aload_n 0, 1)), (98, (.aload_n 0, 1)), (99, (.getfield 57, 3)), (102, (.invokevirtual 179, 3)), (105, (.ireturn, 1))]
theorem DX8_line_all : ∀ q ∈ LX8_line, decode cX8_line q.1 = .ok q.2 := by decide +kernel
theorem DX8_line (k : Nat) {pc : Nat} {q : Instr × Nat} (h : LX8_line[k]? = some (pc, q)) : decode cX8_line pc = .ok q := DX8_line_all (pc, q) (List.mem_of_getElem? h)
def LX8_all : List (Nat × (Instr × Nat)) := [(0, (.iload_n 1, 1)), (1, (.ifCond .lt 9, 3)), (4, (.iload_n 1, 1)), (5, (.bipush 11, 2)), (7, (.if_icmp .lt 6, 3)), (10, (.bipush (-2), 2)), (12, (.ireturn, 1)), (13, (.aload_n 0, 1)), (14, (.getfield 37, 3)), (17, (.aload_n 0, 1)), (18, (.getfield 53, 3)), (21, (.invokevirtual 217, 3)), (24, (.aload_n 0, 1)), (25, (.getfield 37, 3)), (28, (.iload_n 1, 1)), (29, (.invokevirtual 237, 3)), (32, (.ireturn, 1))]
theorem DX8_all_all : ∀ q ∈ LX8_all, decode cX8_all q.1 = .ok q.2 := by decide +kernel
theorem DX8_all (k : Nat) {pc : Nat} {q : Instr × Nat} (h : LX8_all[k]? = some (pc, q)) : decode cX8_all pc = .ok q := DX8_all_all (pc, q) (List.mem_of_getElem? h)
def LX8_withDistance : List (Nat × (Instr × Nat)) := [(0, (.iload_n 1, 1)), (1, (.bipush (-6), 2)), (3, (.if_icmp .eq 17, 3)), (6, (.iload_n 1, 1)), (7, (.ifCond .lt 10, 3)), (10, (.iload_n 1, 1)), (11, (.sipush 200, 3)), (14, (.if_icmp .le 6, 3)), (17, (.bipush (-2), 2)), (19, (.ireturn, 1)), (20, (.aload_n 0, 1)), (21, (.getfield 37, 3)), (24, (.aload_n 0, 1)), (25, (.getfield 53, 3)), (28, (.invokevirtual 217, 3)), (31, (.aload_n 0, 1)), (32, (.getfield 37, 3)), (35, (.iload_n 1, 1)), (36, (.invokevirtual 240, 3)), (39, (.ireturn, 1))]
theorem DX8_withDistance_all : ∀ q ∈ LX8_withDistance, decode cX8_withDistance q.1 = .ok q.2 := by decide +kernel
theorem DX8_withDistance (k : Nat) {pc : Nat} {q : Instr × Nat} (h : LX8_withDistance[k]? = some (pc, q)) : decode cX8_withDistance pc = .ok q := DX8_withDistance_all (pc, q) (List.mem_of_getElem? h)
def LX8_rule : List (Nat × (Instr × Nat)) := [(0, (.iload_n 1, 1)), (1, (.ifCond .lt 9, 3)), (4, (.iload_n 1, 1)), (5, (.bipush 98, 2)), (7, (.if_icmp .lt 6, 3)), (10, (.bipush (-2), 2)), (12, (.ireturn, 1)), (13, (.aload_n 0, 1)), (14, (.getfield 37, 3)), (17, (.aload_n 0, 1)), (18, (.getfield 53, 3)), (21, (.invokevirtual 217, 3)), (24, (.aload_n 0, 1)), (25, (.getfield 37, 3)), (28, (.iload_n 1, 1)), (29, (.invokevirtual 221, 3)), (32, (.ireturn, 1))]
theorem DX8_rule_all : ∀ q ∈ LX8_rule, decode cX8_rule q.1 = .ok q.2 := by decide +kernel
theorem DX8_rule (k : Nat) {pc : Nat} {q : Instr × Nat} (h : LX8_rule[k]? = some (pc, q)) : decode cX8_rule pc = .ok q := DX8_rule_all (pc, q) (List.mem_of_getElem? h)
def LX8_put : List (Nat × (Instr × Nat)) := [(0, (.lload_n 1, 1)), (1, (.invokestatic 243, 3)), (4, (.istore_n 3, 1)), (5, (.iload_n 3, 1)), (6, (.iconst 1, 1)), (7, (.if_icmp .ge 6, 3)), (10, (.bipush (-2), 2)), (12, (.ireturn, 1)), (13, (.aload_n 0, 1)), (14, (.getfield 70, 3)), (17, (.invokevirtual 185, 3)), (20, (.iload_n 3, 1)), (21, (.iadd, 1)), (22, (.bipush 24, 2)), (24, (.if_icmp .le 6, 3)), (27, (.bipush (-4), 2)), (29, (.ireturn, 1)), (30, (.aload_n 0, 1)), (31, (.getfield 70, 3)), (34, (.lload_n 1, 1)), (35, (.iload_n 3, 1)), (36, (.invokevirtual 247, 3)), (39, (.aload_n 0, 1)), (40, (.getfield 70, 3)), (43, (.invokevirtual 185, 3)), (46, (.ireturn, 1))]
theorem DX8_put_all : ∀ q ∈ LX8_put, decode cX8_put q.1 = .ok q.2 := by decide +kernel
theorem DX8_put (k : Nat) {pc : Nat} {q : Instr × Nat} (h : LX8_put[k]? = some (pc, q)) : decode cX8_put pc = .ok q := DX8_put_all (pc, q) (List.mem_of_getElem? h)
def LX8_wipe : List (Nat × (Instr × Nat)) := [(0, (.aload_n 0, 1)), (1, (.getfield 70, 3)), (4, (.invokevirtual 185, 3)), (7, (.istore_n 1, 1)), (8, (.aload_n 0, 1)), (9, (.getfield 70, 3)), (12, (.invokevirtual 157, 3)), (15, (.iload_n 1, 1)), (16, (.ireturn, 1))]
theorem DX8_wipe_all : ∀ q ∈ LX8_wipe, decode cX8_wipe q.1 = .ok q.2 := by decide +kernel
theorem DX8_wipe (k : Nat) {pc : Nat} {q : Instr × Nat} (h : LX8_wipe[k]? = some (pc, q)) : decode cX8_wipe pc = .ok q := DX8_wipe_all (pc, q) (List.mem_of_getElem? h)
def LX8_fault : List (Nat × (Instr × Nat)) := [(0, (.aload_n 0, 1)), (1, (.getfield 70, 3)), (4, (.invokevirtual 140, 3)), (7, (.ireturn, 1))]
theorem DX8_fault_all : ∀ q ∈ LX8_fault, decode cX8_fault q.1 = .ok q.2 := by decide +kernel
theorem DX8_fault (k : Nat) {pc : Nat} {q : Instr × Nat} (h : LX8_fault[k]? = some (pc, q)) : decode cX8_fault pc = .ok q := DX8_fault_all (pc, q) (List.mem_of_getElem? h)
def LX8_undo : List (Nat × (Instr × Nat)) := [(0, (.aload_n 0, 1)), (1, (.getfield 63, 3)), (4, (.invokevirtual 188, 3)), (7, (.ifCond .ne 6, 3)), (10, (.bipush (-5), 2)), (12, (.ireturn, 1)), (13, (.aload_n 0, 1)), (14, (.getfield 63, 3)), (17, (.aload_n 0, 1)), (18, (.getfield 53, 3)), (21, (.invokevirtual 251, 3)), (24, (.aload_n 0, 1)), (25, (.getfield 63, 3)), (28, (.invokevirtual 188, 3)), (31, (.ireturn, 1))]
theorem DX8_undo_all : ∀ q ∈ LX8_undo, decode cX8_undo q.1 = .ok q.2 := by decide +kernel
theorem DX8_undo (k : Nat) {pc : Nat} {q : Instr × Nat} (h : LX8_undo[k]? = some (pc, q)) : decode cX8_undo pc = .ok q := DX8_undo_all (pc, q) (List.mem_of_getElem? h)
def LX8_save : List (Nat × (Instr × Nat)) := [(0, (.iload_n 1, 1)), (1, (.ifCond .lt 8, 3)), (4, (.iload_n 1, 1)), (5, (.iconst 2, 1)), (6, (.if_icmp .lt 6, 3)), (9, (.bipush (-2), 2)), (11, (.ireturn, 1)), (12, (.aload_n 0, 1)), (13, (.getfield 74, 3)), (16, (.iload_n 1, 1)), (17, (.aaload, 1)), (18, (.aload_n 0, 1)), (19, (.getfield 53, 3)), (22, (.invokevirtual 230, 3)), (25, (.aload_n 0, 1)), (26, (.getfield 78, 3)), (29, (.iload_n 1, 1)), (30, (.iconst 1, 1)), (31, (.bastore, 1)), (32, (.aload_n 0, 1)), (33, (.getfield 53, 3)), (36, (.getfield 102, 3)), (39, (.invokestatic 106, 3)), (42, (.ireturn, 1))]
theorem DX8_save_all : ∀ q ∈ LX8_save, decode cX8_save q.1 = .ok q.2 := by decide +kernel
theorem DX8_save (k : Nat) {pc : Nat} {q : Instr × Nat} (h : LX8_save[k]? = some (pc, q)) : decode cX8_save pc = .ok q := DX8_save_all (pc, q) (List.mem_of_getElem? h)
def LX8_restore : List (Nat × (Instr × Nat)) := [(0, (.iload_n 1, 1)), (1, (.ifCond .lt 8, 3)), (4, (.iload_n 1, 1)), (5, (.iconst 2, 1)), (6, (.if_icmp .lt 6, 3)), (9, (.bipush (-2), 2)), (11, (.ireturn, 1)), (12, (.aload_n 0, 1)), (13, (.getfield 78, 3)), (16, (.iload_n 1, 1)), (17, (.baload, 1)), (18, (.ifCond .ne 6, 3)), (21, (.bipush (-5), 2)), (23, (.ireturn, 1)), (24, (.aload_n 0, 1)), (25, (.getfield 63, 3)), (28, (.aload_n 0, 1)), (29, (.getfield 53, 3)), (32, (.invokevirtual 86, 3)), (35, (.aload_n 0, 1)), (36, (.getfield 53, 3)), (39, (.aload_n 0, 1)), (40, (.getfield 74, 3)), (43, (.iload_n 1, 1)), (44, (.aaload, 1)), (45, (.invokevirtual 230, 3)), (48, (.aload_n 0, 1)), (49, (.getfield 53, 3)), (52, (.getfield 102, 3)), (55, (.invokestatic 106, 3)), (58, (.ireturn, 1))]
theorem DX8_restore_all : ∀ q ∈ LX8_restore, decode cX8_restore q.1 = .ok q.2 := by decide +kernel
theorem DX8_restore (k : Nat) {pc : Nat} {q : Instr × Nat} (h : LX8_restore[k]? = some (pc, q)) : decode cX8_restore pc = .ok q := DX8_restore_all (pc, q) (List.mem_of_getElem? h)
def LX8_errorOf : List (Nat × (Instr × Nat)) := [(0, (.iload_n 2, 1)), (1, (.invokestatic 98, 3)), (4, (.ifCond .eq 18, 3)), (7, (.iload_n 3, 1)), (8, (.invokestatic 98, 3)), (11, (.ifCond .eq 11, 3)), (14, (.iload 4, 2)), (16, (.invokestatic 98, 3)), (19, (.ifCond .ne 5, 3)), (22, (.iconst (-1), 1)), (23, (.ireturn, 1)), (24, (.iconst 1, 1)), (25, (.iload_n 2, 1)), (26, (.ishl, 1)), (27, (.iconst 1, 1)), (28, (.iload_n 3, 1)), (29, (.ishl, 1)), (30, (.ior, 1)), (31, (.iconst 1, 1)), (32, (.iload 4, 2)), (34, (.ishl, 1)), (35, (.ior, 1)), (36, (.istore 5, 2)), (38, (.iload 5, 2)), (40, (.invokestatic 106, 3)), (43, (.iconst 3, 1)), (44, (.if_icmp .ne 7, 3)), (47, (.iconst 1, 1)), (48, (.goto 4, 3)), (51, (.iconst 0, 1)), (52, (.istore 6, 2)), (54, (.iload_n 1, 1)), (55, (.ifCond .eq 8, 3)), (58, (.iload_n 1, 1)), (59, (.iconst 1, 1)), (60, (.if_icmp .ne 25, 3)), (63, (.iload 6, 2)), (65, (.ifCond .eq 20, 3)), (68, (.iload 5, 2)), (70, (.aload_n 0, 1)), (71, (.getfield 53, 3)), (74, (.getfield 102, 3)), (77, (.iand, 1)), (78, (.ifCond .ne 7, 3)), (81, (.iconst 1, 1)), (82, (.goto 4, 3)), (85, (.iconst 0, 1)), (86, (.istore 7, 2)), (88, (.iload 7, 2)), (90, (.ifCond .eq 7, 3)), (93, (.iconst 0, 1)), (94, (.goto 5, 3)), (97, (.bipush (-2), 2)), (99, (.ireturn, 1))]
theorem DX8_errorOf_all : ∀ q ∈ LX8_errorOf, decode cX8_errorOf q.1 = .ok q.2 := by decide +kernel
theorem DX8_errorOf (k : Nat) {pc : Nat} {q : Instr × Nat} (h : LX8_errorOf[k]? = some (pc, q)) : decode cX8_errorOf pc = .ok q := DX8_errorOf_all (pc, q) (List.mem_of_getElem? h)
def LX8_makeMove : List (Nat × (Instr × Nat)) := [(0, (.aload_n 0, 1)), (1, (.getfield 63, 3)), (4, (.aload_n 0, 1)), (5, (.getfield 53, 3)), (8, (.invokevirtual 86, 3)), (11, (.aload_n 0, 1)), (12, (.getfield 46, 3)), (15, (.aload_n 0, 1)), (16, (.getfield 53, 3)), (19, (.iload_n 1, 1)), (20, (.iload_n 2, 1)), (21, (.invokevirtual 233, 3)), (24, (.aload_n 0, 1)), (25, (.getfield 46, 3)), (28, (.aload_n 0, 1)), (29, (.getfield 53, 3)), (32, (.invokevirtual 172, 3)), (35, (.ifCond .eq 7, 3)), (38, (.iconst 1, 1)), (39, (.goto 4, 3)), (42, (.iconst 0, 1)), (43, (.ireturn, 1))]
theorem DX8_makeMove_all : ∀ q ∈ LX8_makeMove, decode cX8_makeMove q.1 = .ok q.2 := by decide +kernel
theorem DX8_makeMove (k : Nat) {pc : Nat} {q : Instr × Nat} (h : LX8_makeMove[k]? = some (pc, q)) : decode cX8_makeMove pc = .ok q := DX8_makeMove_all (pc, q) (List.mem_of_getElem? h)
def LX8_distanceNow : List (Nat × (Instr × Nat)) := [(0, (.aload_n 0, 1)), (1, (.getfield 46, 3)), (4, (.aload_n 0, 1)), (5, (.getfield 53, 3)), (8, (.invokevirtual 172, 3)), (11, (.ifCond .eq 5, 3)), (14, (.iconst 0, 1)), (15, (.ireturn, 1)), (16, (.aload_n 0, 1)), (17, (.getfield 21, 3)), (20, (.aload_n 0, 1)), (21, (.getfield 53, 3)), (24, (.invokevirtual 189, 3)), (27, (.aload_n 0, 1)), (28, (.getfield 21, 3)), (31, (.aload_n 0, 1)), (32, (.aload_n 0, 1)), (33, (.getfield 53, 3)), (36, (.invokevirtual 179, 3)), (39, (.invokevirtual 195, 3)), (42, (.ireturn, 1))]
theorem DX8_distanceNow_all : ∀ q ∈ LX8_distanceNow, decode cX8_distanceNow q.1 = .ok q.2 := by decide +kernel
theorem DX8_distanceNow (k : Nat) {pc : Nat} {q : Instr × Nat} (h : LX8_distanceNow[k]? = some (pc, q)) : decode cX8_distanceNow pc = .ok q := DX8_distanceNow_all (pc, q) (List.mem_of_getElem? h)
def LX8_numberNow : List (Nat × (Instr × Nat)) := [(0, (.aload_n 0, 1)), (1, (.getfield 10, 3)), (4, (.aload_n 1, 1)), (5, (.getfield 160, 3)), (8, (.aload_n 1, 1)), (9, (.getfield 163, 3)), (12, (.aload_n 1, 1)), (13, (.getfield 166, 3)), (16, (.aload_n 1, 1)), (17, (.getfield 169, 3)), (20, (.invokevirtual 192, 3)), (23, (.ireturn, 1))]
theorem DX8_numberNow_all : ∀ q ∈ LX8_numberNow, decode cX8_numberNow q.1 = .ok q.2 := by decide +kernel
theorem DX8_numberNow (k : Nat) {pc : Nat} {q : Instr × Nat} (h : LX8_numberNow[k]? = some (pc, q)) : decode cX8_numberNow pc = .ok q := DX8_numberNow_all (pc, q) (List.mem_of_getElem? h)
def LX8_foldedNumber : List (Nat × (Instr × Nat)) := [(0, (.aload_n 0, 1)), (1, (.getfield 28, 3)), (4, (.aload_n 0, 1)), (5, (.getfield 53, 3)), (8, (.getfield 102, 3)), (11, (.invokevirtual 224, 3)), (14, (.aload_n 0, 1)), (15, (.getfield 28, 3)), (18, (.iload_n 1, 1)), (19, (.invokevirtual 254, 3)), (22, (.ireturn, 1))]
theorem DX8_foldedNumber_all : ∀ q ∈ LX8_foldedNumber, decode cX8_foldedNumber q.1 = .ok q.2 := by decide +kernel
theorem DX8_foldedNumber (k : Nat) {pc : Nat} {q : Instr × Nat} (h : LX8_foldedNumber[k]? = some (pc, q)) : decode cX8_foldedNumber pc = .ok q := DX8_foldedNumber_all (pc, q) (List.mem_of_getElem? h)
def LX9_init_0 : List (Nat × (Instr × Nat)) := [(0, (.aload_n 0, 1)), (1, (.invokespecial 1, 3)), (4, (.aload_n 0, 1)), (5, (.bipush 8, 2)), (7, (.newarray .int, 2)), (9, (.putfield 7, 3)), (12, (.aload_n 0, 1)), (13, (.bipush 48, 2)), (15, (.newarray .int, 2)), (17, (.putfield 13, 3)), (20, (.aload_n 0, 1)), (21, (.bipush 16, 2)), (23, (.newarray .int, 2)), (25, (.putfield 16, 3)), (28, (.aload_n 0, 1)), (29, (.iconst 2, 1)), (30, (.newarray .boolean, 2)), (32, (.putfield 19, 3)), (35, (.aload_n 0, 1)), (36, (.bipush 120, 2)), (38, (.newarray .int, 2)), (40, (.putfield 23, 3)), (43, (.aload_n 0, 1)), (44, (.bipush 120, 2)), (46, (.newarray .int, 2)), (48, (.putfield 26, 3)), (51, (.aload_n 0, 1)), (52, (.sipush 4096, 3)), (55, (.newarray .int, 2)), (57, (.putfield 29, 3)), (60, (.aload_n 0, 1)), (61, (.sipush 4096, 3)), (64, (.newarray .int, 2)), (66, (.putfield 32, 3)), (69, (.aload_n 0, 1)), (70, (.sipush 4096, 3)), (73, (.newarray .int, 2)), (75, (.putfield 35, 3)), (78, (.aload_n 0, 1)), (79, (.sipush 128, 3)), (82, (.newarray .int, 2)), (84, (.putfield 38, 3)), (87, (.aload_n 0, 1)), (88, (.bipush 98, 2)), (90, (.newarray .int, 2)), (92, (.putfield 41, 3)), (95, (.aload_n 0, 1)), (96, (.sipush 202, 3)), (99, (.newarray .int, 2)), (101, (.putfield 44, 3)), (104, (.aload_n 0, 1)), (105, (.iconst 4, 1)), (106, (.newarray .int, 2)), (108, (.putfield 47, 3)), (111, (.aload_n 0, 1)), (112, (.bipush 24, 2)), (114, (.newarray .int, 2)), (116, (.putfield 50, 3)), (119, (.aload_n 0, 1)), (120, (.getfield 7, 3))]
theorem DX9_init_0_all : ∀ q ∈ LX9_init_0, decode cX9_init q.1 = .ok q.2 := by decide +kernel
theorem DX9_init_0 (k : Nat) {pc : Nat} {q : Instr × Nat} (h : LX9_init_0[k]? = some (pc, q)) : decode cX9_init pc = .ok q := DX9_init_0_all (pc, q) (List.mem_of_getElem? h)
def LX9_init_1 : List (Nat × (Instr × Nat)) := [(123, (.iconst 5, 1)), (124, (.iconst 5, 1)), (125, (.iastore, 1)), (126, (.aload_n 0, 1)), (127, (.getfield 7, 3)), (130, (.bipush 6, 2)), (132, (.iconst 0, 1)), (133, (.iastore, 1)), (134, (.aload_n 0, 1)), (135, (.getfield 7, 3)), (138, (.bipush 7, 2)), (140, (.bipush 15, 2)), (142, (.iastore, 1)), (143, (.iconst 0, 1)), (144, (.istore_n 1, 1)), (145, (.iconst 0, 1)), (146, (.istore_n 2, 1)), (147, (.iload_n 2, 1)), (148, (.bipush 16, 2)), (150, (.if_icmp .ge 42, 3)), (153, (.iload_n 2, 1)), (154, (.iconst 1, 1)), (155, (.iadd, 1)), (156, (.istore_n 3, 1)), (157, (.iload_n 3, 1)), (158, (.bipush 16, 2)), (160, (.if_icmp .ge 26, 3)), (163, (.aload_n 0, 1)), (164, (.getfield 23, 3)), (167, (.iload_n 1, 1)), (168, (.iload_n 2, 1)), (169, (.iastore, 1)), (170, (.aload_n 0, 1)), (171, (.getfield 26, 3)), (174, (.iload_n 1, 1)), (175, (.iload_n 3, 1)), (176, (.iastore, 1)), (177, (.iinc 1 1, 3)), (180, (.iinc 3 1, 3)), (183, (.goto (-26), 3)), (186, (.iinc 2 1, 3)), (189, (.goto (-42), 3)), (192, (.return_, 1))]
theorem DX9_init_1_all : ∀ q ∈ LX9_init_1, decode cX9_init q.1 = .ok q.2 := by decide +kernel
theorem DX9_init_1 (k : Nat) {pc : Nat} {q : Instr × Nat} (h : LX9_init_1[k]? = some (pc, q)) : decode cX9_init pc = .ok q := DX9_init_1_all (pc, q) (List.mem_of_getElem? h)
def LX9_in : List (Nat × (Instr × Nat)) := [(0, (.iload_n 0, 1)), (1, (.iload_n 1, 1)), (2, (.if_icmp .lt 12, 3)), (5, (.iload_n 0, 1)), (6, (.iload_n 2, 1)), (7, (.if_icmp .gt 7, 3)), (10, (.iconst 1, 1)), (11, (.goto 4, 3)), (14, (.iconst 0, 1)), (15, (.ireturn, 1))]
theorem DX9_in_all : ∀ q ∈ LX9_in, decode cX9_in q.1 = .ok q.2 := by decide +kernel
theorem DX9_in (k : Nat) {pc : Nat} {q : Instr × Nat} (h : LX9_in[k]? = some (pc, q)) : decode cX9_in pc = .ok q := DX9_in_all (pc, q) (List.mem_of_getElem? h)
def LX9_isPlace : List (Nat × (Instr × Nat)) := [(0, (.iload_n 0, 1)), (1, (.iconst 0, 1)), (2, (.bipush 15, 2)), (4, (.invokestatic 53, 3)), (7, (.ireturn, 1))]
theorem DX9_isPlace_all : ∀ q ∈ LX9_isPlace, decode cX9_isPlace q.1 = .ok q.2 := by decide +kernel
theorem DX9_isPlace (k : Nat) {pc : Nat} {q : Instr × Nat} (h : LX9_isPlace[k]? = some (pc, q)) : decode cX9_isPlace pc = .ok q := DX9_isPlace_all (pc, q) (List.mem_of_getElem? h)
def LX9_has : List (Nat × (Instr × Nat)) := [(0, (.iload_n 0, 1)), (1, (.iload_n 1, 1)), (2, (.ishr, 1)), (3, (.iconst 1, 1)), (4, (.iand, 1)), (5, (.iconst 1, 1)), (6, (.if_icmp .ne 7, 3)), (9, (.iconst 1, 1)), (10, (.goto 4, 3)), (13, (.iconst 0, 1)), (14, (.ireturn, 1))]
theorem DX9_has_all : ∀ q ∈ LX9_has, decode cX9_has q.1 = .ok q.2 := by decide +kernel
theorem DX9_has (k : Nat) {pc : Nat} {q : Instr × Nat} (h : LX9_has[k]? = some (pc, q)) : decode cX9_has pc = .ok q := DX9_has_all (pc, q) (List.mem_of_getElem? h)
def LX9_many : List (Nat × (Instr × Nat)) := [(0, (.iconst 0, 1)), (1, (.istore_n 1, 1)), (2, (.iconst 0, 1)), (3, (.istore_n 2, 1)), (4, (.iload_n 2, 1)), (5, (.bipush 16, 2)), (7, (.if_icmp .ge 17, 3)), (10, (.iload_n 1, 1)), (11, (.iload_n 0, 1)), (12, (.iload_n 2, 1)), (13, (.ishr, 1)), (14, (.iconst 1, 1)), (15, (.iand, 1)), (16, (.iadd, 1)), (17, (.istore_n 1, 1)), (18, (.iinc 2 1, 3)), (21, (.goto (-17), 3)), (24, (.iload_n 1, 1)), (25, (.ireturn, 1))]
theorem DX9_many_all : ∀ q ∈ LX9_many, decode cX9_many q.1 = .ok q.2 := by decide +kernel
theorem DX9_many (k : Nat) {pc : Nat} {q : Instr × Nat} (h : LX9_many[k]? = some (pc, q)) : decode cX9_many pc = .ok q := DX9_many_all (pc, q) (List.mem_of_getElem? h)
def LX9_lesser : List (Nat × (Instr × Nat)) := [(0, (.iload_n 0, 1)), (1, (.iload_n 1, 1)), (2, (.if_icmp .ge 7, 3)), (5, (.iload_n 0, 1)), (6, (.goto 4, 3)), (9, (.iload_n 1, 1)), (10, (.ireturn, 1))]
theorem DX9_lesser_all : ∀ q ∈ LX9_lesser, decode cX9_lesser q.1 = .ok q.2 := by decide +kernel
theorem DX9_lesser (k : Nat) {pc : Nat} {q : Instr × Nat} (h : LX9_lesser[k]? = some (pc, q)) : decode cX9_lesser pc = .ok q := DX9_lesser_all (pc, q) (List.mem_of_getElem? h)
def LX9_greater : List (Nat × (Instr × Nat)) := [(0, (.iload_n 0, 1)), (1, (.iload_n 1, 1)), (2, (.if_icmp .le 7, 3)), (5, (.iload_n 0, 1)), (6, (.goto 4, 3)), (9, (.iload_n 1, 1)), (10, (.ireturn, 1))]
theorem DX9_greater_all : ∀ q ∈ LX9_greater, decode cX9_greater q.1 = .ok q.2 := by decide +kernel
theorem DX9_greater (k : Nat) {pc : Nat} {q : Instr × Nat} (h : LX9_greater[k]? = some (pc, q)) : decode cX9_greater pc = .ok q := DX9_greater_all (pc, q) (List.mem_of_getElem? h)
def LX9_size : List (Nat × (Instr × Nat)) := [(0, (.iload_n 0, 1)), (1, (.ifCond .ge 8, 3)), (4, (.iload_n 0, 1)), (5, (.ineg, 1)), (6, (.goto 4, 3)), (9, (.iload_n 0, 1)), (10, (.ireturn, 1))]
theorem DX9_size_all : ∀ q ∈ LX9_size, decode cX9_size q.1 = .ok q.2 := by decide +kernel
theorem DX9_size (k : Nat) {pc : Nat} {q : Instr × Nat} (h : LX9_size[k]? = some (pc, q)) : decode cX9_size pc = .ok q := DX9_size_all (pc, q) (List.mem_of_getElem? h)
def LX9_keep : List (Nat × (Instr × Nat)) := [(0, (.aload_n 0, 1)), (1, (.getfield 57, 3)), (4, (.bipush 6, 2)), (6, (.if_icmp .ne 26, 3)), (9, (.aload_n 0, 1)), (10, (.aload_n 0, 1)), (11, (.getfield 61, 3)), (14, (.iconst 1, 1)), (15, (.iadd, 1)), (16, (.bipush 6, 2)), (18, (.irem, 1)), (19, (.putfield 61, 3)), (22, (.aload_n 0, 1)), (23, (.dup, 1)), (24, (.getfield 57, 3)), (27, (.iconst 1, 1)), (28, (.isub, 1)), (29, (.putfield 57, 3)), (32, (.aload_n 0, 1)), (33, (.getfield 61, 3)), (36, (.aload_n 0, 1)), (37, (.getfield 57, 3)), (40, (.iadd, 1)), (41, (.bipush 6, 2)), (43, (.irem, 1)), (44, (.istore_n 1, 1)), (45, (.iconst 0, 1)), (46, (.istore_n 2, 1)), (47, (.iload_n 2, 1)), (48, (.bipush 8, 2)), (50, (.if_icmp .ge 26, 3)), (53, (.aload_n 0, 1)), (54, (.getfield 13, 3)), (57, (.bipush 8, 2)), (59, (.iload_n 1, 1)), (60, (.imul, 1)), (61, (.iload_n 2, 1)), (62, (.iadd, 1)), (63, (.aload_n 0, 1)), (64, (.getfield 7, 3)), (67, (.iload_n 2, 1)), (68, (.iaload, 1)), (69, (.iastore, 1)), (70, (.iinc 2 1, 3)), (73, (.goto (-26), 3)), (76, (.aload_n 0, 1)), (77, (.dup, 1)), (78, (.getfield 57, 3)), (81, (.iconst 1, 1)), (82, (.iadd, 1)), (83, (.putfield 57, 3)), (86, (.return_, 1))]
theorem DX9_keep_all : ∀ q ∈ LX9_keep, decode cX9_keep q.1 = .ok q.2 := by decide +kernel
theorem DX9_keep (k : Nat) {pc : Nat} {q : Instr × Nat} (h : LX9_keep[k]? = some (pc, q)) : decode cX9_keep pc = .ok q := DX9_keep_all (pc, q) (List.mem_of_getElem? h)
def LX9_rowsBetween : List (Nat × (Instr × Nat)) := [(0, (.iload_n 0, 1)), (1, (.iconst 4, 1)), (2, (.idiv, 1)), (3, (.iload_n 1, 1)), (4, (.iconst 4, 1)), (5, (.idiv, 1)), (6, (.isub, 1)), (7, (.invokestatic 64, 3)), (10, (.ireturn, 1))]
theorem DX9_rowsBetween_all : ∀ q ∈ LX9_rowsBetween, decode cX9_rowsBetween q.1 = .ok q.2 := by decide +kernel
theorem DX9_rowsBetween (k : Nat) {pc : Nat} {q : Instr × Nat} (h : LX9_rowsBetween[k]? = some (pc, q)) : decode cX9_rowsBetween pc = .ok q := DX9_rowsBetween_all (pc, q) (List.mem_of_getElem? h)
def LX9_columnsBetween : List (Nat × (Instr × Nat)) := [(0, (.iload_n 0, 1)), (1, (.iconst 4, 1)), (2, (.irem, 1)), (3, (.iload_n 1, 1)), (4, (.iconst 4, 1)), (5, (.irem, 1)), (6, (.isub, 1)), (7, (.invokestatic 64, 3)), (10, (.ireturn, 1))]
theorem DX9_columnsBetween_all : ∀ q ∈ LX9_columnsBetween, decode cX9_columnsBetween q.1 = .ok q.2 := by decide +kernel
theorem DX9_columnsBetween (k : Nat) {pc : Nat} {q : Instr × Nat} (h : LX9_columnsBetween[k]? = some (pc, q)) : decode cX9_columnsBetween pc = .ok q := DX9_columnsBetween_all (pc, q) (List.mem_of_getElem? h)
def LX9_between : List (Nat × (Instr × Nat)) := [(0, (.iload_n 0, 1)), (1, (.iload_n 1, 1)), (2, (.invokestatic 68, 3)), (5, (.iload_n 0, 1)), (6, (.iload_n 1, 1)), (7, (.invokestatic 72, 3)), (10, (.iadd, 1)), (11, (.ireturn, 1))]
theorem DX9_between_all : ∀ q ∈ LX9_between, decode cX9_between q.1 = .ok q.2 := by decide +kernel
theorem DX9_between (k : Nat) {pc : Nat} {q : Instr × Nat} (h : LX9_between[k]? = some (pc, q)) : decode cX9_between pc = .ok q := DX9_between_all (pc, q) (List.mem_of_getElem? h)
def LX9_isStep : List (Nat × (Instr × Nat)) := [(0, (.iload_n 0, 1)), (1, (.iload_n 1, 1)), (2, (.invokestatic 75, 3)), (5, (.iconst 1, 1)), (6, (.if_icmp .eq 25, 3)), (9, (.iload_n 2, 1)), (10, (.ifCond .eq 25, 3)), (13, (.iload_n 0, 1)), (14, (.iload_n 1, 1)), (15, (.invokestatic 68, 3)), (18, (.iconst 1, 1)), (19, (.if_icmp .ne 16, 3)), (22, (.iload_n 0, 1)), (23, (.iload_n 1, 1)), (24, (.invokestatic 72, 3)), (27, (.iconst 1, 1)), (28, (.if_icmp .ne 7, 3)), (31, (.iconst 1, 1)), (32, (.goto 4, 3)), (35, (.iconst 0, 1)), (36, (.ireturn, 1))]
theorem DX9_isStep_all : ∀ q ∈ LX9_isStep, decode cX9_isStep q.1 = .ok q.2 := by decide +kernel
theorem DX9_isStep (k : Nat) {pc : Nat} {q : Instr × Nat} (h : LX9_isStep[k]? = some (pc, q)) : decode cX9_isStep pc = .ok q := DX9_isStep_all (pc, q) (List.mem_of_getElem? h)
def LX9_isFree : List (Nat × (Instr × Nat)) := [(0, (.aload_n 0, 1)), (1, (.getfield 7, 3)), (4, (.iconst 3, 1)), (5, (.iaload, 1)), (6, (.iload_n 1, 1)), (7, (.invokestatic 78, 3)), (10, (.ifCond .ne 7, 3)), (13, (.iconst 1, 1)), (14, (.goto 4, 3)), (17, (.iconst 0, 1)), (18, (.ireturn, 1))]
theorem DX9_isFree_all : ∀ q ∈ LX9_isFree, decode cX9_isFree q.1 = .ok q.2 := by decide +kernel
theorem DX9_isFree (k : Nat) {pc : Nat} {q : Instr × Nat} (h : LX9_isFree[k]? = some (pc, q)) : decode cX9_isFree pc = .ok q := DX9_isFree_all (pc, q) (List.mem_of_getElem? h)
def LX9_pair : List (Nat × (Instr × Nat)) := [(0, (.iload_n 0, 1)), (1, (.iload_n 1, 1)), (2, (.invokestatic 82, 3)), (5, (.istore_n 2, 1)), (6, (.iload_n 0, 1)), (7, (.iload_n 1, 1)), (8, (.invokestatic 85, 3)), (11, (.istore_n 3, 1)), (12, (.iload_n 2, 1)), (13, (.bipush 31, 2)), (15, (.iload_n 2, 1)), (16, (.isub, 1)), (17, (.imul, 1)), (18, (.iconst 2, 1)), (19, (.idiv, 1)), (20, (.iload_n 3, 1)), (21, (.iadd, 1)), (22, (.iload_n 2, 1)), (23, (.isub, 1)), (24, (.iconst 1, 1)), (25, (.isub, 1)), (26, (.ireturn, 1))]
theorem DX9_pair_all : ∀ q ∈ LX9_pair, decode cX9_pair q.1 = .ok q.2 := by decide +kernel
theorem DX9_pair (k : Nat) {pc : Nat} {q : Instr × Nat} (h : LX9_pair[k]? = some (pc, q)) : decode cX9_pair pc = .ok q := DX9_pair_all (pc, q) (List.mem_of_getElem? h)
def LX9_numberOf : List (Nat × (Instr × Nat)) := [(0, (.sipush 2048, 3)), (3, (.iload_n 0, 1)), (4, (.imul, 1)), (5, (.sipush 128, 3)), (8, (.iload_n 1, 1)), (9, (.imul, 1)), (10, (.iadd, 1)), (11, (.iload_n 2, 1)), (12, (.iload_n 3, 1)), (13, (.invokestatic 88, 3)), (16, (.iadd, 1)), (17, (.ireturn, 1))]
theorem DX9_numberOf_all : ∀ q ∈ LX9_numberOf, decode cX9_numberOf q.1 = .ok q.2 := by decide +kernel
theorem DX9_numberOf (k : Nat) {pc : Nat} {q : Instr × Nat} (h : LX9_numberOf[k]? = some (pc, q)) : decode cX9_numberOf pc = .ok q := DX9_numberOf_all (pc, q) (List.mem_of_getElem? h)
def LX9_isPosition : List (Nat × (Instr × Nat)) := [(0, (.iload_n 1, 1)), (1, (.sipush 128, 3)), (4, (.irem, 1)), (5, (.istore_n 2, 1)), (6, (.iload_n 1, 1)), (7, (.sipush 128, 3)), (10, (.idiv, 1)), (11, (.bipush 16, 2)), (13, (.irem, 1)), (14, (.istore_n 3, 1)), (15, (.iload_n 2, 1)), (16, (.bipush 120, 2)), (18, (.if_icmp .ge 11, 3)), (21, (.aload_n 0, 1)), (22, (.iload_n 3, 1)), (23, (.invokevirtual 91, 3)), (26, (.ifCond .ne 5, 3)), (29, (.iconst 0, 1)), (30, (.ireturn, 1)), (31, (.aload_n 0, 1)), (32, (.getfield 23, 3)), (35, (.iload_n 2, 1)), (36, (.iaload, 1)), (37, (.istore 4, 2)), (39, (.aload_n 0, 1)), (40, (.getfield 26, 3)), (43, (.iload_n 2, 1)), (44, (.iaload, 1)), (45, (.istore 5, 2)), (47, (.iload 4, 2)), (49, (.iload_n 3, 1)), (50, (.if_icmp .eq 31, 3)), (53, (.iload 5, 2)), (55, (.iload_n 3, 1)), (56, (.if_icmp .eq 25, 3)), (59, (.aload_n 0, 1)), (60, (.iload 4, 2)), (62, (.invokevirtual 91, 3)), (65, (.ifCond .eq 16, 3)), (68, (.aload_n 0, 1)), (69, (.iload 5, 2)), (71, (.invokevirtual 91, 3)), (74, (.ifCond .eq 7, 3)), (77, (.iconst 1, 1)), (78, (.goto 4, 3)), (81, (.iconst 0, 1)), (82, (.ireturn, 1))]
theorem DX9_isPosition_all : ∀ q ∈ LX9_isPosition, decode cX9_isPosition q.1 = .ok q.2 := by decide +kernel
theorem DX9_isPosition (k : Nat) {pc : Nat} {q : Instr × Nat} (h : LX9_isPosition[k]? = some (pc, q)) : decode cX9_isPosition pc = .ok q := DX9_isPosition_all (pc, q) (List.mem_of_getElem? h)
def LX9_canCatch : List (Nat × (Instr × Nat)) := [(0, (.aload_n 0, 1)), (1, (.getfield 23, 3)), (4, (.iload_n 2, 1)), (5, (.iaload, 1)), (6, (.iload_n 1, 1)), (7, (.aload_n 0, 1)), (8, (.getfield 7, 3)), (11, (.iconst 1, 1)), (12, (.iaload, 1)), (13, (.iconst 1, 1)), (14, (.if_icmp .ne 7, 3)), (17, (.iconst 1, 1)), (18, (.goto 4, 3)), (21, (.iconst 0, 1)), (22, (.invokestatic 95, 3)), (25, (.ifCond .ne 31, 3)), (28, (.aload_n 0, 1)), (29, (.getfield 26, 3)), (32, (.iload_n 2, 1)), (33, (.iaload, 1)), (34, (.iload_n 1, 1)), (35, (.aload_n 0, 1)), (36, (.getfield 7, 3)), (39, (.iconst 1, 1)), (40, (.iaload, 1)), (41, (.iconst 1, 1)), (42, (.if_icmp .ne 7, 3)), (45, (.iconst 1, 1)), (46, (.goto 4, 3)), (49, (.iconst 0, 1)), (50, (.invokestatic 95, 3)), (53, (.ifCond .eq 7, 3)), (56, (.iconst 1, 1)), (57, (.goto 4, 3)), (60, (.iconst 0, 1)), (61, (.ireturn, 1))]
theorem DX9_canCatch_all : ∀ q ∈ LX9_canCatch, decode cX9_canCatch q.1 = .ok q.2 := by decide +kernel
theorem DX9_canCatch (k : Nat) {pc : Nat} {q : Instr × Nat} (h : LX9_canCatch[k]? = some (pc, q)) : decode cX9_canCatch pc = .ok q := DX9_canCatch_all (pc, q) (List.mem_of_getElem? h)
def LX9_ofFox_0 : List (Nat × (Instr × Nat)) := [(0, (.iconst 0, 1)), (1, (.istore_n 3, 1)), (2, (.iconst 0, 1)), (3, (.istore 4, 2)), (5, (.iload 4, 2)), (7, (.bipush 16, 2)), (9, (.if_icmp .ge 108, 3)), (12, (.aload_n 0, 1)), (13, (.iload 4, 2)), (15, (.invokevirtual 91, 3)), (18, (.ifCond .eq 53, 3)), (21, (.iload 4, 2)), (23, (.aload_n 0, 1)), (24, (.getfield 23, 3)), (27, (.iload_n 2, 1)), (28, (.iaload, 1)), (29, (.if_icmp .eq 42, 3)), (32, (.iload 4, 2)), (34, (.aload_n 0, 1)), (35, (.getfield 26, 3)), (38, (.iload_n 2, 1)), (39, (.iaload, 1)), (40, (.if_icmp .eq 31, 3)), (43, (.iload_n 1, 1)), (44, (.iload 4, 2)), (46, (.aload_n 0, 1)), (47, (.getfield 7, 3)), (50, (.iconst 0, 1)), (51, (.iaload, 1)), (52, (.iconst 1, 1)), (53, (.if_icmp .ne 7, 3)), (56, (.iconst 1, 1)), (57, (.goto 4, 3)), (60, (.iconst 0, 1)), (61, (.invokestatic 95, 3)), (64, (.ifCond .eq 7, 3)), (67, (.iconst 1, 1)), (68, (.goto 4, 3)), (71, (.iconst 0, 1)), (72, (.istore 5, 2)), (74, (.iload 5, 2)), (76, (.ifCond .eq 35, 3)), (79, (.aload_n 0, 1)), (80, (.getfield 29, 3)), (83, (.sipush 128, 3)), (86, (.iload 4, 2)), (88, (.imul, 1)), (89, (.iload_n 2, 1)), (90, (.iadd, 1)), (91, (.iaload, 1)), (92, (.istore 6, 2)), (94, (.iload 6, 2)), (96, (.ifCond .ge 6, 3)), (99, (.bipush (-6), 2)), (101, (.ireturn, 1)), (102, (.iload_n 3, 1)), (103, (.iload 6, 2)), (105, (.iconst 1, 1)), (106, (.iadd, 1)), (107, (.invokestatic 85, 3))]
theorem DX9_ofFox_0_all : ∀ q ∈ LX9_ofFox_0, decode cX9_ofFox q.1 = .ok q.2 := by decide +kernel
theorem DX9_ofFox_0 (k : Nat) {pc : Nat} {q : Instr × Nat} (h : LX9_ofFox_0[k]? = some (pc, q)) : decode cX9_ofFox pc = .ok q := DX9_ofFox_0_all (pc, q) (List.mem_of_getElem? h)
def LX9_ofFox_1 : List (Nat × (Instr × Nat)) := [(110, (.istore_n 3, 1)), (111, (.iinc 4 1, 3)), (114, (.goto (-109), 3)), (117, (.iload_n 3, 1)), (118, (.ireturn, 1))]
theorem DX9_ofFox_1_all : ∀ q ∈ LX9_ofFox_1, decode cX9_ofFox q.1 = .ok q.2 := by decide +kernel
theorem DX9_ofFox_1 (k : Nat) {pc : Nat} {q : Instr × Nat} (h : LX9_ofFox_1[k]? = some (pc, q)) : decode cX9_ofFox pc = .ok q := DX9_ofFox_1_all (pc, q) (List.mem_of_getElem? h)
def LX9_ofHunter : List (Nat × (Instr × Nat)) := [(0, (.bipush (-6), 2)), (2, (.istore 4, 2)), (4, (.iconst 0, 1)), (5, (.istore 5, 2)), (7, (.iload 5, 2)), (9, (.bipush 16, 2)), (11, (.if_icmp .ge 74, 3)), (14, (.aload_n 0, 1)), (15, (.iload 5, 2)), (17, (.invokevirtual 91, 3)), (20, (.ifCond .eq 59, 3)), (23, (.iload 5, 2)), (25, (.iload_n 3, 1)), (26, (.if_icmp .eq 53, 3)), (29, (.iload 5, 2)), (31, (.iload_n 1, 1)), (32, (.if_icmp .eq 47, 3)), (35, (.iload_n 2, 1)), (36, (.iload 5, 2)), (38, (.aload_n 0, 1)), (39, (.getfield 7, 3)), (42, (.iconst 1, 1)), (43, (.iaload, 1)), (44, (.iconst 1, 1)), (45, (.if_icmp .ne 7, 3)), (48, (.iconst 1, 1)), (49, (.goto 4, 3)), (52, (.iconst 0, 1)), (53, (.invokestatic 95, 3)), (56, (.ifCond .eq 23, 3)), (59, (.iload 4, 2)), (61, (.aload_n 0, 1)), (62, (.getfield 29, 3)), (65, (.iconst 1, 1)), (66, (.iload_n 1, 1)), (67, (.iload 5, 2)), (69, (.iload_n 3, 1)), (70, (.invokestatic 99, 3)), (73, (.iaload, 1)), (74, (.invokestatic 103, 3)), (77, (.istore 4, 2)), (79, (.iinc 5 1, 3)), (82, (.goto (-75), 3)), (85, (.iload 4, 2)), (87, (.ireturn, 1))]
theorem DX9_ofHunter_all : ∀ q ∈ LX9_ofHunter, decode cX9_ofHunter q.1 = .ok q.2 := by decide +kernel
theorem DX9_ofHunter (k : Nat) {pc : Nat} {q : Instr × Nat} (h : LX9_ofHunter[k]? = some (pc, q)) : decode cX9_ofHunter pc = .ok q := DX9_ofHunter_all (pc, q) (List.mem_of_getElem? h)
def LX9_nearer : List (Nat × (Instr × Nat)) := [(0, (.iload_n 0, 1)), (1, (.ifCond .ge 7, 3)), (4, (.iload_n 1, 1)), (5, (.goto 16, 3)), (8, (.iload_n 1, 1)), (9, (.ifCond .ge 7, 3)), (12, (.iload_n 0, 1)), (13, (.goto 8, 3)), (16, (.iload_n 0, 1)), (17, (.iload_n 1, 1)), (18, (.invokestatic 82, 3)), (21, (.ireturn, 1))]
theorem DX9_nearer_all : ∀ q ∈ LX9_nearer, decode cX9_nearer q.1 = .ok q.2 := by decide +kernel
theorem DX9_nearer (k : Nat) {pc : Nat} {q : Instr × Nat} (h : LX9_nearer[k]? = some (pc, q)) : decode cX9_nearer pc = .ok q := DX9_nearer_all (pc, q) (List.mem_of_getElem? h)
def LX9_ofHunters : List (Nat × (Instr × Nat)) := [(0, (.aload_n 0, 1)), (1, (.iload_n 1, 1)), (2, (.iload_n 2, 1)), (3, (.invokevirtual 106, 3)), (6, (.ifCond .eq 5, 3)), (9, (.iconst 1, 1)), (10, (.ireturn, 1)), (11, (.aload_n 0, 1)), (12, (.iload_n 1, 1)), (13, (.aload_n 0, 1)), (14, (.getfield 23, 3)), (17, (.iload_n 2, 1)), (18, (.iaload, 1)), (19, (.aload_n 0, 1)), (20, (.getfield 26, 3)), (23, (.iload_n 2, 1)), (24, (.iaload, 1)), (25, (.invokevirtual 109, 3)), (28, (.aload_n 0, 1)), (29, (.iload_n 1, 1)), (30, (.aload_n 0, 1)), (31, (.getfield 26, 3)), (34, (.iload_n 2, 1)), (35, (.iaload, 1)), (36, (.aload_n 0, 1)), (37, (.getfield 23, 3)), (40, (.iload_n 2, 1)), (41, (.iaload, 1)), (42, (.invokevirtual 109, 3)), (45, (.invokestatic 103, 3)), (48, (.istore_n 3, 1)), (49, (.aload_n 0, 1)), (50, (.getfield 7, 3)), (53, (.iconst 2, 1)), (54, (.iaload, 1)), (55, (.iconst 1, 1)), (56, (.if_icmp .ne 26, 3)), (59, (.iload_n 3, 1)), (60, (.aload_n 0, 1)), (61, (.getfield 29, 3)), (64, (.sipush 2048, 3)), (67, (.sipush 128, 3)), (70, (.iload_n 1, 1)), (71, (.imul, 1)), (72, (.iadd, 1)), (73, (.iload_n 2, 1)), (74, (.iadd, 1)), (75, (.iaload, 1)), (76, (.invokestatic 103, 3)), (79, (.goto 4, 3)), (82, (.iload_n 3, 1)), (83, (.istore_n 3, 1)), (84, (.iload_n 3, 1)), (85, (.ifCond .ge 8, 3)), (88, (.bipush (-6), 2)), (90, (.goto 6, 3)), (93, (.iload_n 3, 1)), (94, (.iconst 1, 1)), (95, (.iadd, 1)), (96, (.ireturn, 1))]
theorem DX9_ofHunters_all : ∀ q ∈ LX9_ofHunters, decode cX9_ofHunters q.1 = .ok q.2 := by decide +kernel
theorem DX9_ofHunters (k : Nat) {pc : Nat} {q : Instr × Nat} (h : LX9_ofHunters[k]? = some (pc, q)) : decode cX9_ofHunters pc = .ok q := DX9_ofHunters_all (pc, q) (List.mem_of_getElem? h)
def LX9_workOut : List (Nat × (Instr × Nat)) := [(0, (.iconst 0, 1)), (1, (.istore_n 2, 1)), (2, (.iconst 0, 1)), (3, (.istore_n 3, 1)), (4, (.iload_n 3, 1)), (5, (.sipush 4096, 3)), (8, (.if_icmp .ge 87, 3)), (11, (.aload_n 0, 1)), (12, (.getfield 29, 3)), (15, (.iload_n 3, 1)), (16, (.iaload, 1)), (17, (.ifCond .ge 72, 3)), (20, (.aload_n 0, 1)), (21, (.iload_n 3, 1)), (22, (.invokevirtual 113, 3)), (25, (.ifCond .eq 64, 3)), (28, (.iload_n 3, 1)), (29, (.sipush 128, 3)), (32, (.idiv, 1)), (33, (.bipush 16, 2)), (35, (.irem, 1)), (36, (.istore 4, 2)), (38, (.iload_n 3, 1)), (39, (.sipush 128, 3)), (42, (.irem, 1)), (43, (.istore 5, 2)), (45, (.iload_n 3, 1)), (46, (.sipush 2048, 3)), (49, (.if_icmp .ge 14, 3)), (52, (.aload_n 0, 1)), (53, (.iload 4, 2)), (55, (.iload 5, 2)), (57, (.invokevirtual 116, 3)), (60, (.goto 11, 3)), (63, (.aload_n 0, 1)), (64, (.iload 4, 2)), (66, (.iload 5, 2)), (68, (.invokevirtual 119, 3)), (71, (.istore 6, 2)), (73, (.iload 6, 2)), (75, (.iload_n 1, 1)), (76, (.if_icmp .ne 13, 3)), (79, (.aload_n 0, 1)), (80, (.getfield 29, 3)), (83, (.iload_n 3, 1)), (84, (.iload 6, 2)), (86, (.iastore, 1)), (87, (.iconst 1, 1)), (88, (.istore_n 2, 1)), (89, (.iinc 3 1, 3)), (92, (.goto (-88), 3)), (95, (.iload_n 2, 1)), (96, (.ireturn, 1))]
theorem DX9_workOut_all : ∀ q ∈ LX9_workOut, decode cX9_workOut q.1 = .ok q.2 := by decide +kernel
theorem DX9_workOut (k : Nat) {pc : Nat} {q : Instr × Nat} (h : LX9_workOut[k]? = some (pc, q)) : decode cX9_workOut pc = .ok q := DX9_workOut_all (pc, q) (List.mem_of_getElem? h)
def LX9_workOutAll : List (Nat × (Instr × Nat)) := [(0, (.iconst 0, 1)), (1, (.istore_n 1, 1)), (2, (.iload_n 1, 1)), (3, (.sipush 4096, 3)), (6, (.if_icmp .ge 17, 3)), (9, (.aload_n 0, 1)), (10, (.getfield 29, 3)), (13, (.iload_n 1, 1)), (14, (.bipush (-6), 2)), (16, (.iastore, 1)), (17, (.iinc 1 1, 3)), (20, (.goto (-18), 3)), (23, (.iconst 0, 1)), (24, (.istore_n 1, 1)), (25, (.iconst 0, 1)), (26, (.istore_n 2, 1)), (27, (.iload_n 1, 1)), (28, (.iconst 3, 1)), (29, (.if_icmp .ge 25, 3)), (32, (.aload_n 0, 1)), (33, (.iload_n 2, 1)), (34, (.invokevirtual 122, 3)), (37, (.ifCond .eq 7, 3)), (40, (.iconst 0, 1)), (41, (.goto 6, 3)), (44, (.iload_n 1, 1)), (45, (.iconst 1, 1)), (46, (.iadd, 1)), (47, (.istore_n 1, 1)), (48, (.iinc 2 1, 3)), (51, (.goto (-24), 3)), (54, (.return_, 1))]
theorem DX9_workOutAll_all : ∀ q ∈ LX9_workOutAll, decode cX9_workOutAll q.1 = .ok q.2 := by decide +kernel
theorem DX9_workOutAll (k : Nat) {pc : Nat} {q : Instr × Nat} (h : LX9_workOutAll[k]? = some (pc, q)) : decode cX9_workOutAll pc = .ok q := DX9_workOutAll_all (pc, q) (List.mem_of_getElem? h)
def LX9_turned : List (Nat × (Instr × Nat)) := [(0, (.iload_n 1, 1)), (1, (.iconst 4, 1)), (2, (.idiv, 1)), (3, (.istore_n 2, 1)), (4, (.iload_n 1, 1)), (5, (.iconst 4, 1)), (6, (.irem, 1)), (7, (.istore_n 3, 1)), (8, (.iload_n 0, 1)), (9, (.iconst 1, 1)), (10, (.iand, 1)), (11, (.iconst 1, 1)), (12, (.if_icmp .ne 9, 3)), (15, (.iconst 3, 1)), (16, (.iload_n 2, 1)), (17, (.isub, 1)), (18, (.goto 4, 3)), (21, (.iload_n 2, 1)), (22, (.istore 4, 2)), (24, (.iload_n 0, 1)), (25, (.iconst 2, 1)), (26, (.iand, 1)), (27, (.iconst 2, 1)), (28, (.if_icmp .ne 9, 3)), (31, (.iconst 3, 1)), (32, (.iload_n 3, 1)), (33, (.isub, 1)), (34, (.goto 4, 3)), (37, (.iload_n 3, 1)), (38, (.istore 5, 2)), (40, (.iload_n 0, 1)), (41, (.iconst 4, 1)), (42, (.iand, 1)), (43, (.iconst 4, 1)), (44, (.if_icmp .ne 13, 3)), (47, (.iconst 4, 1)), (48, (.iload 5, 2)), (50, (.imul, 1)), (51, (.iload 4, 2)), (53, (.iadd, 1)), (54, (.goto 10, 3)), (57, (.iconst 4, 1)), (58, (.iload 4, 2)), (60, (.imul, 1)), (61, (.iload 5, 2)), (63, (.iadd, 1)), (64, (.ireturn, 1))]
theorem DX9_turned_all : ∀ q ∈ LX9_turned, decode cX9_turned q.1 = .ok q.2 := by decide +kernel
theorem DX9_turned (k : Nat) {pc : Nat} {q : Instr × Nat} (h : LX9_turned[k]? = some (pc, q)) : decode cX9_turned pc = .ok q := DX9_turned_all (pc, q) (List.mem_of_getElem? h)
def LX9_findSymmetries_0 : List (Nat × (Instr × Nat)) := [(0, (.aload_n 0, 1)), (1, (.iconst 0, 1)), (2, (.putfield 125, 3)), (5, (.iconst 0, 1)), (6, (.istore_n 1, 1)), (7, (.iload_n 1, 1)), (8, (.bipush 8, 2)), (10, (.if_icmp .ge 96, 3)), (13, (.iconst 0, 1)), (14, (.istore_n 2, 1)), (15, (.iconst 0, 1)), (16, (.istore_n 3, 1)), (17, (.iload_n 3, 1)), (18, (.bipush 16, 2)), (20, (.if_icmp .ge 56, 3)), (23, (.iload_n 1, 1)), (24, (.iload_n 3, 1)), (25, (.invokestatic 128, 3)), (28, (.istore 4, 2)), (30, (.iload_n 2, 1)), (31, (.aload_n 0, 1)), (32, (.getfield 7, 3)), (35, (.iconst 3, 1)), (36, (.iaload, 1)), (37, (.iload_n 3, 1)), (38, (.invokestatic 78, 3)), (41, (.ifCond .eq 10, 3)), (44, (.iconst 1, 1)), (45, (.iload 4, 2)), (47, (.ishl, 1)), (48, (.goto 4, 3)), (51, (.iconst 0, 1)), (52, (.ior, 1)), (53, (.istore_n 2, 1)), (54, (.aload_n 0, 1)), (55, (.getfield 38, 3)), (58, (.bipush 16, 2)), (60, (.aload_n 0, 1)), (61, (.getfield 125, 3)), (64, (.imul, 1)), (65, (.iload_n 3, 1)), (66, (.iadd, 1)), (67, (.iload 4, 2)), (69, (.iastore, 1)), (70, (.iinc 3 1, 3)), (73, (.goto (-56), 3)), (76, (.aload_n 0, 1)), (77, (.dup, 1)), (78, (.getfield 125, 3)), (81, (.iload_n 2, 1)), (82, (.aload_n 0, 1)), (83, (.getfield 7, 3)), (86, (.iconst 3, 1)), (87, (.iaload, 1)), (88, (.if_icmp .ne 7, 3)), (91, (.iconst 1, 1)), (92, (.goto 4, 3)), (95, (.iconst 0, 1)), (96, (.iadd, 1)), (97, (.putfield 125, 3))]
theorem DX9_findSymmetries_0_all : ∀ q ∈ LX9_findSymmetries_0, decode cX9_findSymmetries q.1 = .ok q.2 := by decide +kernel
theorem DX9_findSymmetries_0 (k : Nat) {pc : Nat} {q : Instr × Nat} (h : LX9_findSymmetries_0[k]? = some (pc, q)) : decode cX9_findSymmetries pc = .ok q := DX9_findSymmetries_0_all (pc, q) (List.mem_of_getElem? h)
def LX9_findSymmetries_1 : List (Nat × (Instr × Nat)) := [(100, (.iinc 1 1, 3)), (103, (.goto (-96), 3)), (106, (.return_, 1))]
theorem DX9_findSymmetries_1_all : ∀ q ∈ LX9_findSymmetries_1, decode cX9_findSymmetries q.1 = .ok q.2 := by decide +kernel
theorem DX9_findSymmetries_1 (k : Nat) {pc : Nat} {q : Instr × Nat} (h : LX9_findSymmetries_1[k]? = some (pc, q)) : decode cX9_findSymmetries pc = .ok q := DX9_findSymmetries_1_all (pc, q) (List.mem_of_getElem? h)
def LX9_madeBy : List (Nat × (Instr × Nat)) := [(0, (.bipush 16, 2)), (2, (.iload_n 1, 1)), (3, (.imul, 1)), (4, (.istore_n 3, 1)), (5, (.iload_n 2, 1)), (6, (.sipush 128, 3)), (9, (.irem, 1)), (10, (.istore 4, 2)), (12, (.iload_n 2, 1)), (13, (.sipush 2048, 3)), (16, (.idiv, 1)), (17, (.aload_n 0, 1)), (18, (.getfield 38, 3)), (21, (.iload_n 3, 1)), (22, (.iload_n 2, 1)), (23, (.sipush 128, 3)), (26, (.idiv, 1)), (27, (.bipush 16, 2)), (29, (.irem, 1)), (30, (.iadd, 1)), (31, (.iaload, 1)), (32, (.aload_n 0, 1)), (33, (.getfield 38, 3)), (36, (.iload_n 3, 1)), (37, (.aload_n 0, 1)), (38, (.getfield 23, 3)), (41, (.iload 4, 2)), (43, (.iaload, 1)), (44, (.iadd, 1)), (45, (.iaload, 1)), (46, (.aload_n 0, 1)), (47, (.getfield 38, 3)), (50, (.iload_n 3, 1)), (51, (.aload_n 0, 1)), (52, (.getfield 26, 3)), (55, (.iload 4, 2)), (57, (.iaload, 1)), (58, (.iadd, 1)), (59, (.iaload, 1)), (60, (.invokestatic 99, 3)), (63, (.ireturn, 1))]
theorem DX9_madeBy_all : ∀ q ∈ LX9_madeBy, decode cX9_madeBy q.1 = .ok q.2 := by decide +kernel
theorem DX9_madeBy (k : Nat) {pc : Nat} {q : Instr × Nat} (h : LX9_madeBy[k]? = some (pc, q)) : decode cX9_madeBy pc = .ok q := DX9_madeBy_all (pc, q) (List.mem_of_getElem? h)
def LX9_fold : List (Nat × (Instr × Nat)) := [(0, (.iconst 0, 1)), (1, (.istore_n 1, 1)), (2, (.iload_n 1, 1)), (3, (.sipush 4096, 3)), (6, (.if_icmp .ge 37, 3)), (9, (.aload_n 0, 1)), (10, (.getfield 35, 3)), (13, (.iload_n 1, 1)), (14, (.iconst 0, 1)), (15, (.iastore, 1)), (16, (.aload_n 0, 1)), (17, (.getfield 32, 3)), (20, (.iload_n 1, 1)), (21, (.bipush (-6), 2)), (23, (.iastore, 1)), (24, (.aload_n 0, 1)), (25, (.iload_n 1, 1)), (26, (.invokevirtual 113, 3)), (29, (.ifCond .eq 8, 3)), (32, (.aload_n 0, 1)), (33, (.iload_n 1, 1)), (34, (.invokevirtual 131, 3)), (37, (.iinc 1 1, 3)), (40, (.goto (-38), 3)), (43, (.return_, 1))]
theorem DX9_fold_all : ∀ q ∈ LX9_fold, decode cX9_fold q.1 = .ok q.2 := by decide +kernel
theorem DX9_fold (k : Nat) {pc : Nat} {q : Instr × Nat} (h : LX9_fold[k]? = some (pc, q)) : decode cX9_fold pc = .ok q := DX9_fold_all (pc, q) (List.mem_of_getElem? h)
def LX9_foldOne_0 : List (Nat × (Instr × Nat)) := [(0, (.iload_n 1, 1)), (1, (.istore_n 2, 1)), (2, (.iconst 0, 1)), (3, (.istore_n 3, 1)), (4, (.iconst 0, 1)), (5, (.istore 4, 2)), (7, (.iload 4, 2)), (9, (.aload_n 0, 1)), (10, (.getfield 125, 3)), (13, (.if_icmp .ge 79, 3)), (16, (.aload_n 0, 1)), (17, (.iload 4, 2)), (19, (.iload_n 1, 1)), (20, (.invokevirtual 135, 3)), (23, (.istore 5, 2)), (25, (.iconst 1, 1)), (26, (.istore 6, 2)), (28, (.iconst 0, 1)), (29, (.istore 7, 2)), (31, (.iload 7, 2)), (33, (.iload 4, 2)), (35, (.if_icmp .ge 31, 3)), (38, (.iload 6, 2)), (40, (.aload_n 0, 1)), (41, (.iload 7, 2)), (43, (.iload_n 1, 1)), (44, (.invokevirtual 135, 3)), (47, (.iload 5, 2)), (49, (.if_icmp .eq 7, 3)), (52, (.iconst 1, 1)), (53, (.goto 4, 3)), (56, (.iconst 0, 1)), (57, (.iand, 1)), (58, (.istore 6, 2)), (60, (.iinc 7 1, 3)), (63, (.goto (-32), 3)), (66, (.iload_n 3, 1)), (67, (.iload 6, 2)), (69, (.ifCond .eq 7, 3)), (72, (.iconst 1, 1)), (73, (.goto 4, 3)), (76, (.iconst 0, 1)), (77, (.iadd, 1)), (78, (.istore_n 3, 1)), (79, (.iload_n 2, 1)), (80, (.iload 5, 2)), (82, (.invokestatic 82, 3)), (85, (.istore_n 2, 1)), (86, (.iinc 4 1, 3)), (89, (.goto (-82), 3)), (92, (.aload_n 0, 1)), (93, (.getfield 32, 3)), (96, (.iload_n 1, 1)), (97, (.iload_n 2, 1)), (98, (.iastore, 1)), (99, (.aload_n 0, 1)), (100, (.getfield 35, 3)), (103, (.iload_n 1, 1)), (104, (.iload_n 3, 1)), (105, (.iastore, 1))]
theorem DX9_foldOne_0_all : ∀ q ∈ LX9_foldOne_0, decode cX9_foldOne q.1 = .ok q.2 := by decide +kernel
theorem DX9_foldOne_0 (k : Nat) {pc : Nat} {q : Instr × Nat} (h : LX9_foldOne_0[k]? = some (pc, q)) : decode cX9_foldOne pc = .ok q := DX9_foldOne_0_all (pc, q) (List.mem_of_getElem? h)
def LX9_foldOne_1 : List (Nat × (Instr × Nat)) := [(106, (.return_, 1))]
theorem DX9_foldOne_1_all : ∀ q ∈ LX9_foldOne_1, decode cX9_foldOne q.1 = .ok q.2 := by decide +kernel
theorem DX9_foldOne_1 (k : Nat) {pc : Nat} {q : Instr × Nat} (h : LX9_foldOne_1[k]? = some (pc, q)) : decode cX9_foldOne pc = .ok q := DX9_foldOne_1_all (pc, q) (List.mem_of_getElem? h)
def LX9_key : List (Nat × (Instr × Nat)) := [(0, (.iload_n 1, 1)), (1, (.sipush 128, 3)), (4, (.irem, 1)), (5, (.istore_n 2, 1)), (6, (.iload_n 1, 1)), (7, (.sipush 128, 3)), (10, (.idiv, 1)), (11, (.bipush 16, 2)), (13, (.irem, 1)), (14, (.istore_n 3, 1)), (15, (.iload_n 3, 1)), (16, (.aload_n 0, 1)), (17, (.getfield 23, 3)), (20, (.iload_n 2, 1)), (21, (.iaload, 1)), (22, (.invokestatic 75, 3)), (25, (.istore 4, 2)), (27, (.iload_n 3, 1)), (28, (.aload_n 0, 1)), (29, (.getfield 26, 3)), (32, (.iload_n 2, 1)), (33, (.iaload, 1)), (34, (.invokestatic 75, 3)), (37, (.istore 5, 2)), (39, (.bipush 49, 2)), (41, (.iload_n 1, 1)), (42, (.sipush 2048, 3)), (45, (.idiv, 1)), (46, (.imul, 1)), (47, (.bipush 7, 2)), (49, (.iload 4, 2)), (51, (.iload 5, 2)), (53, (.invokestatic 82, 3)), (56, (.imul, 1)), (57, (.iadd, 1)), (58, (.iload 4, 2)), (60, (.iload 5, 2)), (62, (.invokestatic 85, 3)), (65, (.iadd, 1)), (66, (.ireturn, 1))]
theorem DX9_key_all : ∀ q ∈ LX9_key, decode cX9_key q.1 = .ok q.2 := by decide +kernel
theorem DX9_key (k : Nat) {pc : Nat} {q : Instr × Nat} (h : LX9_key[k]? = some (pc, q)) : decode cX9_key pc = .ok q := DX9_key_all (pc, q) (List.mem_of_getElem? h)
def LX9_ruleOf_0 : List (Nat × (Instr × Nat)) := [(0, (.iconst 0, 1)), (1, (.istore_n 2, 1)), (2, (.iload_n 2, 1)), (3, (.sipush 202, 3)), (6, (.if_icmp .ge 16, 3)), (9, (.aload_n 0, 1)), (10, (.getfield 44, 3)), (13, (.iload_n 2, 1)), (14, (.iconst 0, 1)), (15, (.iastore, 1)), (16, (.iinc 2 1, 3)), (19, (.goto (-17), 3)), (22, (.sipush 201, 3)), (25, (.istore_n 2, 1)), (26, (.iconst 0, 1)), (27, (.istore_n 3, 1)), (28, (.iconst 0, 1)), (29, (.istore 4, 2)), (31, (.iload 4, 2)), (33, (.sipush 4096, 3)), (36, (.if_icmp .ge 63, 3)), (39, (.aload_n 0, 1)), (40, (.getfield 32, 3)), (43, (.iload 4, 2)), (45, (.iaload, 1)), (46, (.iload 4, 2)), (48, (.if_icmp .ne 45, 3)), (51, (.aload_n 0, 1)), (52, (.iload 4, 2)), (54, (.invokevirtual 138, 3)), (57, (.iload_n 1, 1)), (58, (.if_icmp .ne 35, 3)), (61, (.aload_n 0, 1)), (62, (.getfield 44, 3)), (65, (.aload_n 0, 1)), (66, (.getfield 29, 3)), (69, (.iload 4, 2)), (71, (.iaload, 1)), (72, (.ifCond .ge 7, 3)), (75, (.iload_n 2, 1)), (76, (.goto 10, 3)), (79, (.aload_n 0, 1)), (80, (.getfield 29, 3)), (83, (.iload 4, 2)), (85, (.iaload, 1)), (86, (.dup2, 1)), (87, (.iaload, 1)), (88, (.iconst 1, 1)), (89, (.iadd, 1)), (90, (.iastore, 1)), (91, (.iconst 1, 1)), (92, (.istore_n 3, 1)), (93, (.iinc 4 1, 3)), (96, (.goto (-65), 3)), (99, (.iconst 0, 1)), (100, (.istore 4, 2)), (102, (.iconst 1, 1)), (103, (.istore 5, 2)), (105, (.iload 5, 2)), (107, (.iload_n 2, 1))]
theorem DX9_ruleOf_0_all : ∀ q ∈ LX9_ruleOf_0, decode cX9_ruleOf q.1 = .ok q.2 := by decide +kernel
theorem DX9_ruleOf_0 (k : Nat) {pc : Nat} {q : Instr × Nat} (h : LX9_ruleOf_0[k]? = some (pc, q)) : decode cX9_ruleOf pc = .ok q := DX9_ruleOf_0_all (pc, q) (List.mem_of_getElem? h)
def LX9_ruleOf_1 : List (Nat × (Instr × Nat)) := [(108, (.if_icmp .gt 35, 3)), (111, (.aload_n 0, 1)), (112, (.getfield 44, 3)), (115, (.iload 5, 2)), (117, (.iaload, 1)), (118, (.aload_n 0, 1)), (119, (.getfield 44, 3)), (122, (.iload 4, 2)), (124, (.iaload, 1)), (125, (.if_icmp .le 8, 3)), (128, (.iload 5, 2)), (130, (.goto 5, 3)), (133, (.iload 4, 2)), (135, (.istore 4, 2)), (137, (.iinc 5 1, 3)), (140, (.goto (-35), 3)), (143, (.iload_n 3, 1)), (144, (.ifCond .ne 7, 3)), (147, (.iconst (-1), 1)), (148, (.goto 16, 3)), (151, (.iload 4, 2)), (153, (.iload_n 2, 1)), (154, (.if_icmp .ne 8, 3)), (157, (.bipush (-6), 2)), (159, (.goto 5, 3)), (162, (.iload 4, 2)), (164, (.ireturn, 1))]
theorem DX9_ruleOf_1_all : ∀ q ∈ LX9_ruleOf_1, decode cX9_ruleOf q.1 = .ok q.2 := by decide +kernel
theorem DX9_ruleOf_1 (k : Nat) {pc : Nat} {q : Instr × Nat} (h : LX9_ruleOf_1[k]? = some (pc, q)) : decode cX9_ruleOf pc = .ok q := DX9_ruleOf_1_all (pc, q) (List.mem_of_getElem? h)
def LX9_isAsWorked : List (Nat × (Instr × Nat)) := [(0, (.aload_n 0, 1)), (1, (.getfield 141, 3)), (4, (.istore_n 1, 1)), (5, (.iconst 0, 1)), (6, (.istore_n 2, 1)), (7, (.iload_n 2, 1)), (8, (.iconst 4, 1)), (9, (.if_icmp .ge 32, 3)), (12, (.iload_n 1, 1)), (13, (.aload_n 0, 1)), (14, (.getfield 47, 3)), (17, (.iload_n 2, 1)), (18, (.iaload, 1)), (19, (.aload_n 0, 1)), (20, (.getfield 7, 3)), (23, (.iload_n 2, 1)), (24, (.iaload, 1)), (25, (.if_icmp .ne 7, 3)), (28, (.iconst 1, 1)), (29, (.goto 4, 3)), (32, (.iconst 0, 1)), (33, (.iand, 1)), (34, (.istore_n 1, 1)), (35, (.iinc 2 1, 3)), (38, (.goto (-31), 3)), (41, (.iload_n 1, 1)), (42, (.ireturn, 1))]
theorem DX9_isAsWorked_all : ∀ q ∈ LX9_isAsWorked, decode cX9_isAsWorked q.1 = .ok q.2 := by decide +kernel
theorem DX9_isAsWorked (k : Nat) {pc : Nat} {q : Instr × Nat} (h : LX9_isAsWorked[k]? = some (pc, q)) : decode cX9_isAsWorked pc = .ok q := DX9_isAsWorked_all (pc, q) (List.mem_of_getElem? h)
def LX9_work : List (Nat × (Instr × Nat)) := [(0, (.aload_n 0, 1)), (1, (.invokevirtual 145, 3)), (4, (.ifCond .eq 4, 3)), (7, (.return_, 1)), (8, (.iconst 0, 1)), (9, (.istore_n 1, 1)), (10, (.iload_n 1, 1)), (11, (.iconst 4, 1)), (12, (.if_icmp .ge 21, 3)), (15, (.aload_n 0, 1)), (16, (.getfield 47, 3)), (19, (.iload_n 1, 1)), (20, (.aload_n 0, 1)), (21, (.getfield 7, 3)), (24, (.iload_n 1, 1)), (25, (.iaload, 1)), (26, (.iastore, 1)), (27, (.iinc 1 1, 3)), (30, (.goto (-20), 3)), (33, (.aload_n 0, 1)), (34, (.iconst 1, 1)), (35, (.putfield 141, 3)), (38, (.aload_n 0, 1)), (39, (.invokevirtual 149, 3)), (42, (.aload_n 0, 1)), (43, (.invokevirtual 152, 3)), (46, (.aload_n 0, 1)), (47, (.invokevirtual 155, 3)), (50, (.iconst 0, 1)), (51, (.istore_n 1, 1)), (52, (.iload_n 1, 1)), (53, (.bipush 98, 2)), (55, (.if_icmp .ge 20, 3)), (58, (.aload_n 0, 1)), (59, (.getfield 41, 3)), (62, (.iload_n 1, 1)), (63, (.aload_n 0, 1)), (64, (.iload_n 1, 1)), (65, (.invokevirtual 158, 3)), (68, (.iastore, 1)), (69, (.iinc 1 1, 3)), (72, (.goto (-20), 3)), (75, (.return_, 1))]
theorem DX9_work_all : ∀ q ∈ LX9_work, decode cX9_work q.1 = .ok q.2 := by decide +kernel
theorem DX9_work (k : Nat) {pc : Nat} {q : Instr × Nat} (h : LX9_work[k]? = some (pc, q)) : decode cX9_work pc = .ok q := DX9_work_all (pc, q) (List.mem_of_getElem? h)
def LX9_isHit : List (Nat × (Instr × Nat)) := [(0, (.aload_n 0, 1)), (1, (.getfield 7, 3)), (4, (.bipush 6, 2)), (6, (.iaload, 1)), (7, (.aload_n 0, 1)), (8, (.getfield 7, 3)), (11, (.iconst 5, 1)), (12, (.iaload, 1)), (13, (.if_icmp .eq 19, 3)), (16, (.aload_n 0, 1)), (17, (.getfield 7, 3)), (20, (.bipush 7, 2)), (22, (.iaload, 1)), (23, (.aload_n 0, 1)), (24, (.getfield 7, 3)), (27, (.iconst 5, 1)), (28, (.iaload, 1)), (29, (.if_icmp .ne 7, 3)), (32, (.iconst 1, 1)), (33, (.goto 4, 3)), (36, (.iconst 0, 1)), (37, (.ireturn, 1))]
theorem DX9_isHit_all : ∀ q ∈ LX9_isHit, decode cX9_isHit q.1 = .ok q.2 := by decide +kernel
theorem DX9_isHit (k : Nat) {pc : Nat} {q : Instr × Nat} (h : LX9_isHit[k]? = some (pc, q)) : decode cX9_isHit pc = .ok q := DX9_isHit_all (pc, q) (List.mem_of_getElem? h)
def LX9_numberNow : List (Nat × (Instr × Nat)) := [(0, (.aload_n 0, 1)), (1, (.getfield 7, 3)), (4, (.iconst 4, 1)), (5, (.iaload, 1)), (6, (.aload_n 0, 1)), (7, (.getfield 7, 3)), (10, (.iconst 5, 1)), (11, (.iaload, 1)), (12, (.aload_n 0, 1)), (13, (.getfield 7, 3)), (16, (.bipush 6, 2)), (18, (.iaload, 1)), (19, (.aload_n 0, 1)), (20, (.getfield 7, 3)), (23, (.bipush 7, 2)), (25, (.iaload, 1)), (26, (.invokestatic 99, 3)), (29, (.ireturn, 1))]
theorem DX9_numberNow_all : ∀ q ∈ LX9_numberNow, decode cX9_numberNow q.1 = .ok q.2 := by decide +kernel
theorem DX9_numberNow (k : Nat) {pc : Nat} {q : Instr × Nat} (h : LX9_numberNow[k]? = some (pc, q)) : decode cX9_numberNow pc = .ok q := DX9_numberNow_all (pc, q) (List.mem_of_getElem? h)
def LX9_isCaught : List (Nat × (Instr × Nat)) := [(0, (.aload_n 0, 1)), (1, (.invokevirtual 161, 3)), (4, (.aload_n 0, 1)), (5, (.invokevirtual 164, 3)), (8, (.ifCond .ne 25, 3)), (11, (.aload_n 0, 1)), (12, (.getfield 7, 3)), (15, (.iconst 4, 1)), (16, (.iaload, 1)), (17, (.iconst 1, 1)), (18, (.if_icmp .ne 19, 3)), (21, (.aload_n 0, 1)), (22, (.getfield 29, 3)), (25, (.aload_n 0, 1)), (26, (.invokevirtual 167, 3)), (29, (.iaload, 1)), (30, (.ifCond .ne 7, 3)), (33, (.iconst 1, 1)), (34, (.goto 4, 3)), (37, (.iconst 0, 1)), (38, (.ireturn, 1))]
theorem DX9_isCaught_all : ∀ q ∈ LX9_isCaught, decode cX9_isCaught q.1 = .ok q.2 := by decide +kernel
theorem DX9_isCaught (k : Nat) {pc : Nat} {q : Instr × Nat} (h : LX9_isCaught[k]? = some (pc, q)) : decode cX9_isCaught pc = .ok q := DX9_isCaught_all (pc, q) (List.mem_of_getElem? h)
def LX9_distanceNow : List (Nat × (Instr × Nat)) := [(0, (.aload_n 0, 1)), (1, (.invokevirtual 171, 3)), (4, (.ifCond .eq 7, 3)), (7, (.iconst 0, 1)), (8, (.goto 12, 3)), (11, (.aload_n 0, 1)), (12, (.getfield 29, 3)), (15, (.aload_n 0, 1)), (16, (.invokevirtual 167, 3)), (19, (.iaload, 1)), (20, (.ireturn, 1))]
theorem DX9_distanceNow_all : ∀ q ∈ LX9_distanceNow, decode cX9_distanceNow q.1 = .ok q.2 := by decide +kernel
theorem DX9_distanceNow (k : Nat) {pc : Nat} {q : Instr × Nat} (h : LX9_distanceNow[k]? = some (pc, q)) : decode cX9_distanceNow pc = .ok q := DX9_distanceNow_all (pc, q) (List.mem_of_getElem? h)
def LX9_isHunterMove_0 : List (Nat × (Instr × Nat)) := [(0, (.iload_n 1, 1)), (1, (.aload_n 0, 1)), (2, (.getfield 7, 3)), (5, (.bipush 6, 2)), (7, (.iaload, 1)), (8, (.if_icmp .eq 14, 3)), (11, (.iload_n 1, 1)), (12, (.aload_n 0, 1)), (13, (.getfield 7, 3)), (16, (.bipush 7, 2)), (18, (.iaload, 1)), (19, (.if_icmp .ne 7, 3)), (22, (.iconst 1, 1)), (23, (.goto 4, 3)), (26, (.iconst 0, 1)), (27, (.istore_n 3, 1)), (28, (.iload_n 1, 1)), (29, (.aload_n 0, 1)), (30, (.getfield 7, 3)), (33, (.bipush 6, 2)), (35, (.iaload, 1)), (36, (.if_icmp .ne 13, 3)), (39, (.aload_n 0, 1)), (40, (.getfield 7, 3)), (43, (.bipush 7, 2)), (45, (.iaload, 1)), (46, (.goto 10, 3)), (49, (.aload_n 0, 1)), (50, (.getfield 7, 3)), (53, (.bipush 6, 2)), (55, (.iaload, 1)), (56, (.istore 4, 2)), (58, (.iload_n 3, 1)), (59, (.ifCond .ne 5, 3)), (62, (.iconst 0, 1)), (63, (.ireturn, 1)), (64, (.iload_n 1, 1)), (65, (.iload_n 2, 1)), (66, (.if_icmp .ne 21, 3)), (69, (.aload_n 0, 1)), (70, (.getfield 7, 3)), (73, (.iconst 2, 1)), (74, (.iaload, 1)), (75, (.iconst 1, 1)), (76, (.if_icmp .ne 7, 3)), (79, (.iconst 1, 1)), (80, (.goto 49, 3)), (83, (.iconst 0, 1)), (84, (.goto 45, 3)), (87, (.aload_n 0, 1)), (88, (.iload_n 2, 1)), (89, (.invokevirtual 91, 3)), (92, (.ifCond .eq 36, 3)), (95, (.iload_n 2, 1)), (96, (.iload 4, 2)), (98, (.if_icmp .eq 30, 3)), (101, (.iload_n 1, 1)), (102, (.iload_n 2, 1)), (103, (.aload_n 0, 1)), (104, (.getfield 7, 3))]
theorem DX9_isHunterMove_0_all : ∀ q ∈ LX9_isHunterMove_0, decode cX9_isHunterMove q.1 = .ok q.2 := by decide +kernel
theorem DX9_isHunterMove_0 (k : Nat) {pc : Nat} {q : Instr × Nat} (h : LX9_isHunterMove_0[k]? = some (pc, q)) : decode cX9_isHunterMove pc = .ok q := DX9_isHunterMove_0_all (pc, q) (List.mem_of_getElem? h)
def LX9_isHunterMove_1 : List (Nat × (Instr × Nat)) := [(107, (.iconst 1, 1)), (108, (.iaload, 1)), (109, (.iconst 1, 1)), (110, (.if_icmp .ne 7, 3)), (113, (.iconst 1, 1)), (114, (.goto 4, 3)), (117, (.iconst 0, 1)), (118, (.invokestatic 95, 3)), (121, (.ifCond .eq 7, 3)), (124, (.iconst 1, 1)), (125, (.goto 4, 3)), (128, (.iconst 0, 1)), (129, (.ireturn, 1))]
theorem DX9_isHunterMove_1_all : ∀ q ∈ LX9_isHunterMove_1, decode cX9_isHunterMove q.1 = .ok q.2 := by decide +kernel
theorem DX9_isHunterMove_1 (k : Nat) {pc : Nat} {q : Instr × Nat} (h : LX9_isHunterMove_1[k]? = some (pc, q)) : decode cX9_isHunterMove pc = .ok q := DX9_isHunterMove_1_all (pc, q) (List.mem_of_getElem? h)
def LX9_isFoxMove : List (Nat × (Instr × Nat)) := [(0, (.iload_n 1, 1)), (1, (.aload_n 0, 1)), (2, (.getfield 7, 3)), (5, (.iconst 5, 1)), (6, (.iaload, 1)), (7, (.if_icmp .ne 60, 3)), (10, (.aload_n 0, 1)), (11, (.iload_n 2, 1)), (12, (.invokevirtual 91, 3)), (15, (.ifCond .eq 52, 3)), (18, (.iload_n 2, 1)), (19, (.aload_n 0, 1)), (20, (.getfield 7, 3)), (23, (.bipush 6, 2)), (25, (.iaload, 1)), (26, (.if_icmp .eq 41, 3)), (29, (.iload_n 2, 1)), (30, (.aload_n 0, 1)), (31, (.getfield 7, 3)), (34, (.bipush 7, 2)), (36, (.iaload, 1)), (37, (.if_icmp .eq 30, 3)), (40, (.iload_n 1, 1)), (41, (.iload_n 2, 1)), (42, (.aload_n 0, 1)), (43, (.getfield 7, 3)), (46, (.iconst 0, 1)), (47, (.iaload, 1)), (48, (.iconst 1, 1)), (49, (.if_icmp .ne 7, 3)), (52, (.iconst 1, 1)), (53, (.goto 4, 3)), (56, (.iconst 0, 1)), (57, (.invokestatic 95, 3)), (60, (.ifCond .eq 7, 3)), (63, (.iconst 1, 1)), (64, (.goto 4, 3)), (67, (.iconst 0, 1)), (68, (.ireturn, 1))]
theorem DX9_isFoxMove_all : ∀ q ∈ LX9_isFoxMove, decode cX9_isFoxMove q.1 = .ok q.2 := by decide +kernel
theorem DX9_isFoxMove (k : Nat) {pc : Nat} {q : Instr × Nat} (h : LX9_isFoxMove[k]? = some (pc, q)) : decode cX9_isFoxMove pc = .ok q := DX9_isFoxMove_all (pc, q) (List.mem_of_getElem? h)
def LX9_isMove : List (Nat × (Instr × Nat)) := [(0, (.aload_n 0, 1)), (1, (.invokevirtual 171, 3)), (4, (.ifCond .ne 37, 3)), (7, (.aload_n 0, 1)), (8, (.getfield 7, 3)), (11, (.iconst 4, 1)), (12, (.iaload, 1)), (13, (.ifCond .ne 15, 3)), (16, (.aload_n 0, 1)), (17, (.iload_n 1, 1)), (18, (.iload_n 2, 1)), (19, (.invokevirtual 174, 3)), (22, (.ifCond .eq 19, 3)), (25, (.goto 12, 3)), (28, (.aload_n 0, 1)), (29, (.iload_n 1, 1)), (30, (.iload_n 2, 1)), (31, (.invokevirtual 177, 3)), (34, (.ifCond .eq 7, 3)), (37, (.iconst 1, 1)), (38, (.goto 4, 3)), (41, (.iconst 0, 1)), (42, (.ireturn, 1))]
theorem DX9_isMove_all : ∀ q ∈ LX9_isMove, decode cX9_isMove q.1 = .ok q.2 := by decide +kernel
theorem DX9_isMove (k : Nat) {pc : Nat} {q : Instr × Nat} (h : LX9_isMove[k]? = some (pc, q)) : decode cX9_isMove pc = .ok q := DX9_isMove_all (pc, q) (List.mem_of_getElem? h)
def LX9_worth_0 : List (Nat × (Instr × Nat)) := [(0, (.sipush 1000, 3)), (3, (.istore_n 3, 1)), (4, (.aload_n 0, 1)), (5, (.getfield 7, 3)), (8, (.iconst 4, 1)), (9, (.iaload, 1)), (10, (.iconst 1, 1)), (11, (.if_icmp .ne 43, 3)), (14, (.aload_n 0, 1)), (15, (.getfield 29, 3)), (18, (.iconst 0, 1)), (19, (.iload_n 2, 1)), (20, (.aload_n 0, 1)), (21, (.getfield 7, 3)), (24, (.bipush 6, 2)), (26, (.iaload, 1)), (27, (.aload_n 0, 1)), (28, (.getfield 7, 3)), (31, (.bipush 7, 2)), (33, (.iaload, 1)), (34, (.invokestatic 99, 3)), (37, (.iaload, 1)), (38, (.istore 4, 2)), (40, (.iload 4, 2)), (42, (.ifCond .ge 8, 3)), (45, (.iload_n 3, 1)), (46, (.ineg, 1)), (47, (.goto 6, 3)), (50, (.iload 4, 2)), (52, (.ineg, 1)), (53, (.ireturn, 1)), (54, (.iload_n 2, 1)), (55, (.aload_n 0, 1)), (56, (.getfield 7, 3)), (59, (.iconst 5, 1)), (60, (.iaload, 1)), (61, (.if_icmp .ne 5, 3)), (64, (.iconst (-1), 1)), (65, (.ireturn, 1)), (66, (.iload_n 1, 1)), (67, (.aload_n 0, 1)), (68, (.getfield 7, 3)), (71, (.bipush 6, 2)), (73, (.iaload, 1)), (74, (.if_icmp .ne 13, 3)), (77, (.aload_n 0, 1)), (78, (.getfield 7, 3)), (81, (.bipush 7, 2)), (83, (.iaload, 1)), (84, (.goto 10, 3)), (87, (.aload_n 0, 1)), (88, (.getfield 7, 3)), (91, (.bipush 6, 2)), (93, (.iaload, 1)), (94, (.istore 4, 2)), (96, (.aload_n 0, 1)), (97, (.getfield 29, 3)), (100, (.iconst 1, 1)), (101, (.aload_n 0, 1)), (102, (.getfield 7, 3))]
theorem DX9_worth_0_all : ∀ q ∈ LX9_worth_0, decode cX9_worth q.1 = .ok q.2 := by decide +kernel
theorem DX9_worth_0 (k : Nat) {pc : Nat} {q : Instr × Nat} (h : LX9_worth_0[k]? = some (pc, q)) : decode cX9_worth pc = .ok q := DX9_worth_0_all (pc, q) (List.mem_of_getElem? h)
def LX9_worth_1 : List (Nat × (Instr × Nat)) := [(105, (.iconst 5, 1)), (106, (.iaload, 1)), (107, (.iload_n 2, 1)), (108, (.iload 4, 2)), (110, (.invokestatic 99, 3)), (113, (.iaload, 1)), (114, (.istore 5, 2)), (116, (.iload 5, 2)), (118, (.ifCond .ge 7, 3)), (121, (.iload_n 3, 1)), (122, (.goto 5, 3)), (125, (.iload 5, 2)), (127, (.ireturn, 1))]
theorem DX9_worth_1_all : ∀ q ∈ LX9_worth_1, decode cX9_worth q.1 = .ok q.2 := by decide +kernel
theorem DX9_worth_1 (k : Nat) {pc : Nat} {q : Instr × Nat} (h : LX9_worth_1[k]? = some (pc, q)) : decode cX9_worth pc = .ok q := DX9_worth_1_all (pc, q) (List.mem_of_getElem? h)
def LX9_findBest_0 : List (Nat × (Instr × Nat)) := [(0, (.aload_n 0, 1)), (1, (.bipush (-6), 2)), (3, (.putfield 180, 3)), (6, (.aload_n 0, 1)), (7, (.bipush (-6), 2)), (9, (.putfield 183, 3)), (12, (.iconst 0, 1)), (13, (.istore_n 1, 1)), (14, (.iconst 0, 1)), (15, (.istore_n 2, 1)), (16, (.iload_n 2, 1)), (17, (.bipush 16, 2)), (19, (.if_icmp .ge 71, 3)), (22, (.iconst 0, 1)), (23, (.istore_n 3, 1)), (24, (.iload_n 3, 1)), (25, (.bipush 16, 2)), (27, (.if_icmp .ge 57, 3)), (30, (.iload_n 2, 1)), (31, (.iload_n 3, 1)), (32, (.if_icmp .eq 46, 3)), (35, (.aload_n 0, 1)), (36, (.iload_n 2, 1)), (37, (.iload_n 3, 1)), (38, (.invokevirtual 186, 3)), (41, (.ifCond .eq 37, 3)), (44, (.aload_n 0, 1)), (45, (.getfield 180, 3)), (48, (.ifCond .lt 13, 3)), (51, (.aload_n 0, 1)), (52, (.iload_n 2, 1)), (53, (.iload_n 3, 1)), (54, (.invokevirtual 189, 3)), (57, (.iload_n 1, 1)), (58, (.if_icmp .ge 20, 3)), (61, (.aload_n 0, 1)), (62, (.iload_n 2, 1)), (63, (.putfield 180, 3)), (66, (.aload_n 0, 1)), (67, (.iload_n 3, 1)), (68, (.putfield 183, 3)), (71, (.aload_n 0, 1)), (72, (.iload_n 2, 1)), (73, (.iload_n 3, 1)), (74, (.invokevirtual 189, 3)), (77, (.istore_n 1, 1)), (78, (.iinc 3 1, 3)), (81, (.goto (-57), 3)), (84, (.iinc 2 1, 3)), (87, (.goto (-71), 3)), (90, (.aload_n 0, 1)), (91, (.getfield 7, 3)), (94, (.bipush 6, 2)), (96, (.iaload, 1)), (97, (.istore_n 2, 1)), (98, (.aload_n 0, 1)), (99, (.getfield 7, 3)), (102, (.iconst 4, 1)), (103, (.iaload, 1)), (104, (.ifCond .ne 39, 3))]
theorem DX9_findBest_0_all : ∀ q ∈ LX9_findBest_0, decode cX9_findBest q.1 = .ok q.2 := by decide +kernel
theorem DX9_findBest_0 (k : Nat) {pc : Nat} {q : Instr × Nat} (h : LX9_findBest_0[k]? = some (pc, q)) : decode cX9_findBest pc = .ok q := DX9_findBest_0_all (pc, q) (List.mem_of_getElem? h)
def LX9_findBest_1 : List (Nat × (Instr × Nat)) := [(107, (.aload_n 0, 1)), (108, (.iload_n 2, 1)), (109, (.iload_n 2, 1)), (110, (.invokevirtual 186, 3)), (113, (.ifCond .eq 30, 3)), (116, (.aload_n 0, 1)), (117, (.getfield 180, 3)), (120, (.ifCond .lt 13, 3)), (123, (.aload_n 0, 1)), (124, (.iload_n 2, 1)), (125, (.iload_n 2, 1)), (126, (.invokevirtual 189, 3)), (129, (.iload_n 1, 1)), (130, (.if_icmp .ge 13, 3)), (133, (.aload_n 0, 1)), (134, (.iload_n 2, 1)), (135, (.putfield 180, 3)), (138, (.aload_n 0, 1)), (139, (.iload_n 2, 1)), (140, (.putfield 183, 3)), (143, (.aload_n 0, 1)), (144, (.getfield 180, 3)), (147, (.ifCond .lt 7, 3)), (150, (.iconst 1, 1)), (151, (.goto 4, 3)), (154, (.iconst 0, 1)), (155, (.ireturn, 1))]
theorem DX9_findBest_1_all : ∀ q ∈ LX9_findBest_1, decode cX9_findBest q.1 = .ok q.2 := by decide +kernel
theorem DX9_findBest_1 (k : Nat) {pc : Nat} {q : Instr × Nat} (h : LX9_findBest_1[k]? = some (pc, q)) : decode cX9_findBest pc = .ok q := DX9_findBest_1_all (pc, q) (List.mem_of_getElem? h)
def LX9_make : List (Nat × (Instr × Nat)) := [(0, (.aload_n 0, 1)), (1, (.getfield 7, 3)), (4, (.iconst 4, 1)), (5, (.iaload, 1)), (6, (.iconst 1, 1)), (7, (.if_icmp .ne 13, 3)), (10, (.aload_n 0, 1)), (11, (.getfield 7, 3)), (14, (.iconst 5, 1)), (15, (.iload_n 2, 1)), (16, (.iastore, 1)), (17, (.goto 56, 3)), (20, (.iload_n 1, 1)), (21, (.aload_n 0, 1)), (22, (.getfield 7, 3)), (25, (.bipush 6, 2)), (27, (.iaload, 1)), (28, (.if_icmp .ne 13, 3)), (31, (.aload_n 0, 1)), (32, (.getfield 7, 3)), (35, (.bipush 7, 2)), (37, (.iaload, 1)), (38, (.goto 10, 3)), (41, (.aload_n 0, 1)), (42, (.getfield 7, 3)), (45, (.bipush 6, 2)), (47, (.iaload, 1)), (48, (.istore_n 3, 1)), (49, (.aload_n 0, 1)), (50, (.getfield 7, 3)), (53, (.bipush 6, 2)), (55, (.iload_n 2, 1)), (56, (.iload_n 3, 1)), (57, (.invokestatic 82, 3)), (60, (.iastore, 1)), (61, (.aload_n 0, 1)), (62, (.getfield 7, 3)), (65, (.bipush 7, 2)), (67, (.iload_n 2, 1)), (68, (.iload_n 3, 1)), (69, (.invokestatic 85, 3)), (72, (.iastore, 1)), (73, (.aload_n 0, 1)), (74, (.getfield 7, 3)), (77, (.iconst 4, 1)), (78, (.iconst 1, 1)), (79, (.aload_n 0, 1)), (80, (.getfield 7, 3)), (83, (.iconst 4, 1)), (84, (.iaload, 1)), (85, (.isub, 1)), (86, (.iastore, 1)), (87, (.aload_n 0, 1)), (88, (.invokevirtual 171, 3)), (91, (.ifCond .eq 7, 3)), (94, (.iconst 1, 1)), (95, (.goto 4, 3)), (98, (.iconst 0, 1)), (99, (.ireturn, 1))]
theorem DX9_make_all : ∀ q ∈ LX9_make, decode cX9_make q.1 = .ok q.2 := by decide +kernel
theorem DX9_make (k : Nat) {pc : Nat} {q : Instr × Nat} (h : LX9_make[k]? = some (pc, q)) : decode cX9_make pc = .ok q := DX9_make_all (pc, q) (List.mem_of_getElem? h)
def LX9_set : List (Nat × (Instr × Nat)) := [(0, (.iload_n 1, 1)), (1, (.iconst 0, 1)), (2, (.iconst 2, 1)), (3, (.invokestatic 53, 3)), (6, (.ifCond .eq 12, 3)), (9, (.iload_n 2, 1)), (10, (.iconst 0, 1)), (11, (.iconst 1, 1)), (12, (.invokestatic 53, 3)), (15, (.ifCond .ne 6, 3)), (18, (.bipush (-2), 2)), (20, (.ireturn, 1)), (21, (.aload_n 0, 1)), (22, (.invokevirtual 192, 3)), (25, (.aload_n 0, 1)), (26, (.getfield 7, 3)), (29, (.iload_n 1, 1)), (30, (.iaload, 1)), (31, (.istore_n 3, 1)), (32, (.aload_n 0, 1)), (33, (.getfield 7, 3)), (36, (.iload_n 1, 1)), (37, (.iload_n 2, 1)), (38, (.iastore, 1)), (39, (.iload_n 3, 1)), (40, (.ireturn, 1))]
theorem DX9_set_all : ∀ q ∈ LX9_set, decode cX9_set q.1 = .ok q.2 := by decide +kernel
theorem DX9_set (k : Nat) {pc : Nat} {q : Instr × Nat} (h : LX9_set[k]? = some (pc, q)) : decode cX9_set pc = .ok q := DX9_set_all (pc, q) (List.mem_of_getElem? h)
def LX9_block : List (Nat × (Instr × Nat)) := [(0, (.iload_n 1, 1)), (1, (.invokestatic 195, 3)), (4, (.ifCond .ne 5, 3)), (7, (.iconst (-1), 1)), (8, (.ireturn, 1)), (9, (.aload_n 0, 1)), (10, (.iload_n 1, 1)), (11, (.invokevirtual 91, 3)), (14, (.ifCond .eq 20, 3)), (17, (.aload_n 0, 1)), (18, (.getfield 7, 3)), (21, (.iconst 3, 1)), (22, (.iaload, 1)), (23, (.invokestatic 198, 3)), (26, (.bipush 6, 2)), (28, (.if_icmp .ne 6, 3)), (31, (.bipush (-4), 2)), (33, (.ireturn, 1)), (34, (.iload_n 1, 1)), (35, (.aload_n 0, 1)), (36, (.getfield 7, 3)), (39, (.iconst 5, 1)), (40, (.iaload, 1)), (41, (.if_icmp .eq 25, 3)), (44, (.iload_n 1, 1)), (45, (.aload_n 0, 1)), (46, (.getfield 7, 3)), (49, (.bipush 6, 2)), (51, (.iaload, 1)), (52, (.if_icmp .eq 14, 3)), (55, (.iload_n 1, 1)), (56, (.aload_n 0, 1)), (57, (.getfield 7, 3)), (60, (.bipush 7, 2)), (62, (.iaload, 1)), (63, (.if_icmp .ne 6, 3)), (66, (.bipush (-5), 2)), (68, (.ireturn, 1)), (69, (.aload_n 0, 1)), (70, (.invokevirtual 192, 3)), (73, (.aload_n 0, 1)), (74, (.getfield 7, 3)), (77, (.iconst 3, 1)), (78, (.dup2, 1)), (79, (.iaload, 1)), (80, (.iconst 1, 1)), (81, (.iload_n 1, 1)), (82, (.ishl, 1)), (83, (.ixor, 1)), (84, (.iastore, 1)), (85, (.aload_n 0, 1)), (86, (.getfield 7, 3)), (89, (.iconst 3, 1)), (90, (.iaload, 1)), (91, (.invokestatic 198, 3)), (94, (.ireturn, 1))]
theorem DX9_block_all : ∀ q ∈ LX9_block, decode cX9_block q.1 = .ok q.2 := by decide +kernel
theorem DX9_block (k : Nat) {pc : Nat} {q : Instr × Nat} (h : LX9_block[k]? = some (pc, q)) : decode cX9_block pc = .ok q := DX9_block_all (pc, q) (List.mem_of_getElem? h)
def LX9_whyNot : List (Nat × (Instr × Nat)) := [(0, (.iload_n 2, 1)), (1, (.invokestatic 195, 3)), (4, (.ifCond .eq 18, 3)), (7, (.iload_n 3, 1)), (8, (.invokestatic 195, 3)), (11, (.ifCond .eq 11, 3)), (14, (.iload 4, 2)), (16, (.invokestatic 195, 3)), (19, (.ifCond .ne 5, 3)), (22, (.iconst (-1), 1)), (23, (.ireturn, 1)), (24, (.iload_n 1, 1)), (25, (.iconst 0, 1)), (26, (.iconst 1, 1)), (27, (.invokestatic 53, 3)), (30, (.ifCond .eq 49, 3)), (33, (.iload_n 2, 1)), (34, (.iload_n 3, 1)), (35, (.if_icmp .eq 44, 3)), (38, (.iload_n 2, 1)), (39, (.iload 4, 2)), (41, (.if_icmp .eq 38, 3)), (44, (.iload_n 3, 1)), (45, (.iload 4, 2)), (47, (.if_icmp .eq 32, 3)), (50, (.aload_n 0, 1)), (51, (.iload_n 2, 1)), (52, (.invokevirtual 91, 3)), (55, (.ifCond .eq 24, 3)), (58, (.aload_n 0, 1)), (59, (.iload_n 3, 1)), (60, (.invokevirtual 91, 3)), (63, (.ifCond .eq 16, 3)), (66, (.aload_n 0, 1)), (67, (.iload 4, 2)), (69, (.invokevirtual 91, 3)), (72, (.ifCond .eq 7, 3)), (75, (.iconst 1, 1)), (76, (.goto 4, 3)), (79, (.iconst 0, 1)), (80, (.istore 5, 2)), (82, (.iload 5, 2)), (84, (.ifCond .eq 7, 3)), (87, (.iconst 0, 1)), (88, (.goto 5, 3)), (91, (.bipush (-2), 2)), (93, (.ireturn, 1))]
theorem DX9_whyNot_all : ∀ q ∈ LX9_whyNot, decode cX9_whyNot q.1 = .ok q.2 := by decide +kernel
theorem DX9_whyNot (k : Nat) {pc : Nat} {q : Instr × Nat} (h : LX9_whyNot[k]? = some (pc, q)) : decode cX9_whyNot pc = .ok q := DX9_whyNot_all (pc, q) (List.mem_of_getElem? h)
def LX9_lay : List (Nat × (Instr × Nat)) := [(0, (.aload_n 0, 1)), (1, (.getfield 7, 3)), (4, (.iconst 4, 1)), (5, (.iload_n 1, 1)), (6, (.iastore, 1)), (7, (.aload_n 0, 1)), (8, (.getfield 7, 3)), (11, (.iconst 5, 1)), (12, (.iload_n 2, 1)), (13, (.iastore, 1)), (14, (.aload_n 0, 1)), (15, (.getfield 7, 3)), (18, (.bipush 6, 2)), (20, (.iload_n 3, 1)), (21, (.iload 4, 2)), (23, (.invokestatic 82, 3)), (26, (.iastore, 1)), (27, (.aload_n 0, 1)), (28, (.getfield 7, 3)), (31, (.bipush 7, 2)), (33, (.iload_n 3, 1)), (34, (.iload 4, 2)), (36, (.invokestatic 85, 3)), (39, (.iastore, 1)), (40, (.return_, 1))]
theorem DX9_lay_all : ∀ q ∈ LX9_lay, decode cX9_lay q.1 = .ok q.2 := by decide +kernel
theorem DX9_lay (k : Nat) {pc : Nat} {q : Instr × Nat} (h : LX9_lay[k]? = some (pc, q)) : decode cX9_lay pc = .ok q := DX9_lay_all (pc, q) (List.mem_of_getElem? h)
def LX9_setUp : List (Nat × (Instr × Nat)) := [(0, (.aload_n 0, 1)), (1, (.iload_n 1, 1)), (2, (.iload_n 2, 1)), (3, (.iload_n 3, 1)), (4, (.iload 4, 2)), (6, (.invokevirtual 201, 3)), (9, (.istore 5, 2)), (11, (.iload 5, 2)), (13, (.ifCond .ge 6, 3)), (16, (.iload 5, 2)), (18, (.ireturn, 1)), (19, (.aload_n 0, 1)), (20, (.invokevirtual 192, 3)), (23, (.aload_n 0, 1)), (24, (.iload_n 1, 1)), (25, (.iload_n 2, 1)), (26, (.iload_n 3, 1)), (27, (.iload 4, 2)), (29, (.invokevirtual 204, 3)), (32, (.aload_n 0, 1)), (33, (.invokevirtual 208, 3)), (36, (.ireturn, 1))]
theorem DX9_setUp_all : ∀ q ∈ LX9_setUp, decode cX9_setUp q.1 = .ok q.2 := by decide +kernel
theorem DX9_setUp (k : Nat) {pc : Nat} {q : Instr × Nat} (h : LX9_setUp[k]? = some (pc, q)) : decode cX9_setUp pc = .ok q := DX9_setUp_all (pc, q) (List.mem_of_getElem? h)
def LX9_move : List (Nat × (Instr × Nat)) := [(0, (.iload_n 1, 1)), (1, (.invokestatic 195, 3)), (4, (.ifCond .eq 10, 3)), (7, (.iload_n 2, 1)), (8, (.invokestatic 195, 3)), (11, (.ifCond .ne 5, 3)), (14, (.iconst (-1), 1)), (15, (.ireturn, 1)), (16, (.aload_n 0, 1)), (17, (.iload_n 1, 1)), (18, (.iload_n 2, 1)), (19, (.invokevirtual 186, 3)), (22, (.ifCond .ne 6, 3)), (25, (.bipush (-5), 2)), (27, (.ireturn, 1)), (28, (.aload_n 0, 1)), (29, (.invokevirtual 192, 3)), (32, (.aload_n 0, 1)), (33, (.iload_n 1, 1)), (34, (.iload_n 2, 1)), (35, (.invokevirtual 211, 3)), (38, (.ireturn, 1))]
theorem DX9_move_all : ∀ q ∈ LX9_move, decode cX9_move q.1 = .ok q.2 := by decide +kernel
theorem DX9_move (k : Nat) {pc : Nat} {q : Instr × Nat} (h : LX9_move[k]? = some (pc, q)) : decode cX9_move pc = .ok q := DX9_move_all (pc, q) (List.mem_of_getElem? h)
def LX9_play : List (Nat × (Instr × Nat)) := [(0, (.aload_n 0, 1)), (1, (.invokevirtual 214, 3)), (4, (.ifCond .ne 6, 3)), (7, (.bipush (-5), 2)), (9, (.ireturn, 1)), (10, (.aload_n 0, 1)), (11, (.invokevirtual 192, 3)), (14, (.aload_n 0, 1)), (15, (.aload_n 0, 1)), (16, (.getfield 180, 3)), (19, (.aload_n 0, 1)), (20, (.getfield 183, 3)), (23, (.invokevirtual 211, 3)), (26, (.ireturn, 1))]
theorem DX9_play_all : ∀ q ∈ LX9_play, decode cX9_play q.1 = .ok q.2 := by decide +kernel
theorem DX9_play (k : Nat) {pc : Nat} {q : Instr × Nat} (h : LX9_play[k]? = some (pc, q)) : decode cX9_play pc = .ok q := DX9_play_all (pc, q) (List.mem_of_getElem? h)
def LX9_best : List (Nat × (Instr × Nat)) := [(0, (.aload_n 0, 1)), (1, (.invokevirtual 214, 3)), (4, (.pop, 1)), (5, (.iload_n 1, 1)), (6, (.bipush 6, 2)), (8, (.if_icmp .ne 10, 3)), (11, (.aload_n 0, 1)), (12, (.getfield 180, 3)), (15, (.goto 7, 3)), (18, (.aload_n 0, 1)), (19, (.getfield 183, 3)), (22, (.ireturn, 1))]
theorem DX9_best_all : ∀ q ∈ LX9_best, decode cX9_best q.1 = .ok q.2 := by decide +kernel
theorem DX9_best (k : Nat) {pc : Nat} {q : Instr × Nat} (h : LX9_best[k]? = some (pc, q)) : decode cX9_best pc = .ok q := DX9_best_all (pc, q) (List.mem_of_getElem? h)
def LX9_standsNow : List (Nat × (Instr × Nat)) := [(0, (.aload_n 0, 1)), (1, (.invokevirtual 161, 3)), (4, (.aload_n 0, 1)), (5, (.getfield 32, 3)), (8, (.aload_n 0, 1)), (9, (.invokevirtual 167, 3)), (12, (.iaload, 1)), (13, (.ireturn, 1))]
theorem DX9_standsNow_all : ∀ q ∈ LX9_standsNow, decode cX9_standsNow q.1 = .ok q.2 := by decide +kernel
theorem DX9_standsNow (k : Nat) {pc : Nat} {q : Instr × Nat} (h : LX9_standsNow[k]? = some (pc, q)) : decode cX9_standsNow pc = .ok q := DX9_standsNow_all (pc, q) (List.mem_of_getElem? h)
def LX9_now : List (Nat × (Instr × Nat)) := [(0, (.iload_n 1, 1)), (1, (.tableswitch 173 0 15 #[79, 79, 79, 79, 88, 101, 106, 106, 112, 129, 146, 153, 153, 153, 163, 168], 79)), (80, (.aload_n 0, 1)), (81, (.getfield 7, 3)), (84, (.iconst 4, 1)), (85, (.iload_n 1, 1)), (86, (.iadd, 1)), (87, (.iaload, 1)), (88, (.ireturn, 1)), (89, (.aload_n 0, 1)), (90, (.invokevirtual 171, 3)), (93, (.ifCond .eq 7, 3)), (96, (.iconst 1, 1)), (97, (.goto 4, 3)), (100, (.iconst 0, 1)), (101, (.ireturn, 1)), (102, (.aload_n 0, 1)), (103, (.invokevirtual 208, 3)), (106, (.ireturn, 1)), (107, (.aload_n 0, 1)), (108, (.iload_n 1, 1)), (109, (.invokevirtual 217, 3)), (112, (.ireturn, 1)), (113, (.aload_n 0, 1)), (114, (.invokevirtual 164, 3)), (117, (.ifCond .eq 8, 3)), (120, (.bipush (-6), 2)), (122, (.goto 7, 3)), (125, (.aload_n 0, 1)), (126, (.invokevirtual 167, 3)), (129, (.ireturn, 1)), (130, (.aload_n 0, 1)), (131, (.invokevirtual 164, 3)), (134, (.ifCond .eq 8, 3)), (137, (.bipush (-6), 2)), (139, (.goto 7, 3)), (142, (.aload_n 0, 1)), (143, (.invokevirtual 220, 3)), (146, (.ireturn, 1)), (147, (.aload_n 0, 1)), (148, (.getfield 7, 3)), (151, (.iconst 3, 1)), (152, (.iaload, 1)), (153, (.ireturn, 1)), (154, (.aload_n 0, 1)), (155, (.getfield 7, 3)), (158, (.iload_n 1, 1)), (159, (.bipush 11, 2)), (161, (.isub, 1)), (162, (.iaload, 1)), (163, (.ireturn, 1)), (164, (.aload_n 0, 1)), (165, (.getfield 223, 3)), (168, (.ireturn, 1)), (169, (.aload_n 0, 1)), (170, (.getfield 57, 3)), (173, (.ireturn, 1)), (174, (.bipush (-2), 2)), (176, (.ireturn, 1))]
theorem DX9_now_all : ∀ q ∈ LX9_now, decode cX9_now q.1 = .ok q.2 := by decide +kernel
theorem DX9_now (k : Nat) {pc : Nat} {q : Instr × Nat} (h : LX9_now[k]? = some (pc, q)) : decode cX9_now pc = .ok q := DX9_now_all (pc, q) (List.mem_of_getElem? h)
def LX9_distance : List (Nat × (Instr × Nat)) := [(0, (.aload_n 0, 1)), (1, (.iload_n 1, 1)), (2, (.iload_n 2, 1)), (3, (.iload_n 3, 1)), (4, (.iload 4, 2)), (6, (.invokevirtual 201, 3)), (9, (.istore 5, 2)), (11, (.iload 5, 2)), (13, (.ifCond .ge 6, 3)), (16, (.iload 5, 2)), (18, (.ireturn, 1)), (19, (.aload_n 0, 1)), (20, (.invokevirtual 161, 3)), (23, (.aload_n 0, 1)), (24, (.getfield 29, 3)), (27, (.iload_n 1, 1)), (28, (.iload_n 2, 1)), (29, (.iload_n 3, 1)), (30, (.iload 4, 2)), (32, (.invokestatic 99, 3)), (35, (.iaload, 1)), (36, (.ireturn, 1))]
theorem DX9_distance_all : ∀ q ∈ LX9_distance, decode cX9_distance q.1 = .ok q.2 := by decide +kernel
theorem DX9_distance (k : Nat) {pc : Nat} {q : Instr × Nat} (h : LX9_distance[k]? = some (pc, q)) : decode cX9_distance pc = .ok q := DX9_distance_all (pc, q) (List.mem_of_getElem? h)
def LX9_number : List (Nat × (Instr × Nat)) := [(0, (.aload_n 0, 1)), (1, (.iload_n 1, 1)), (2, (.iload_n 2, 1)), (3, (.iload_n 3, 1)), (4, (.iload 4, 2)), (6, (.invokevirtual 201, 3)), (9, (.istore 5, 2)), (11, (.iload 5, 2)), (13, (.ifCond .ge 8, 3)), (16, (.iload 5, 2)), (18, (.goto 11, 3)), (21, (.iload_n 1, 1)), (22, (.iload_n 2, 1)), (23, (.iload_n 3, 1)), (24, (.iload 4, 2)), (26, (.invokestatic 99, 3)), (29, (.ireturn, 1))]
theorem DX9_number_all : ∀ q ∈ LX9_number, decode cX9_number q.1 = .ok q.2 := by decide +kernel
theorem DX9_number (k : Nat) {pc : Nat} {q : Instr × Nat} (h : LX9_number[k]? = some (pc, q)) : decode cX9_number pc = .ok q := DX9_number_all (pc, q) (List.mem_of_getElem? h)
def LX9_folded : List (Nat × (Instr × Nat)) := [(0, (.aload_n 0, 1)), (1, (.iload_n 1, 1)), (2, (.iload_n 2, 1)), (3, (.iload_n 3, 1)), (4, (.iload 4, 2)), (6, (.invokevirtual 201, 3)), (9, (.istore 5, 2)), (11, (.iload 5, 2)), (13, (.ifCond .ge 6, 3)), (16, (.iload 5, 2)), (18, (.ireturn, 1)), (19, (.aload_n 0, 1)), (20, (.invokevirtual 161, 3)), (23, (.aload_n 0, 1)), (24, (.getfield 32, 3)), (27, (.iload_n 1, 1)), (28, (.iload_n 2, 1)), (29, (.iload_n 3, 1)), (30, (.iload 4, 2)), (32, (.invokestatic 99, 3)), (35, (.iaload, 1)), (36, (.ireturn, 1))]
theorem DX9_folded_all : ∀ q ∈ LX9_folded, decode cX9_folded q.1 = .ok q.2 := by decide +kernel
theorem DX9_folded (k : Nat) {pc : Nat} {q : Instr × Nat} (h : LX9_folded[k]? = some (pc, q)) : decode cX9_folded pc = .ok q := DX9_folded_all (pc, q) (List.mem_of_getElem? h)
def LX9_of_0 : List (Nat × (Instr × Nat)) := [(0, (.iload_n 1, 1)), (1, (.iconst 0, 1)), (2, (.sipush 4095, 3)), (5, (.invokestatic 53, 3)), (8, (.ifCond .eq 13, 3)), (11, (.iload_n 2, 1)), (12, (.iconst 0, 1)), (13, (.bipush 6, 2)), (15, (.invokestatic 53, 3)), (18, (.ifCond .ne 6, 3)), (21, (.bipush (-2), 2)), (23, (.ireturn, 1)), (24, (.aload_n 0, 1)), (25, (.iload_n 1, 1)), (26, (.invokevirtual 113, 3)), (29, (.ifCond .ne 5, 3)), (32, (.iconst (-1), 1)), (33, (.ireturn, 1)), (34, (.aload_n 0, 1)), (35, (.invokevirtual 161, 3)), (38, (.iload_n 2, 1)), (39, (.tableswitch 92 0 5 #[37, 43, 52, 63, 74, 81], 37)), (76, (.iload_n 1, 1)), (77, (.sipush 2048, 3)), (80, (.idiv, 1)), (81, (.ireturn, 1)), (82, (.iload_n 1, 1)), (83, (.sipush 128, 3)), (86, (.idiv, 1)), (87, (.bipush 16, 2)), (89, (.irem, 1)), (90, (.ireturn, 1)), (91, (.aload_n 0, 1)), (92, (.getfield 23, 3)), (95, (.iload_n 1, 1)), (96, (.sipush 128, 3)), (99, (.irem, 1)), (100, (.iaload, 1)), (101, (.ireturn, 1)), (102, (.aload_n 0, 1)), (103, (.getfield 26, 3)), (106, (.iload_n 1, 1)), (107, (.sipush 128, 3)), (110, (.irem, 1)), (111, (.iaload, 1)), (112, (.ireturn, 1)), (113, (.aload_n 0, 1)), (114, (.getfield 29, 3)), (117, (.iload_n 1, 1)), (118, (.iaload, 1)), (119, (.ireturn, 1)), (120, (.aload_n 0, 1)), (121, (.getfield 41, 3)), (124, (.aload_n 0, 1)), (125, (.iload_n 1, 1)), (126, (.invokevirtual 138, 3)), (129, (.iaload, 1)), (130, (.ireturn, 1)), (131, (.aload_n 0, 1)), (132, (.getfield 35, 3))]
theorem DX9_of_0_all : ∀ q ∈ LX9_of_0, decode cX9_of q.1 = .ok q.2 := by decide +kernel
theorem DX9_of_0 (k : Nat) {pc : Nat} {q : Instr × Nat} (h : LX9_of_0[k]? = some (pc, q)) : decode cX9_of pc = .ok q := DX9_of_0_all (pc, q) (List.mem_of_getElem? h)
def LX9_of_1 : List (Nat × (Instr × Nat)) := [(135, (.iload_n 1, 1)), (136, (.iaload, 1)), (137, (.ireturn, 1))]
theorem DX9_of_1_all : ∀ q ∈ LX9_of_1, decode cX9_of q.1 = .ok q.2 := by decide +kernel
theorem DX9_of_1 (k : Nat) {pc : Nat} {q : Instr × Nat} (h : LX9_of_1[k]? = some (pc, q)) : decode cX9_of pc = .ok q := DX9_of_1_all (pc, q) (List.mem_of_getElem? h)
def LX9_line_0 : List (Nat × (Instr × Nat)) := [(0, (.iload_n 1, 1)), (1, (.iconst 1, 1)), (2, (.bipush 60, 2)), (4, (.invokestatic 53, 3)), (7, (.ifCond .ne 6, 3)), (10, (.bipush (-2), 2)), (12, (.ireturn, 1)), (13, (.aload_n 0, 1)), (14, (.getfield 7, 3)), (17, (.iconst 4, 1)), (18, (.iaload, 1)), (19, (.istore_n 2, 1)), (20, (.aload_n 0, 1)), (21, (.getfield 7, 3)), (24, (.iconst 5, 1)), (25, (.iaload, 1)), (26, (.istore_n 3, 1)), (27, (.aload_n 0, 1)), (28, (.getfield 7, 3)), (31, (.bipush 6, 2)), (33, (.iaload, 1)), (34, (.istore 4, 2)), (36, (.aload_n 0, 1)), (37, (.getfield 7, 3)), (40, (.bipush 7, 2)), (42, (.iaload, 1)), (43, (.istore 5, 2)), (45, (.iconst 0, 1)), (46, (.istore 6, 2)), (48, (.iload 6, 2)), (50, (.iload_n 1, 1)), (51, (.if_icmp .ge 29, 3)), (54, (.aload_n 0, 1)), (55, (.invokevirtual 214, 3)), (58, (.ifCond .eq 22, 3)), (61, (.aload_n 0, 1)), (62, (.aload_n 0, 1)), (63, (.getfield 180, 3)), (66, (.aload_n 0, 1)), (67, (.getfield 183, 3)), (70, (.invokevirtual 211, 3)), (73, (.pop, 1)), (74, (.iinc 6 1, 3)), (77, (.goto (-29), 3)), (80, (.iload 6, 2)), (82, (.iload_n 1, 1)), (83, (.if_icmp .lt 10, 3)), (86, (.aload_n 0, 1)), (87, (.invokevirtual 171, 3)), (90, (.ifCond .eq 8, 3)), (93, (.bipush (-6), 2)), (95, (.goto 7, 3)), (98, (.aload_n 0, 1)), (99, (.invokevirtual 167, 3)), (102, (.istore 7, 2)), (104, (.aload_n 0, 1)), (105, (.iload_n 2, 1)), (106, (.iload_n 3, 1)), (107, (.iload 4, 2)), (109, (.iload 5, 2))]
theorem DX9_line_0_all : ∀ q ∈ LX9_line_0, decode cX9_line q.1 = .ok q.2 := by decide +kernel
theorem DX9_line_0 (k : Nat) {pc : Nat} {q : Instr × Nat} (h : LX9_line_0[k]? = some (pc, q)) : decode cX9_line pc = .ok q := DX9_line_0_all (pc, q) (List.mem_of_getElem? h)
def LX9_line_1 : List (Nat × (Instr × Nat)) := [(111, (.invokevirtual 204, 3)), (114, (.iload 7, 2)), (116, (.ireturn, 1))]
theorem DX9_line_1_all : ∀ q ∈ LX9_line_1, decode cX9_line q.1 = .ok q.2 := by decide +kernel
theorem DX9_line_1 (k : Nat) {pc : Nat} {q : Instr × Nat} (h : LX9_line_1[k]? = some (pc, q)) : decode cX9_line pc = .ok q := DX9_line_1_all (pc, q) (List.mem_of_getElem? h)
def LX9_positions : List (Nat × (Instr × Nat)) := [(0, (.iconst 0, 1)), (1, (.istore_n 2, 1)), (2, (.iconst 0, 1)), (3, (.istore_n 3, 1)), (4, (.iload_n 3, 1)), (5, (.sipush 4096, 3)), (8, (.if_icmp .ge 48, 3)), (11, (.iload_n 2, 1)), (12, (.iload_n 1, 1)), (13, (.ifCond .eq 21, 3)), (16, (.aload_n 0, 1)), (17, (.getfield 32, 3)), (20, (.iload_n 3, 1)), (21, (.iaload, 1)), (22, (.iload_n 3, 1)), (23, (.if_icmp .ne 7, 3)), (26, (.iconst 1, 1)), (27, (.goto 21, 3)), (30, (.iconst 0, 1)), (31, (.goto 17, 3)), (34, (.aload_n 0, 1)), (35, (.getfield 32, 3)), (38, (.iload_n 3, 1)), (39, (.iaload, 1)), (40, (.ifCond .lt 7, 3)), (43, (.iconst 1, 1)), (44, (.goto 4, 3)), (47, (.iconst 0, 1)), (48, (.iadd, 1)), (49, (.istore_n 2, 1)), (50, (.iinc 3 1, 3)), (53, (.goto (-49), 3)), (56, (.iload_n 2, 1)), (57, (.ireturn, 1))]
theorem DX9_positions_all : ∀ q ∈ LX9_positions, decode cX9_positions q.1 = .ok q.2 := by decide +kernel
theorem DX9_positions (k : Nat) {pc : Nat} {q : Instr × Nat} (h : LX9_positions[k]? = some (pc, q)) : decode cX9_positions pc = .ok q := DX9_positions_all (pc, q) (List.mem_of_getElem? h)
def LX9_greatest : List (Nat × (Instr × Nat)) := [(0, (.bipush (-6), 2)), (2, (.istore_n 1, 1)), (3, (.iconst 0, 1)), (4, (.istore_n 2, 1)), (5, (.iload_n 2, 1)), (6, (.sipush 4096, 3)), (9, (.if_icmp .ge 20, 3)), (12, (.iload_n 1, 1)), (13, (.aload_n 0, 1)), (14, (.getfield 29, 3)), (17, (.iload_n 2, 1)), (18, (.iaload, 1)), (19, (.invokestatic 85, 3)), (22, (.istore_n 1, 1)), (23, (.iinc 2 1, 3)), (26, (.goto (-21), 3)), (29, (.iload_n 1, 1)), (30, (.ireturn, 1))]
theorem DX9_greatest_all : ∀ q ∈ LX9_greatest, decode cX9_greatest q.1 = .ok q.2 := by decide +kernel
theorem DX9_greatest (k : Nat) {pc : Nat} {q : Instr × Nat} (h : LX9_greatest[k]? = some (pc, q)) : decode cX9_greatest pc = .ok q := DX9_greatest_all (pc, q) (List.mem_of_getElem? h)
def LX9_lowestWith : List (Nat × (Instr × Nat)) := [(0, (.iconst 0, 1)), (1, (.istore_n 2, 1)), (2, (.iload_n 1, 1)), (3, (.ifCond .lt 19, 3)), (6, (.aload_n 0, 1)), (7, (.getfield 29, 3)), (10, (.iload_n 2, 1)), (11, (.iaload, 1)), (12, (.iload_n 1, 1)), (13, (.if_icmp .eq 9, 3)), (16, (.iinc 2 1, 3)), (19, (.goto (-17), 3)), (22, (.iload_n 1, 1)), (23, (.ifCond .ge 8, 3)), (26, (.bipush (-6), 2)), (28, (.goto 4, 3)), (31, (.iload_n 2, 1)), (32, (.ireturn, 1))]
theorem DX9_lowestWith_all : ∀ q ∈ LX9_lowestWith, decode cX9_lowestWith q.1 = .ok q.2 := by decide +kernel
theorem DX9_lowestWith (k : Nat) {pc : Nat} {q : Instr × Nat} (h : LX9_lowestWith[k]? = some (pc, q)) : decode cX9_lowestWith pc = .ok q := DX9_lowestWith_all (pc, q) (List.mem_of_getElem? h)
def LX9_standingWith : List (Nat × (Instr × Nat)) := [(0, (.iconst 0, 1)), (1, (.istore_n 2, 1)), (2, (.iconst 0, 1)), (3, (.istore_n 3, 1)), (4, (.iload_n 3, 1)), (5, (.sipush 4096, 3)), (8, (.if_icmp .ge 37, 3)), (11, (.iload_n 2, 1)), (12, (.aload_n 0, 1)), (13, (.getfield 32, 3)), (16, (.iload_n 3, 1)), (17, (.iaload, 1)), (18, (.iload_n 3, 1)), (19, (.if_icmp .ne 17, 3)), (22, (.aload_n 0, 1)), (23, (.getfield 29, 3)), (26, (.iload_n 3, 1)), (27, (.iaload, 1)), (28, (.iload_n 1, 1)), (29, (.if_icmp .ne 7, 3)), (32, (.iconst 1, 1)), (33, (.goto 4, 3)), (36, (.iconst 0, 1)), (37, (.iadd, 1)), (38, (.istore_n 2, 1)), (39, (.iinc 3 1, 3)), (42, (.goto (-38), 3)), (45, (.iload_n 2, 1)), (46, (.ireturn, 1))]
theorem DX9_standingWith_all : ∀ q ∈ LX9_standingWith, decode cX9_standingWith q.1 = .ok q.2 := by decide +kernel
theorem DX9_standingWith (k : Nat) {pc : Nat} {q : Instr × Nat} (h : LX9_standingWith[k]? = some (pc, q)) : decode cX9_standingWith pc = .ok q := DX9_standingWith_all (pc, q) (List.mem_of_getElem? h)
def LX9_isException : List (Nat × (Instr × Nat)) := [(0, (.aload_n 0, 1)), (1, (.getfield 32, 3)), (4, (.iload_n 1, 1)), (5, (.iaload, 1)), (6, (.iload_n 1, 1)), (7, (.if_icmp .ne 26, 3)), (10, (.aload_n 0, 1)), (11, (.getfield 29, 3)), (14, (.iload_n 1, 1)), (15, (.iaload, 1)), (16, (.aload_n 0, 1)), (17, (.getfield 41, 3)), (20, (.aload_n 0, 1)), (21, (.iload_n 1, 1)), (22, (.invokevirtual 138, 3)), (25, (.iaload, 1)), (26, (.if_icmp .eq 7, 3)), (29, (.iconst 1, 1)), (30, (.goto 4, 3)), (33, (.iconst 0, 1)), (34, (.ireturn, 1))]
theorem DX9_isException_all : ∀ q ∈ LX9_isException, decode cX9_isException q.1 = .ok q.2 := by decide +kernel
theorem DX9_isException (k : Nat) {pc : Nat} {q : Instr × Nat} (h : LX9_isException[k]? = some (pc, q)) : decode cX9_isException pc = .ok q := DX9_isException_all (pc, q) (List.mem_of_getElem? h)
def LX9_exceptions : List (Nat × (Instr × Nat)) := [(0, (.iconst 0, 1)), (1, (.istore_n 1, 1)), (2, (.iconst 0, 1)), (3, (.istore_n 2, 1)), (4, (.iload_n 2, 1)), (5, (.sipush 4096, 3)), (8, (.if_icmp .ge 25, 3)), (11, (.iload_n 1, 1)), (12, (.aload_n 0, 1)), (13, (.iload_n 2, 1)), (14, (.invokevirtual 226, 3)), (17, (.ifCond .eq 7, 3)), (20, (.iconst 1, 1)), (21, (.goto 4, 3)), (24, (.iconst 0, 1)), (25, (.iadd, 1)), (26, (.istore_n 1, 1)), (27, (.iinc 2 1, 3)), (30, (.goto (-26), 3)), (33, (.iload_n 1, 1)), (34, (.ireturn, 1))]
theorem DX9_exceptions_all : ∀ q ∈ LX9_exceptions, decode cX9_exceptions q.1 = .ok q.2 := by decide +kernel
theorem DX9_exceptions (k : Nat) {pc : Nat} {q : Instr × Nat} (h : LX9_exceptions[k]? = some (pc, q)) : decode cX9_exceptions pc = .ok q := DX9_exceptions_all (pc, q) (List.mem_of_getElem? h)
def LX9_runs : List (Nat × (Instr × Nat)) := [(0, (.iconst 0, 1)), (1, (.istore_n 2, 1)), (2, (.iconst 0, 1)), (3, (.istore_n 3, 1)), (4, (.iconst 0, 1)), (5, (.istore 4, 2)), (7, (.iconst 0, 1)), (8, (.istore 5, 2)), (10, (.iload 5, 2)), (12, (.sipush 4096, 3)), (15, (.if_icmp .ge 59, 3)), (18, (.aload_n 0, 1)), (19, (.getfield 32, 3)), (22, (.iload 5, 2)), (24, (.iaload, 1)), (25, (.iload 5, 2)), (27, (.if_icmp .ne 41, 3)), (30, (.aload_n 0, 1)), (31, (.iload 5, 2)), (33, (.invokevirtual 226, 3)), (36, (.ifCond .eq 9, 3)), (39, (.iload_n 3, 1)), (40, (.iconst 1, 1)), (41, (.iadd, 1)), (42, (.goto 4, 3)), (45, (.iconst 0, 1)), (46, (.istore_n 3, 1)), (47, (.iload_n 2, 1)), (48, (.iload_n 3, 1)), (49, (.iconst 1, 1)), (50, (.if_icmp .ne 7, 3)), (53, (.iconst 1, 1)), (54, (.goto 4, 3)), (57, (.iconst 0, 1)), (58, (.iadd, 1)), (59, (.istore_n 2, 1)), (60, (.iload 4, 2)), (62, (.iload_n 3, 1)), (63, (.invokestatic 85, 3)), (66, (.istore 4, 2)), (68, (.iinc 5 1, 3)), (71, (.goto (-61), 3)), (74, (.iload_n 1, 1)), (75, (.ifCond .ne 7, 3)), (78, (.iload_n 2, 1)), (79, (.goto 5, 3)), (82, (.iload 4, 2)), (84, (.ireturn, 1))]
theorem DX9_runs_all : ∀ q ∈ LX9_runs, decode cX9_runs q.1 = .ok q.2 := by decide +kernel
theorem DX9_runs (k : Nat) {pc : Nat} {q : Instr × Nat} (h : LX9_runs[k]? = some (pc, q)) : decode cX9_runs pc = .ok q := DX9_runs_all (pc, q) (List.mem_of_getElem? h)
def LX9_blocks : List (Nat × (Instr × Nat)) := [(0, (.iconst 0, 1)), (1, (.istore_n 1, 1)), (2, (.iconst 0, 1)), (3, (.istore_n 2, 1)), (4, (.iload_n 2, 1)), (5, (.bipush 64, 2)), (7, (.if_icmp .ge 53, 3)), (10, (.iconst 0, 1)), (11, (.istore_n 3, 1)), (12, (.iconst 0, 1)), (13, (.istore 4, 2)), (15, (.iload 4, 2)), (17, (.bipush 64, 2)), (19, (.if_icmp .ge 23, 3)), (22, (.iload_n 3, 1)), (23, (.aload_n 0, 1)), (24, (.bipush 64, 2)), (26, (.iload_n 2, 1)), (27, (.imul, 1)), (28, (.iload 4, 2)), (30, (.iadd, 1)), (31, (.invokevirtual 226, 3)), (34, (.ior, 1)), (35, (.istore_n 3, 1)), (36, (.iinc 4 1, 3)), (39, (.goto (-24), 3)), (42, (.iload_n 1, 1)), (43, (.iload_n 3, 1)), (44, (.ifCond .eq 7, 3)), (47, (.iconst 1, 1)), (48, (.goto 4, 3)), (51, (.iconst 0, 1)), (52, (.iadd, 1)), (53, (.istore_n 1, 1)), (54, (.iinc 2 1, 3)), (57, (.goto (-53), 3)), (60, (.iload_n 1, 1)), (61, (.ireturn, 1))]
theorem DX9_blocks_all : ∀ q ∈ LX9_blocks, decode cX9_blocks q.1 = .ok q.2 := by decide +kernel
theorem DX9_blocks (k : Nat) {pc : Nat} {q : Instr × Nat} (h : LX9_blocks[k]? = some (pc, q)) : decode cX9_blocks pc = .ok q := DX9_blocks_all (pc, q) (List.mem_of_getElem? h)
def LX9_keys : List (Nat × (Instr × Nat)) := [(0, (.iconst 0, 1)), (1, (.istore_n 1, 1)), (2, (.iconst 0, 1)), (3, (.istore_n 2, 1)), (4, (.iload_n 2, 1)), (5, (.bipush 98, 2)), (7, (.if_icmp .ge 27, 3)), (10, (.iload_n 1, 1)), (11, (.aload_n 0, 1)), (12, (.getfield 41, 3)), (15, (.iload_n 2, 1)), (16, (.iaload, 1)), (17, (.iconst (-1), 1)), (18, (.if_icmp .ne 7, 3)), (21, (.iconst 0, 1)), (22, (.goto 4, 3)), (25, (.iconst 1, 1)), (26, (.iadd, 1)), (27, (.istore_n 1, 1)), (28, (.iinc 2 1, 3)), (31, (.goto (-27), 3)), (34, (.iload_n 1, 1)), (35, (.ireturn, 1))]
theorem DX9_keys_all : ∀ q ∈ LX9_keys, decode cX9_keys q.1 = .ok q.2 := by decide +kernel
theorem DX9_keys (k : Nat) {pc : Nat} {q : Instr × Nat} (h : LX9_keys[k]? = some (pc, q)) : decode cX9_keys pc = .ok q := DX9_keys_all (pc, q) (List.mem_of_getElem? h)
def LX9_all : List (Nat × (Instr × Nat)) := [(0, (.iload_n 1, 1)), (1, (.iconst 0, 1)), (2, (.bipush 10, 2)), (4, (.invokestatic 53, 3)), (7, (.ifCond .ne 6, 3)), (10, (.bipush (-2), 2)), (12, (.ireturn, 1)), (13, (.aload_n 0, 1)), (14, (.invokevirtual 161, 3)), (17, (.iload_n 1, 1)), (18, (.tableswitch 117 0 9 #[54, 54, 69, 74, 79, 88, 95, 100, 106, 111], 54)), (72, (.aload_n 0, 1)), (73, (.iload_n 1, 1)), (74, (.iconst 1, 1)), (75, (.if_icmp .ne 7, 3)), (78, (.iconst 1, 1)), (79, (.goto 4, 3)), (82, (.iconst 0, 1)), (83, (.invokevirtual 229, 3)), (86, (.ireturn, 1)), (87, (.aload_n 0, 1)), (88, (.getfield 125, 3)), (91, (.ireturn, 1)), (92, (.aload_n 0, 1)), (93, (.invokevirtual 233, 3)), (96, (.ireturn, 1)), (97, (.aload_n 0, 1)), (98, (.aload_n 0, 1)), (99, (.invokevirtual 233, 3)), (102, (.invokevirtual 236, 3)), (105, (.ireturn, 1)), (106, (.aload_n 0, 1)), (107, (.bipush (-6), 2)), (109, (.invokevirtual 239, 3)), (112, (.ireturn, 1)), (113, (.aload_n 0, 1)), (114, (.invokevirtual 242, 3)), (117, (.ireturn, 1)), (118, (.aload_n 0, 1)), (119, (.iconst 0, 1)), (120, (.invokevirtual 245, 3)), (123, (.ireturn, 1)), (124, (.aload_n 0, 1)), (125, (.invokevirtual 248, 3)), (128, (.ireturn, 1)), (129, (.aload_n 0, 1)), (130, (.iconst 1, 1)), (131, (.invokevirtual 245, 3)), (134, (.ireturn, 1)), (135, (.aload_n 0, 1)), (136, (.invokevirtual 251, 3)), (139, (.ireturn, 1))]
theorem DX9_all_all : ∀ q ∈ LX9_all, decode cX9_all q.1 = .ok q.2 := by decide +kernel
theorem DX9_all (k : Nat) {pc : Nat} {q : Instr × Nat} (h : LX9_all[k]? = some (pc, q)) : decode cX9_all pc = .ok q := DX9_all_all (pc, q) (List.mem_of_getElem? h)
def LX9_withDistance : List (Nat × (Instr × Nat)) := [(0, (.iload_n 1, 1)), (1, (.bipush (-6), 2)), (3, (.if_icmp .eq 17, 3)), (6, (.iload_n 1, 1)), (7, (.iconst 0, 1)), (8, (.sipush 200, 3)), (11, (.invokestatic 53, 3)), (14, (.ifCond .ne 6, 3)), (17, (.bipush (-2), 2)), (19, (.ireturn, 1)), (20, (.aload_n 0, 1)), (21, (.invokevirtual 161, 3)), (24, (.aload_n 0, 1)), (25, (.iload_n 1, 1)), (26, (.invokevirtual 239, 3)), (29, (.ireturn, 1))]
theorem DX9_withDistance_all : ∀ q ∈ LX9_withDistance, decode cX9_withDistance q.1 = .ok q.2 := by decide +kernel
theorem DX9_withDistance (k : Nat) {pc : Nat} {q : Instr × Nat} (h : LX9_withDistance[k]? = some (pc, q)) : decode cX9_withDistance pc = .ok q := DX9_withDistance_all (pc, q) (List.mem_of_getElem? h)
def LX9_rule : List (Nat × (Instr × Nat)) := [(0, (.iload_n 1, 1)), (1, (.iconst 0, 1)), (2, (.bipush 97, 2)), (4, (.invokestatic 53, 3)), (7, (.ifCond .ne 6, 3)), (10, (.bipush (-2), 2)), (12, (.ireturn, 1)), (13, (.aload_n 0, 1)), (14, (.invokevirtual 161, 3)), (17, (.aload_n 0, 1)), (18, (.getfield 41, 3)), (21, (.iload_n 1, 1)), (22, (.iaload, 1)), (23, (.ireturn, 1))]
theorem DX9_rule_all : ∀ q ∈ LX9_rule, decode cX9_rule q.1 = .ok q.2 := by decide +kernel
theorem DX9_rule (k : Nat) {pc : Nat} {q : Instr × Nat} (h : LX9_rule[k]? = some (pc, q)) : decode cX9_rule pc = .ok q := DX9_rule_all (pc, q) (List.mem_of_getElem? h)
def LX9_put_0 : List (Nat × (Instr × Nat)) := [(0, (.iconst 0, 1)), (1, (.istore_n 3, 1)), (2, (.lload_n 1, 1)), (3, (.lstore 4, 2)), (5, (.iload_n 3, 1)), (6, (.bipush 8, 2)), (8, (.if_icmp .ge 47, 3)), (11, (.lload 4, 2)), (13, (.ldc2_w 254, 3)), (16, (.land, 1)), (17, (.lconst 0, 1)), (18, (.lcmp, 1)), (19, (.ifCond .eq 36, 3)), (22, (.lload 4, 2)), (24, (.ldc2_w 254, 3)), (27, (.land, 1)), (28, (.l2i, 1)), (29, (.bipush 33, 2)), (31, (.bipush 126, 2)), (33, (.invokestatic 53, 3)), (36, (.ifCond .ne 6, 3)), (39, (.bipush (-2), 2)), (41, (.ireturn, 1)), (42, (.iinc 3 1, 3)), (45, (.lload 4, 2)), (47, (.bipush 8, 2)), (49, (.lushr, 1)), (50, (.lstore 4, 2)), (52, (.goto (-47), 3)), (55, (.iload_n 3, 1)), (56, (.ifCond .eq 10, 3)), (59, (.lload 4, 2)), (61, (.lconst 0, 1)), (62, (.lcmp, 1)), (63, (.ifCond .eq 6, 3)), (66, (.bipush (-2), 2)), (68, (.ireturn, 1)), (69, (.aload_n 0, 1)), (70, (.getfield 223, 3)), (73, (.iload_n 3, 1)), (74, (.iadd, 1)), (75, (.bipush 24, 2)), (77, (.if_icmp .le 6, 3)), (80, (.bipush (-4), 2)), (82, (.ireturn, 1)), (83, (.iconst 0, 1)), (84, (.istore 6, 2)), (86, (.iload 6, 2)), (88, (.iload_n 3, 1)), (89, (.if_icmp .ge 37, 3)), (92, (.aload_n 0, 1)), (93, (.getfield 50, 3)), (96, (.aload_n 0, 1)), (97, (.getfield 223, 3)), (100, (.iload 6, 2)), (102, (.iadd, 1)), (103, (.lload_n 1, 1)), (104, (.bipush 8, 2)), (106, (.iload_n 3, 1)), (107, (.iconst 1, 1))]
theorem DX9_put_0_all : ∀ q ∈ LX9_put_0, decode cX9_put q.1 = .ok q.2 := by decide +kernel
theorem DX9_put_0 (k : Nat) {pc : Nat} {q : Instr × Nat} (h : LX9_put_0[k]? = some (pc, q)) : decode cX9_put pc = .ok q := DX9_put_0_all (pc, q) (List.mem_of_getElem? h)
def LX9_put_1 : List (Nat × (Instr × Nat)) := [(108, (.isub, 1)), (109, (.iload 6, 2)), (111, (.isub, 1)), (112, (.imul, 1)), (113, (.lshr, 1)), (114, (.ldc2_w 254, 3)), (117, (.land, 1)), (118, (.l2i, 1)), (119, (.iastore, 1)), (120, (.iinc 6 1, 3)), (123, (.goto (-37), 3)), (126, (.aload_n 0, 1)), (127, (.dup, 1)), (128, (.getfield 223, 3)), (131, (.iload_n 3, 1)), (132, (.iadd, 1)), (133, (.putfield 223, 3)), (136, (.aload_n 0, 1)), (137, (.getfield 223, 3)), (140, (.ireturn, 1))]
theorem DX9_put_1_all : ∀ q ∈ LX9_put_1, decode cX9_put q.1 = .ok q.2 := by decide +kernel
theorem DX9_put_1 (k : Nat) {pc : Nat} {q : Instr × Nat} (h : LX9_put_1[k]? = some (pc, q)) : decode cX9_put pc = .ok q := DX9_put_1_all (pc, q) (List.mem_of_getElem? h)
def LX9_wipe : List (Nat × (Instr × Nat)) := [(0, (.aload_n 0, 1)), (1, (.getfield 223, 3)), (4, (.istore_n 1, 1)), (5, (.aload_n 0, 1)), (6, (.iconst 0, 1)), (7, (.putfield 223, 3)), (10, (.iload_n 1, 1)), (11, (.ireturn, 1))]
theorem DX9_wipe_all : ∀ q ∈ LX9_wipe, decode cX9_wipe q.1 = .ok q.2 := by decide +kernel
theorem DX9_wipe (k : Nat) {pc : Nat} {q : Instr × Nat} (h : LX9_wipe[k]? = some (pc, q)) : decode cX9_wipe pc = .ok q := DX9_wipe_all (pc, q) (List.mem_of_getElem? h)
def LX9_canStand : List (Nat × (Instr × Nat)) := [(0, (.iload_n 1, 1)), (1, (.bipush 19, 2)), (3, (.if_icmp .lt 27, 3)), (6, (.iload_n 1, 1)), (7, (.bipush 19, 2)), (9, (.if_icmp .ne 19, 3)), (12, (.iload_n 0, 1)), (13, (.bipush 104, 2)), (15, (.if_icmp .eq 9, 3)), (18, (.iload_n 0, 1)), (19, (.bipush 102, 2)), (21, (.if_icmp .ne 7, 3)), (24, (.iconst 1, 1)), (25, (.goto 4, 3)), (28, (.iconst 0, 1)), (29, (.ireturn, 1)), (30, (.iload_n 1, 1)), (31, (.iconst 5, 1)), (32, (.irem, 1)), (33, (.iconst 4, 1)), (34, (.if_icmp .ne 17, 3)), (37, (.iload_n 0, 1)), (38, (.bipush 47, 2)), (40, (.if_icmp .ne 7, 3)), (43, (.iconst 1, 1)), (44, (.goto 36, 3)), (47, (.iconst 0, 1)), (48, (.goto 32, 3)), (51, (.iload_n 0, 1)), (52, (.bipush 46, 2)), (54, (.if_icmp .eq 21, 3)), (57, (.iload_n 0, 1)), (58, (.bipush 35, 2)), (60, (.if_icmp .eq 15, 3)), (63, (.iload_n 0, 1)), (64, (.bipush 70, 2)), (66, (.if_icmp .eq 9, 3)), (69, (.iload_n 0, 1)), (70, (.bipush 72, 2)), (72, (.if_icmp .ne 7, 3)), (75, (.iconst 1, 1)), (76, (.goto 4, 3)), (79, (.iconst 0, 1)), (80, (.ireturn, 1))]
theorem DX9_canStand_all : ∀ q ∈ LX9_canStand, decode cX9_canStand q.1 = .ok q.2 := by decide +kernel
theorem DX9_canStand (k : Nat) {pc : Nat} {q : Instr × Nat} (h : LX9_canStand[k]? = some (pc, q)) : decode cX9_canStand pc = .ok q := DX9_canStand_all (pc, q) (List.mem_of_getElem? h)
def LX9_fault : List (Nat × (Instr × Nat)) := [(0, (.iconst 0, 1)), (1, (.istore_n 1, 1)), (2, (.iload_n 1, 1)), (3, (.aload_n 0, 1)), (4, (.getfield 223, 3)), (7, (.if_icmp .ge 22, 3)), (10, (.aload_n 0, 1)), (11, (.getfield 50, 3)), (14, (.iload_n 1, 1)), (15, (.iaload, 1)), (16, (.iload_n 1, 1)), (17, (.invokestatic 256, 3)), (20, (.ifCond .eq 9, 3)), (23, (.iinc 1 1, 3)), (26, (.goto (-24), 3)), (29, (.iload_n 1, 1)), (30, (.aload_n 0, 1)), (31, (.getfield 223, 3)), (34, (.if_icmp .lt 9, 3)), (37, (.iload_n 1, 1)), (38, (.bipush 20, 2)), (40, (.if_icmp .ge 7, 3)), (43, (.iload_n 1, 1)), (44, (.goto 5, 3)), (47, (.bipush (-6), 2)), (49, (.ireturn, 1))]
theorem DX9_fault_all : ∀ q ∈ LX9_fault, decode cX9_fault q.1 = .ok q.2 := by decide +kernel
theorem DX9_fault (k : Nat) {pc : Nat} {q : Instr × Nat} (h : LX9_fault[k]? = some (pc, q)) : decode cX9_fault pc = .ok q := DX9_fault_all (pc, q) (List.mem_of_getElem? h)
def LX9_placesOf : List (Nat × (Instr × Nat)) := [(0, (.iconst 0, 1)), (1, (.istore_n 2, 1)), (2, (.iconst 0, 1)), (3, (.istore_n 3, 1)), (4, (.iload_n 3, 1)), (5, (.bipush 16, 2)), (7, (.if_icmp .ge 37, 3)), (10, (.iload_n 2, 1)), (11, (.aload_n 0, 1)), (12, (.getfield 50, 3)), (15, (.iload_n 3, 1)), (16, (.iconst 4, 1)), (17, (.idiv, 1)), (18, (.iconst 5, 1)), (19, (.imul, 1)), (20, (.iload_n 3, 1)), (21, (.iconst 4, 1)), (22, (.irem, 1)), (23, (.iadd, 1)), (24, (.iaload, 1)), (25, (.iload_n 1, 1)), (26, (.if_icmp .ne 9, 3)), (29, (.iconst 1, 1)), (30, (.iload_n 3, 1)), (31, (.ishl, 1)), (32, (.goto 4, 3)), (35, (.iconst 0, 1)), (36, (.ior, 1)), (37, (.istore_n 2, 1)), (38, (.iinc 3 1, 3)), (41, (.goto (-37), 3)), (44, (.iload_n 2, 1)), (45, (.ireturn, 1))]
theorem DX9_placesOf_all : ∀ q ∈ LX9_placesOf, decode cX9_placesOf q.1 = .ok q.2 := by decide +kernel
theorem DX9_placesOf (k : Nat) {pc : Nat} {q : Instr × Nat} (h : LX9_placesOf[k]? = some (pc, q)) : decode cX9_placesOf pc = .ok q := DX9_placesOf_all (pc, q) (List.mem_of_getElem? h)
def LX9_lowest : List (Nat × (Instr × Nat)) := [(0, (.iconst 0, 1)), (1, (.istore_n 1, 1)), (2, (.iload_n 0, 1)), (3, (.iload_n 1, 1)), (4, (.invokestatic 78, 3)), (7, (.ifCond .ne 9, 3)), (10, (.iinc 1 1, 3)), (13, (.goto (-11), 3)), (16, (.iload_n 1, 1)), (17, (.ireturn, 1))]
theorem DX9_lowest_all : ∀ q ∈ LX9_lowest, decode cX9_lowest q.1 = .ok q.2 := by decide +kernel
theorem DX9_lowest (k : Nat) {pc : Nat} {q : Instr × Nat} (h : LX9_lowest[k]? = some (pc, q)) : decode cX9_lowest pc = .ok q := DX9_lowest_all (pc, q) (List.mem_of_getElem? h)
def LX9_readPad_0 : List (Nat × (Instr × Nat)) := [(0, (.aload_n 0, 1)), (1, (.invokevirtual 259, 3)), (4, (.ifCond .lt 6, 3)), (7, (.bipush (-3), 2)), (9, (.ireturn, 1)), (10, (.aload_n 0, 1)), (11, (.bipush 72, 2)), (13, (.invokevirtual 262, 3)), (16, (.istore_n 1, 1)), (17, (.aload_n 0, 1)), (18, (.bipush 70, 2)), (20, (.invokevirtual 262, 3)), (23, (.istore_n 2, 1)), (24, (.iload_n 1, 1)), (25, (.invokestatic 198, 3)), (28, (.iconst 2, 1)), (29, (.if_icmp .ne 11, 3)), (32, (.iload_n 2, 1)), (33, (.invokestatic 198, 3)), (36, (.iconst 1, 1)), (37, (.if_icmp .eq 6, 3)), (40, (.bipush (-5), 2)), (42, (.ireturn, 1)), (43, (.aload_n 0, 1)), (44, (.bipush 35, 2)), (46, (.invokevirtual 262, 3)), (49, (.invokestatic 198, 3)), (52, (.bipush 6, 2)), (54, (.if_icmp .le 6, 3)), (57, (.bipush (-4), 2)), (59, (.ireturn, 1)), (60, (.aload_n 0, 1)), (61, (.invokevirtual 192, 3)), (64, (.iload_n 1, 1)), (65, (.invokestatic 265, 3)), (68, (.istore_n 3, 1)), (69, (.aload_n 0, 1)), (70, (.getfield 7, 3)), (73, (.iconst 3, 1)), (74, (.aload_n 0, 1)), (75, (.bipush 35, 2)), (77, (.invokevirtual 262, 3)), (80, (.iastore, 1)), (81, (.aload_n 0, 1)), (82, (.aload_n 0, 1)), (83, (.getfield 50, 3)), (86, (.bipush 19, 2)), (88, (.iaload, 1)), (89, (.bipush 102, 2)), (91, (.if_icmp .ne 7, 3)), (94, (.iconst 1, 1)), (95, (.goto 4, 3)), (98, (.iconst 0, 1)), (99, (.iload_n 2, 1)), (100, (.invokestatic 265, 3)), (103, (.iload_n 3, 1)), (104, (.iload_n 1, 1)), (105, (.iconst 1, 1)), (106, (.iload_n 3, 1)), (107, (.ishl, 1))]
theorem DX9_readPad_0_all : ∀ q ∈ LX9_readPad_0, decode cX9_readPad q.1 = .ok q.2 := by decide +kernel
theorem DX9_readPad_0 (k : Nat) {pc : Nat} {q : Instr × Nat} (h : LX9_readPad_0[k]? = some (pc, q)) : decode cX9_readPad pc = .ok q := DX9_readPad_0_all (pc, q) (List.mem_of_getElem? h)
def LX9_readPad_1 : List (Nat × (Instr × Nat)) := [(108, (.iconst (-1), 1)), (109, (.ixor, 1)), (110, (.iand, 1)), (111, (.invokestatic 265, 3)), (114, (.invokevirtual 204, 3)), (117, (.aload_n 0, 1)), (118, (.iconst 0, 1)), (119, (.putfield 223, 3)), (122, (.aload_n 0, 1)), (123, (.invokevirtual 208, 3)), (126, (.ireturn, 1))]
theorem DX9_readPad_1_all : ∀ q ∈ LX9_readPad_1, decode cX9_readPad q.1 = .ok q.2 := by decide +kernel
theorem DX9_readPad_1 (k : Nat) {pc : Nat} {q : Instr × Nat} (h : LX9_readPad_1[k]? = some (pc, q)) : decode cX9_readPad pc = .ok q := DX9_readPad_1_all (pc, q) (List.mem_of_getElem? h)
def LX9_undo : List (Nat × (Instr × Nat)) := [(0, (.aload_n 0, 1)), (1, (.getfield 57, 3)), (4, (.ifCond .ne 6, 3)), (7, (.bipush (-5), 2)), (9, (.ireturn, 1)), (10, (.aload_n 0, 1)), (11, (.dup, 1)), (12, (.getfield 57, 3)), (15, (.iconst 1, 1)), (16, (.isub, 1)), (17, (.putfield 57, 3)), (20, (.aload_n 0, 1)), (21, (.getfield 61, 3)), (24, (.aload_n 0, 1)), (25, (.getfield 57, 3)), (28, (.iadd, 1)), (29, (.bipush 6, 2)), (31, (.irem, 1)), (32, (.istore_n 1, 1)), (33, (.iconst 0, 1)), (34, (.istore_n 2, 1)), (35, (.iload_n 2, 1)), (36, (.bipush 8, 2)), (38, (.if_icmp .ge 26, 3)), (41, (.aload_n 0, 1)), (42, (.getfield 7, 3)), (45, (.iload_n 2, 1)), (46, (.aload_n 0, 1)), (47, (.getfield 13, 3)), (50, (.bipush 8, 2)), (52, (.iload_n 1, 1)), (53, (.imul, 1)), (54, (.iload_n 2, 1)), (55, (.iadd, 1)), (56, (.iaload, 1)), (57, (.iastore, 1)), (58, (.iinc 2 1, 3)), (61, (.goto (-26), 3)), (64, (.aload_n 0, 1)), (65, (.getfield 57, 3)), (68, (.ireturn, 1))]
theorem DX9_undo_all : ∀ q ∈ LX9_undo, decode cX9_undo q.1 = .ok q.2 := by decide +kernel
theorem DX9_undo (k : Nat) {pc : Nat} {q : Instr × Nat} (h : LX9_undo[k]? = some (pc, q)) : decode cX9_undo pc = .ok q := DX9_undo_all (pc, q) (List.mem_of_getElem? h)
def LX9_save : List (Nat × (Instr × Nat)) := [(0, (.iload_n 1, 1)), (1, (.iconst 0, 1)), (2, (.iconst 1, 1)), (3, (.invokestatic 53, 3)), (6, (.ifCond .ne 6, 3)), (9, (.bipush (-2), 2)), (11, (.ireturn, 1)), (12, (.iconst 0, 1)), (13, (.istore_n 2, 1)), (14, (.iload_n 2, 1)), (15, (.bipush 8, 2)), (17, (.if_icmp .ge 26, 3)), (20, (.aload_n 0, 1)), (21, (.getfield 16, 3)), (24, (.bipush 8, 2)), (26, (.iload_n 1, 1)), (27, (.imul, 1)), (28, (.iload_n 2, 1)), (29, (.iadd, 1)), (30, (.aload_n 0, 1)), (31, (.getfield 7, 3)), (34, (.iload_n 2, 1)), (35, (.iaload, 1)), (36, (.iastore, 1)), (37, (.iinc 2 1, 3)), (40, (.goto (-26), 3)), (43, (.aload_n 0, 1)), (44, (.getfield 19, 3)), (47, (.iload_n 1, 1)), (48, (.iconst 1, 1)), (49, (.bastore, 1)), (50, (.aload_n 0, 1)), (51, (.getfield 7, 3)), (54, (.iconst 3, 1)), (55, (.iaload, 1)), (56, (.invokestatic 198, 3)), (59, (.ireturn, 1))]
theorem DX9_save_all : ∀ q ∈ LX9_save, decode cX9_save q.1 = .ok q.2 := by decide +kernel
theorem DX9_save (k : Nat) {pc : Nat} {q : Instr × Nat} (h : LX9_save[k]? = some (pc, q)) : decode cX9_save pc = .ok q := DX9_save_all (pc, q) (List.mem_of_getElem? h)
def LX9_restore : List (Nat × (Instr × Nat)) := [(0, (.iload_n 1, 1)), (1, (.iconst 0, 1)), (2, (.iconst 1, 1)), (3, (.invokestatic 53, 3)), (6, (.ifCond .ne 6, 3)), (9, (.bipush (-2), 2)), (11, (.ireturn, 1)), (12, (.aload_n 0, 1)), (13, (.getfield 19, 3)), (16, (.iload_n 1, 1)), (17, (.baload, 1)), (18, (.ifCond .ne 6, 3)), (21, (.bipush (-5), 2)), (23, (.ireturn, 1)), (24, (.aload_n 0, 1)), (25, (.invokevirtual 192, 3)), (28, (.iconst 0, 1)), (29, (.istore_n 2, 1)), (30, (.iload_n 2, 1)), (31, (.bipush 8, 2)), (33, (.if_icmp .ge 26, 3)), (36, (.aload_n 0, 1)), (37, (.getfield 7, 3)), (40, (.iload_n 2, 1)), (41, (.aload_n 0, 1)), (42, (.getfield 16, 3)), (45, (.bipush 8, 2)), (47, (.iload_n 1, 1)), (48, (.imul, 1)), (49, (.iload_n 2, 1)), (50, (.iadd, 1)), (51, (.iaload, 1)), (52, (.iastore, 1)), (53, (.iinc 2 1, 3)), (56, (.goto (-26), 3)), (59, (.aload_n 0, 1)), (60, (.getfield 7, 3)), (63, (.iconst 3, 1)), (64, (.iaload, 1)), (65, (.invokestatic 198, 3)), (68, (.ireturn, 1))]
theorem DX9_restore_all : ∀ q ∈ LX9_restore, decode cX9_restore q.1 = .ok q.2 := by decide +kernel
theorem DX9_restore (k : Nat) {pc : Nat} {q : Instr × Nat} (h : LX9_restore[k]? = some (pc, q)) : decode cX9_restore pc = .ok q := DX9_restore_all (pc, q) (List.mem_of_getElem? h)
def LJ6_bitCount_0f7a4 : List (Nat × (Instr × Nat)) := [(0, (.iload_n 0, 1)), (1, (.iload_n 0, 1)), (2, (.iconst 1, 1)), (3, (.iushr, 1)), (4, (.ldc_w 265, 3)), (7, (.iand, 1)), (8, (.isub, 1)), (9, (.istore_n 0, 1)), (10, (.iload_n 0, 1)), (11, (.ldc_w 266, 3)), (14, (.iand, 1)), (15, (.iload_n 0, 1)), (16, (.iconst 2, 1)), (17, (.iushr, 1)), (18, (.ldc_w 266, 3)), (21, (.iand, 1)), (22, (.iadd, 1)), (23, (.istore_n 0, 1)), (24, (.iload_n 0, 1)), (25, (.iload_n 0, 1)), (26, (.iconst 4, 1)), (27, (.iushr, 1)), (28, (.iadd, 1)), (29, (.ldc_w 267, 3)), (32, (.iand, 1)), (33, (.istore_n 0, 1)), (34, (.iload_n 0, 1)), (35, (.iload_n 0, 1)), (36, (.bipush 8, 2)), (38, (.iushr, 1)), (39, (.iadd, 1)), (40, (.istore_n 0, 1)), (41, (.iload_n 0, 1)), (42, (.iload_n 0, 1)), (43, (.bipush 16, 2)), (45, (.iushr, 1)), (46, (.iadd, 1)), (47, (.istore_n 0, 1)), (48, (.iload_n 0, 1)), (49, (.bipush 63, 2)), (51, (.iand, 1)), (52, (.ireturn, 1))]
theorem DJ6_bitCount_0f7a4_all : ∀ q ∈ LJ6_bitCount_0f7a4, decode cJ6_bitCount_0f7a4 q.1 = .ok q.2 := by decide +kernel
theorem DJ6_bitCount_0f7a4 (k : Nat) {pc : Nat} {q : Instr × Nat} (h : LJ6_bitCount_0f7a4[k]? = some (pc, q)) : decode cJ6_bitCount_0f7a4 pc = .ok q := DJ6_bitCount_0f7a4_all (pc, q) (List.mem_of_getElem? h)
def LJ9_abs_0f7a4 : List (Nat × (Instr × Nat)) := [(0, (.iload_n 0, 1)), (1, (.ifCond .ge 8, 3)), (4, (.iload_n 0, 1)), (5, (.ineg, 1)), (6, (.goto 4, 3)), (9, (.iload_n 0, 1)), (10, (.ireturn, 1))]
theorem DJ9_abs_0f7a4_all : ∀ q ∈ LJ9_abs_0f7a4, decode cJ9_abs_0f7a4 q.1 = .ok q.2 := by decide +kernel
theorem DJ9_abs_0f7a4 (k : Nat) {pc : Nat} {q : Instr × Nat} (h : LJ9_abs_0f7a4[k]? = some (pc, q)) : decode cJ9_abs_0f7a4 pc = .ok q := DJ9_abs_0f7a4_all (pc, q) (List.mem_of_getElem? h)
def LJ9_max_7cf53 : List (Nat × (Instr × Nat)) := [(0, (.iload_n 0, 1)), (1, (.iload_n 1, 1)), (2, (.if_icmp .lt 7, 3)), (5, (.iload_n 0, 1)), (6, (.goto 4, 3)), (9, (.iload_n 1, 1)), (10, (.ireturn, 1))]
theorem DJ9_max_7cf53_all : ∀ q ∈ LJ9_max_7cf53, decode cJ9_max_7cf53 q.1 = .ok q.2 := by decide +kernel
theorem DJ9_max_7cf53 (k : Nat) {pc : Nat} {q : Instr × Nat} (h : LJ9_max_7cf53[k]? = some (pc, q)) : decode cJ9_max_7cf53 pc = .ok q := DJ9_max_7cf53_all (pc, q) (List.mem_of_getElem? h)
def LJ9_min_7cf53 : List (Nat × (Instr × Nat)) := [(0, (.iload_n 0, 1)), (1, (.iload_n 1, 1)), (2, (.if_icmp .gt 7, 3)), (5, (.iload_n 0, 1)), (6, (.goto 4, 3)), (9, (.iload_n 1, 1)), (10, (.ireturn, 1))]
theorem DJ9_min_7cf53_all : ∀ q ∈ LJ9_min_7cf53, decode cJ9_min_7cf53 q.1 = .ok q.2 := by decide +kernel
theorem DJ9_min_7cf53 (k : Nat) {pc : Nat} {q : Instr × Nat} (h : LJ9_min_7cf53[k]? = some (pc, q)) : decode cJ9_min_7cf53 pc = .ok q := DJ9_min_7cf53_all (pc, q) (List.mem_of_getElem? h)
def LJ7_fill_53178 : List (Nat × (Instr × Nat)) := [(0, (.iconst 0, 1)), (1, (.istore_n 2, 1)), (2, (.aload_n 0, 1)), (3, (.arraylength, 1)), (4, (.istore_n 3, 1)), (5, (.iload_n 2, 1)), (6, (.iload_n 3, 1)), (7, (.if_icmp .ge 13, 3)), (10, (.aload_n 0, 1)), (11, (.iload_n 2, 1)), (12, (.iload_n 1, 1)), (13, (.iastore, 1)), (14, (.iinc 2 1, 3)), (17, (.goto (-12), 3)), (20, (.return_, 1))]
theorem DJ7_fill_53178_all : ∀ q ∈ LJ7_fill_53178, decode cJ7_fill_53178 q.1 = .ok q.2 := by decide +kernel
theorem DJ7_fill_53178 (k : Nat) {pc : Nat} {q : Instr × Nat} (h : LJ7_fill_53178[k]? = some (pc, q)) : decode cJ7_fill_53178 pc = .ok q := DJ7_fill_53178_all (pc, q) (List.mem_of_getElem? h)
def LL_law_0 : List (Nat × (Instr × Nat)) := [(0, (.new 7, 3)), (3, (.dup, 1)), (4, (.invokespecial 9, 3)), (7, (.astore_n 1, 1)), (8, (.new 10, 3)), (11, (.dup, 1)), (12, (.invokespecial 12, 3)), (15, (.astore_n 2, 1)), (16, (.iconst 0, 1)), (17, (.istore_n 3, 1)), (18, (.iload_n 3, 1)), (19, (.aload_n 0, 1)), (20, (.arraylength, 1)), (21, (.iconst 5, 1)), (22, (.isub, 1)), (23, (.if_icmp .gt 728, 3)), (26, (.aload_n 0, 1)), (27, (.iload_n 3, 1)), (28, (.iaload, 1)), (29, (.bipush 31, 2)), (31, (.iand, 1)), (32, (.tableswitch 713 0 20 #[100, 133, 156, 209, 242, 255, 268, 291, 344, 397, 450, 483, 506, 529, 552, 575, 628, 641, 654, 667, 690], 100)), (132, (.aload_n 1, 1)), (133, (.aload_n 0, 1)), (134, (.iload_n 3, 1)), (135, (.iconst 1, 1)), (136, (.iadd, 1)), (137, (.iaload, 1)), (138, (.aload_n 0, 1)), (139, (.iload_n 3, 1)), (140, (.iconst 2, 1)), (141, (.iadd, 1)), (142, (.iaload, 1)), (143, (.invokevirtual 13, 3)), (146, (.aload_n 2, 1)), (147, (.aload_n 0, 1)), (148, (.iload_n 3, 1)), (149, (.iconst 1, 1)), (150, (.iadd, 1)), (151, (.iaload, 1)), (152, (.aload_n 0, 1)), (153, (.iload_n 3, 1)), (154, (.iconst 2, 1)), (155, (.iadd, 1)), (156, (.iaload, 1)), (157, (.invokevirtual 17, 3)), (160, (.if_icmp .eq 585, 3)), (163, (.iconst 0, 1)), (164, (.ireturn, 1)), (165, (.aload_n 1, 1)), (166, (.aload_n 0, 1)), (167, (.iload_n 3, 1)), (168, (.iconst 1, 1)), (169, (.iadd, 1)), (170, (.iaload, 1)), (171, (.invokevirtual 18, 3)), (174, (.aload_n 2, 1)), (175, (.aload_n 0, 1)), (176, (.iload_n 3, 1)), (177, (.iconst 1, 1))]
theorem DL_law_0_all : ∀ q ∈ LL_law_0, decode cL_law q.1 = .ok q.2 := by decide +kernel
theorem DL_law_0 (k : Nat) {pc : Nat} {q : Instr × Nat} (h : LL_law_0[k]? = some (pc, q)) : decode cL_law pc = .ok q := DL_law_0_all (pc, q) (List.mem_of_getElem? h)
def LL_law_1 : List (Nat × (Instr × Nat)) := [(178, (.iadd, 1)), (179, (.iaload, 1)), (180, (.invokevirtual 22, 3)), (183, (.if_icmp .eq 562, 3)), (186, (.iconst 0, 1)), (187, (.ireturn, 1)), (188, (.aload_n 1, 1)), (189, (.aload_n 0, 1)), (190, (.iload_n 3, 1)), (191, (.iconst 1, 1)), (192, (.iadd, 1)), (193, (.iaload, 1)), (194, (.aload_n 0, 1)), (195, (.iload_n 3, 1)), (196, (.iconst 2, 1)), (197, (.iadd, 1)), (198, (.iaload, 1)), (199, (.aload_n 0, 1)), (200, (.iload_n 3, 1)), (201, (.iconst 3, 1)), (202, (.iadd, 1)), (203, (.iaload, 1)), (204, (.aload_n 0, 1)), (205, (.iload_n 3, 1)), (206, (.iconst 4, 1)), (207, (.iadd, 1)), (208, (.iaload, 1)), (209, (.invokevirtual 23, 3)), (212, (.aload_n 2, 1)), (213, (.aload_n 0, 1)), (214, (.iload_n 3, 1)), (215, (.iconst 1, 1)), (216, (.iadd, 1)), (217, (.iaload, 1)), (218, (.aload_n 0, 1)), (219, (.iload_n 3, 1)), (220, (.iconst 2, 1)), (221, (.iadd, 1)), (222, (.iaload, 1)), (223, (.aload_n 0, 1)), (224, (.iload_n 3, 1)), (225, (.iconst 3, 1)), (226, (.iadd, 1)), (227, (.iaload, 1)), (228, (.aload_n 0, 1)), (229, (.iload_n 3, 1)), (230, (.iconst 4, 1)), (231, (.iadd, 1)), (232, (.iaload, 1)), (233, (.invokevirtual 27, 3)), (236, (.if_icmp .eq 509, 3)), (239, (.iconst 0, 1)), (240, (.ireturn, 1)), (241, (.aload_n 1, 1)), (242, (.aload_n 0, 1)), (243, (.iload_n 3, 1)), (244, (.iconst 1, 1)), (245, (.iadd, 1)), (246, (.iaload, 1)), (247, (.aload_n 0, 1))]
theorem DL_law_1_all : ∀ q ∈ LL_law_1, decode cL_law q.1 = .ok q.2 := by decide +kernel
theorem DL_law_1 (k : Nat) {pc : Nat} {q : Instr × Nat} (h : LL_law_1[k]? = some (pc, q)) : decode cL_law pc = .ok q := DL_law_1_all (pc, q) (List.mem_of_getElem? h)
def LL_law_2 : List (Nat × (Instr × Nat)) := [(248, (.iload_n 3, 1)), (249, (.iconst 2, 1)), (250, (.iadd, 1)), (251, (.iaload, 1)), (252, (.invokevirtual 28, 3)), (255, (.aload_n 2, 1)), (256, (.aload_n 0, 1)), (257, (.iload_n 3, 1)), (258, (.iconst 1, 1)), (259, (.iadd, 1)), (260, (.iaload, 1)), (261, (.aload_n 0, 1)), (262, (.iload_n 3, 1)), (263, (.iconst 2, 1)), (264, (.iadd, 1)), (265, (.iaload, 1)), (266, (.invokevirtual 31, 3)), (269, (.if_icmp .eq 476, 3)), (272, (.iconst 0, 1)), (273, (.ireturn, 1)), (274, (.aload_n 1, 1)), (275, (.invokevirtual 32, 3)), (278, (.aload_n 2, 1)), (279, (.invokevirtual 36, 3)), (282, (.if_icmp .eq 463, 3)), (285, (.iconst 0, 1)), (286, (.ireturn, 1)), (287, (.aload_n 1, 1)), (288, (.invokevirtual 37, 3)), (291, (.aload_n 2, 1)), (292, (.invokevirtual 40, 3)), (295, (.if_icmp .eq 450, 3)), (298, (.iconst 0, 1)), (299, (.ireturn, 1)), (300, (.aload_n 1, 1)), (301, (.aload_n 0, 1)), (302, (.iload_n 3, 1)), (303, (.iconst 1, 1)), (304, (.iadd, 1)), (305, (.iaload, 1)), (306, (.invokevirtual 41, 3)), (309, (.aload_n 2, 1)), (310, (.aload_n 0, 1)), (311, (.iload_n 3, 1)), (312, (.iconst 1, 1)), (313, (.iadd, 1)), (314, (.iaload, 1)), (315, (.invokevirtual 44, 3)), (318, (.if_icmp .eq 427, 3)), (321, (.iconst 0, 1)), (322, (.ireturn, 1)), (323, (.aload_n 1, 1)), (324, (.aload_n 0, 1)), (325, (.iload_n 3, 1)), (326, (.iconst 1, 1)), (327, (.iadd, 1)), (328, (.iaload, 1)), (329, (.aload_n 0, 1)), (330, (.iload_n 3, 1)), (331, (.iconst 2, 1))]
theorem DL_law_2_all : ∀ q ∈ LL_law_2, decode cL_law q.1 = .ok q.2 := by decide +kernel
theorem DL_law_2 (k : Nat) {pc : Nat} {q : Instr × Nat} (h : LL_law_2[k]? = some (pc, q)) : decode cL_law pc = .ok q := DL_law_2_all (pc, q) (List.mem_of_getElem? h)
def LL_law_3 : List (Nat × (Instr × Nat)) := [(332, (.iadd, 1)), (333, (.iaload, 1)), (334, (.aload_n 0, 1)), (335, (.iload_n 3, 1)), (336, (.iconst 3, 1)), (337, (.iadd, 1)), (338, (.iaload, 1)), (339, (.aload_n 0, 1)), (340, (.iload_n 3, 1)), (341, (.iconst 4, 1)), (342, (.iadd, 1)), (343, (.iaload, 1)), (344, (.invokevirtual 45, 3)), (347, (.aload_n 2, 1)), (348, (.aload_n 0, 1)), (349, (.iload_n 3, 1)), (350, (.iconst 1, 1)), (351, (.iadd, 1)), (352, (.iaload, 1)), (353, (.aload_n 0, 1)), (354, (.iload_n 3, 1)), (355, (.iconst 2, 1)), (356, (.iadd, 1)), (357, (.iaload, 1)), (358, (.aload_n 0, 1)), (359, (.iload_n 3, 1)), (360, (.iconst 3, 1)), (361, (.iadd, 1)), (362, (.iaload, 1)), (363, (.aload_n 0, 1)), (364, (.iload_n 3, 1)), (365, (.iconst 4, 1)), (366, (.iadd, 1)), (367, (.iaload, 1)), (368, (.invokevirtual 48, 3)), (371, (.if_icmp .eq 374, 3)), (374, (.iconst 0, 1)), (375, (.ireturn, 1)), (376, (.aload_n 1, 1)), (377, (.aload_n 0, 1)), (378, (.iload_n 3, 1)), (379, (.iconst 1, 1)), (380, (.iadd, 1)), (381, (.iaload, 1)), (382, (.aload_n 0, 1)), (383, (.iload_n 3, 1)), (384, (.iconst 2, 1)), (385, (.iadd, 1)), (386, (.iaload, 1)), (387, (.aload_n 0, 1)), (388, (.iload_n 3, 1)), (389, (.iconst 3, 1)), (390, (.iadd, 1)), (391, (.iaload, 1)), (392, (.aload_n 0, 1)), (393, (.iload_n 3, 1)), (394, (.iconst 4, 1)), (395, (.iadd, 1)), (396, (.iaload, 1)), (397, (.invokevirtual 49, 3))]
theorem DL_law_3_all : ∀ q ∈ LL_law_3, decode cL_law q.1 = .ok q.2 := by decide +kernel
theorem DL_law_3 (k : Nat) {pc : Nat} {q : Instr × Nat} (h : LL_law_3[k]? = some (pc, q)) : decode cL_law pc = .ok q := DL_law_3_all (pc, q) (List.mem_of_getElem? h)
def LL_law_4 : List (Nat × (Instr × Nat)) := [(400, (.aload_n 2, 1)), (401, (.aload_n 0, 1)), (402, (.iload_n 3, 1)), (403, (.iconst 1, 1)), (404, (.iadd, 1)), (405, (.iaload, 1)), (406, (.aload_n 0, 1)), (407, (.iload_n 3, 1)), (408, (.iconst 2, 1)), (409, (.iadd, 1)), (410, (.iaload, 1)), (411, (.aload_n 0, 1)), (412, (.iload_n 3, 1)), (413, (.iconst 3, 1)), (414, (.iadd, 1)), (415, (.iaload, 1)), (416, (.aload_n 0, 1)), (417, (.iload_n 3, 1)), (418, (.iconst 4, 1)), (419, (.iadd, 1)), (420, (.iaload, 1)), (421, (.invokevirtual 52, 3)), (424, (.if_icmp .eq 321, 3)), (427, (.iconst 0, 1)), (428, (.ireturn, 1)), (429, (.aload_n 1, 1)), (430, (.aload_n 0, 1)), (431, (.iload_n 3, 1)), (432, (.iconst 1, 1)), (433, (.iadd, 1)), (434, (.iaload, 1)), (435, (.aload_n 0, 1)), (436, (.iload_n 3, 1)), (437, (.iconst 2, 1)), (438, (.iadd, 1)), (439, (.iaload, 1)), (440, (.aload_n 0, 1)), (441, (.iload_n 3, 1)), (442, (.iconst 3, 1)), (443, (.iadd, 1)), (444, (.iaload, 1)), (445, (.aload_n 0, 1)), (446, (.iload_n 3, 1)), (447, (.iconst 4, 1)), (448, (.iadd, 1)), (449, (.iaload, 1)), (450, (.invokevirtual 53, 3)), (453, (.aload_n 2, 1)), (454, (.aload_n 0, 1)), (455, (.iload_n 3, 1)), (456, (.iconst 1, 1)), (457, (.iadd, 1)), (458, (.iaload, 1)), (459, (.aload_n 0, 1)), (460, (.iload_n 3, 1)), (461, (.iconst 2, 1)), (462, (.iadd, 1)), (463, (.iaload, 1)), (464, (.aload_n 0, 1)), (465, (.iload_n 3, 1))]
theorem DL_law_4_all : ∀ q ∈ LL_law_4, decode cL_law q.1 = .ok q.2 := by decide +kernel
theorem DL_law_4 (k : Nat) {pc : Nat} {q : Instr × Nat} (h : LL_law_4[k]? = some (pc, q)) : decode cL_law pc = .ok q := DL_law_4_all (pc, q) (List.mem_of_getElem? h)
def LL_law_5 : List (Nat × (Instr × Nat)) := [(466, (.iconst 3, 1)), (467, (.iadd, 1)), (468, (.iaload, 1)), (469, (.aload_n 0, 1)), (470, (.iload_n 3, 1)), (471, (.iconst 4, 1)), (472, (.iadd, 1)), (473, (.iaload, 1)), (474, (.invokevirtual 56, 3)), (477, (.if_icmp .eq 268, 3)), (480, (.iconst 0, 1)), (481, (.ireturn, 1)), (482, (.aload_n 1, 1)), (483, (.aload_n 0, 1)), (484, (.iload_n 3, 1)), (485, (.iconst 1, 1)), (486, (.iadd, 1)), (487, (.iaload, 1)), (488, (.aload_n 0, 1)), (489, (.iload_n 3, 1)), (490, (.iconst 2, 1)), (491, (.iadd, 1)), (492, (.iaload, 1)), (493, (.invokevirtual 57, 3)), (496, (.aload_n 2, 1)), (497, (.aload_n 0, 1)), (498, (.iload_n 3, 1)), (499, (.iconst 1, 1)), (500, (.iadd, 1)), (501, (.iaload, 1)), (502, (.aload_n 0, 1)), (503, (.iload_n 3, 1)), (504, (.iconst 2, 1)), (505, (.iadd, 1)), (506, (.iaload, 1)), (507, (.invokevirtual 60, 3)), (510, (.if_icmp .eq 235, 3)), (513, (.iconst 0, 1)), (514, (.ireturn, 1)), (515, (.aload_n 1, 1)), (516, (.aload_n 0, 1)), (517, (.iload_n 3, 1)), (518, (.iconst 1, 1)), (519, (.iadd, 1)), (520, (.iaload, 1)), (521, (.invokevirtual 61, 3)), (524, (.aload_n 2, 1)), (525, (.aload_n 0, 1)), (526, (.iload_n 3, 1)), (527, (.iconst 1, 1)), (528, (.iadd, 1)), (529, (.iaload, 1)), (530, (.invokevirtual 64, 3)), (533, (.if_icmp .eq 212, 3)), (536, (.iconst 0, 1)), (537, (.ireturn, 1)), (538, (.aload_n 1, 1)), (539, (.aload_n 0, 1)), (540, (.iload_n 3, 1)), (541, (.iconst 1, 1))]
theorem DL_law_5_all : ∀ q ∈ LL_law_5, decode cL_law q.1 = .ok q.2 := by decide +kernel
theorem DL_law_5 (k : Nat) {pc : Nat} {q : Instr × Nat} (h : LL_law_5[k]? = some (pc, q)) : decode cL_law pc = .ok q := DL_law_5_all (pc, q) (List.mem_of_getElem? h)
def LL_law_6 : List (Nat × (Instr × Nat)) := [(542, (.iadd, 1)), (543, (.iaload, 1)), (544, (.invokevirtual 65, 3)), (547, (.aload_n 2, 1)), (548, (.aload_n 0, 1)), (549, (.iload_n 3, 1)), (550, (.iconst 1, 1)), (551, (.iadd, 1)), (552, (.iaload, 1)), (553, (.invokevirtual 68, 3)), (556, (.if_icmp .eq 189, 3)), (559, (.iconst 0, 1)), (560, (.ireturn, 1)), (561, (.aload_n 1, 1)), (562, (.aload_n 0, 1)), (563, (.iload_n 3, 1)), (564, (.iconst 1, 1)), (565, (.iadd, 1)), (566, (.iaload, 1)), (567, (.invokevirtual 69, 3)), (570, (.aload_n 2, 1)), (571, (.aload_n 0, 1)), (572, (.iload_n 3, 1)), (573, (.iconst 1, 1)), (574, (.iadd, 1)), (575, (.iaload, 1)), (576, (.invokevirtual 72, 3)), (579, (.if_icmp .eq 166, 3)), (582, (.iconst 0, 1)), (583, (.ireturn, 1)), (584, (.aload_n 1, 1)), (585, (.aload_n 0, 1)), (586, (.iload_n 3, 1)), (587, (.iconst 1, 1)), (588, (.iadd, 1)), (589, (.iaload, 1)), (590, (.invokevirtual 73, 3)), (593, (.aload_n 2, 1)), (594, (.aload_n 0, 1)), (595, (.iload_n 3, 1)), (596, (.iconst 1, 1)), (597, (.iadd, 1)), (598, (.iaload, 1)), (599, (.invokevirtual 76, 3)), (602, (.if_icmp .eq 143, 3)), (605, (.iconst 0, 1)), (606, (.ireturn, 1)), (607, (.aload_n 1, 1)), (608, (.aload_n 0, 1)), (609, (.iload_n 3, 1)), (610, (.iconst 1, 1)), (611, (.iadd, 1)), (612, (.iaload, 1)), (613, (.i2l, 1)), (614, (.bipush 32, 2)), (616, (.lshl, 1)), (617, (.aload_n 0, 1)), (618, (.iload_n 3, 1)), (619, (.iconst 2, 1)), (620, (.iadd, 1))]
theorem DL_law_6_all : ∀ q ∈ LL_law_6, decode cL_law q.1 = .ok q.2 := by decide +kernel
theorem DL_law_6 (k : Nat) {pc : Nat} {q : Instr × Nat} (h : LL_law_6[k]? = some (pc, q)) : decode cL_law pc = .ok q := DL_law_6_all (pc, q) (List.mem_of_getElem? h)
def LL_law_7 : List (Nat × (Instr × Nat)) := [(621, (.iaload, 1)), (622, (.i2l, 1)), (623, (.ldc2_w 77, 3)), (626, (.land, 1)), (627, (.lor, 1)), (628, (.invokevirtual 79, 3)), (631, (.aload_n 2, 1)), (632, (.aload_n 0, 1)), (633, (.iload_n 3, 1)), (634, (.iconst 1, 1)), (635, (.iadd, 1)), (636, (.iaload, 1)), (637, (.i2l, 1)), (638, (.bipush 32, 2)), (640, (.lshl, 1)), (641, (.aload_n 0, 1)), (642, (.iload_n 3, 1)), (643, (.iconst 2, 1)), (644, (.iadd, 1)), (645, (.iaload, 1)), (646, (.i2l, 1)), (647, (.ldc2_w 77, 3)), (650, (.land, 1)), (651, (.lor, 1)), (652, (.invokevirtual 83, 3)), (655, (.if_icmp .eq 90, 3)), (658, (.iconst 0, 1)), (659, (.ireturn, 1)), (660, (.aload_n 1, 1)), (661, (.invokevirtual 84, 3)), (664, (.aload_n 2, 1)), (665, (.invokevirtual 87, 3)), (668, (.if_icmp .eq 77, 3)), (671, (.iconst 0, 1)), (672, (.ireturn, 1)), (673, (.aload_n 1, 1)), (674, (.invokevirtual 88, 3)), (677, (.aload_n 2, 1)), (678, (.invokevirtual 91, 3)), (681, (.if_icmp .eq 64, 3)), (684, (.iconst 0, 1)), (685, (.ireturn, 1)), (686, (.aload_n 1, 1)), (687, (.invokevirtual 92, 3)), (690, (.aload_n 2, 1)), (691, (.invokevirtual 95, 3)), (694, (.if_icmp .eq 51, 3)), (697, (.iconst 0, 1)), (698, (.ireturn, 1)), (699, (.aload_n 1, 1)), (700, (.aload_n 0, 1)), (701, (.iload_n 3, 1)), (702, (.iconst 1, 1)), (703, (.iadd, 1)), (704, (.iaload, 1)), (705, (.invokevirtual 96, 3)), (708, (.aload_n 2, 1)), (709, (.aload_n 0, 1)), (710, (.iload_n 3, 1)), (711, (.iconst 1, 1))]
theorem DL_law_7_all : ∀ q ∈ LL_law_7, decode cL_law q.1 = .ok q.2 := by decide +kernel
theorem DL_law_7 (k : Nat) {pc : Nat} {q : Instr × Nat} (h : LL_law_7[k]? = some (pc, q)) : decode cL_law pc = .ok q := DL_law_7_all (pc, q) (List.mem_of_getElem? h)
def LL_law_8 : List (Nat × (Instr × Nat)) := [(712, (.iadd, 1)), (713, (.iaload, 1)), (714, (.invokevirtual 99, 3)), (717, (.if_icmp .eq 28, 3)), (720, (.iconst 0, 1)), (721, (.ireturn, 1)), (722, (.aload_n 1, 1)), (723, (.aload_n 0, 1)), (724, (.iload_n 3, 1)), (725, (.iconst 1, 1)), (726, (.iadd, 1)), (727, (.iaload, 1)), (728, (.invokevirtual 100, 3)), (731, (.aload_n 2, 1)), (732, (.aload_n 0, 1)), (733, (.iload_n 3, 1)), (734, (.iconst 1, 1)), (735, (.iadd, 1)), (736, (.iaload, 1)), (737, (.invokevirtual 103, 3)), (740, (.if_icmp .eq 5, 3)), (743, (.iconst 0, 1)), (744, (.ireturn, 1)), (745, (.iinc 3 5, 3)), (748, (.goto (-730), 3)), (751, (.iconst 1, 1)), (752, (.ireturn, 1))]
theorem DL_law_8_all : ∀ q ∈ LL_law_8, decode cL_law q.1 = .ok q.2 := by decide +kernel
theorem DL_law_8 (k : Nat) {pc : Nat} {q : Instr × Nat} (h : LL_law_8[k]? = some (pc, q)) : decode cL_law pc = .ok q := DL_law_8_all (pc, q) (List.mem_of_getElem? h)
end
section
abbrev xE : Type := Launch × va_G × ClassId × ClassId × ClassId × ClassId
abbrev xI (E : xE) : ClassId := E.2.2.1
abbrev xZ (E : xE) : ClassId := E.2.2.2.1
abbrev xC (E : xE) : ClassId := E.2.2.2.2.1
abbrev xO (E : xE) : ClassId := E.2.2.2.2.2
abbrev xT (E : xE) : List (ClassId × FieldType) := [(xI E, .int), (xZ E, .boolean), (xC E, .char), (xO E, .object RX6)]
/-- what is known of the tables beside the words: the classes, the array classes, two links between nest mates -/
def xK (E : xE) (U : State) : Prop := va_K E.2.1 vwCl (xT E) U ∧ va_Nw (.methodLinkNest RX8 52 yX6_init "BoardEnds") U ∧ va_Nw (.methodLinkNest RX4 15 yX6_init "BoardEnds") U ∧ va_AO RX6 U
theorem xK.calling {E : xE} {U : State} {g : JFrame} {mk : MethodId} {a : Array Value} (h : xK E U) : xK E (U.calling g mk a) :=
  ⟨va_K.moved (u := U) (U := U.calling g mk a) (Vm.Alike.refl U.vm) h.1, va_Nw.same (u := U) (U := U.calling g mk a) rfl rfl h.2.1, va_Nw.same (u := U) (U := U.calling g mk a) rfl rfl h.2.2.1, va_AO.moved (u := U) (U := U.calling g mk a) (Vm.Alike.refl U.vm) h.2.2.2⟩
theorem xK.warm {E : xE} {s U : State} (hW : s.WarmedH U.vm) (h : xK E s) : xK E U :=
  ⟨va_K.moved hW.alike h.1, va_Nw.warmM hW h.2.1, va_Nw.warmM hW h.2.2.1, va_AO.moved hW.alike h.2.2.2⟩
abbrev xR (d mc ms : Nat) : Room := { frames := d, cells := mc, slots := ms, locals := 30 * d }
def xPc (E : xE) (As : List Value) (wc : va_W) (sz : Nat) : Array Value → State → Prop := va_Pc As (fun U => U.heap.size = sz ∧ va_P E.2.1 vwCl wc U.heap ∧ xK E U ∧ va_D (fun _ => True) wc)
abbrev xQI {S : Type} (E : xE) (r : S → Int32) (w1 : S → va_W) (wc : va_W) (sz : Nat) : Array Value → State → Outcome → State → Prop := va_Qi (fun (r' : Int32) (u : S) => r' = r u) (fun u t => va_P E.2.1 vwCl (w1 u) t.heap ∧ va_D (va_A wc sz) (w1 u)) (va_A wc sz)
abbrev xQV {S : Type} (E : xE) (w1 : S → va_W) (wc : va_W) (sz : Nat) : Array Value → State → Outcome → State → Prop := va_Qv (fun (_ : S) => True) (fun u t => va_P E.2.1 vwCl (w1 u) t.heap ∧ va_D (va_A wc sz) (w1 u)) (va_A wc sz)
/-- a method's contract: an int comes back -/
def xMI {S : Type} (E : xE) (y : MethodName) (cc : ByteArray) (nL : Nat) (rt : FieldType) (d mc ms : Nat) (As : List Value) (wc : va_W) (r : S → Int32) (w1 : S → va_W) : Prop :=
  ∀ sz : Nat, Met E.1 y (Cond.code y cc nL (some rt) :: gw) (xR d mc ms) (xPc E As wc sz) (xQI E r w1 wc sz) mc ms (va_A wc sz)
/-- a method's contract: nothing comes back -/
def xMV {S : Type} (E : xE) (y : MethodName) (cc : ByteArray) (nL : Nat) (d mc ms : Nat) (As : List Value) (wc : va_W) (w1 : S → va_W) : Prop :=
  ∀ sz : Nat, Met E.1 y (Cond.code y cc nL none :: gw) (xR d mc ms) (xPc E As wc sz) (xQV E w1 wc sz) mc ms (va_A wc sz)
abbrev xLo : Type := List (Nat × Value)
abbrev xVT : Type := Nat → Nat → Nat → xLo → List Value → va_W → Prop
def xV (E : xE) (p : Program) (e : Env) (R : Room) (s : State) (m : MethodId) (args : Array Value) (below : List Frame) (meth : Method) (c : Code) (nL : Nat) (A : Nat → Prop) (Q : State → Prop) : xVT := fun k n pc lo st ws =>
  ∀ (H : Heap) (locs : List Loc) (ls : Array Slot), va_P E.2.1 vwCl ws H → va_D A ws → va_S A s.heap H locs → lv_has ls nL lo → W p E.1 e R s m args below meth c H locs k n Q (F0 m pc ls st)
def Rl (E : xE) (own : String) (cc : ByteArray) (R : Room) (nL : Nat) (ini : Bool) (V : xVT) : Prop :=
  ∃ (p : Program) (e : Env) (s : State) (m : MethodId) (args : Array Value) (below : List Frame) (meth : Method) (c : Code) (A : Nat → Prop) (Q : State → Prop),
    (p.tables.exec = Jvm.exec ∧ c.code = cc ∧ c.maxLocals = nL ∧ s.vm.findClass own = some m.cls ∧ ∀ w ∈ gw, w.before args s = true) ∧ xK E s ∧ (∀ q, s.heap.size ≤ q → A q) ∧ (ini = true → meth.name = "<init>") ∧ V = xV E p e R s m args below meth c nL A Q
def RtI (cc : ByteArray) (V : xVT) (rt : FieldType) (mc ms : Nat) (Z : Int32 → va_W → Prop) : Prop := ∀ (pc : Nat) (lo : xLo) (v : Int32) (ws : va_W), decode cc pc = .ok (.ireturn, 1) → narrow rt (.int v) = .int v → Z v ws → V mc ms pc lo [.int v] ws
def RtV (cc : ByteArray) (V : xVT) (mc ms : Nat) (Z : va_W → Prop) : Prop := ∀ (pc : Nat) (lo : xLo) (ws : va_W), decode cc pc = .ok (.return_, 1) → Z ws → V mc ms pc lo [] ws
theorem xMet_ofW {y : MethodName} {ws ws' : List Cond} {rm : Room} {Pc : Array Value → State → Prop} {Qc : Array Value → State → Outcome → State → Prop} {mc ms : Nat} {free : Addr → Prop} {cc : ByteArray} {maxL : Nat} {ret : Option FieldType} {l : Launch}
    (hy : plainFor y = true) (hw : ws = Cond.code y cc maxL ret :: ws')
    (body : ∀ p e s m args below meth c s₁, BodyLoose p l y (headSpec ws rm) cc maxL ret e s m args below meth c s₁ → c.maxLocals = maxL → Pc args s →
      W p l e (headSpec ws rm).room s m args below meth c s.heap [] 0 0 (MQ below Qc args s mc ms free) (entryFrame m args maxL)) : Met l y ws rm Pc Qc mc ms free := by
  refine MetFree.of_bodySF (code := cc) (maxLocals := maxL) (ret := ret) hy ?_ ?_
  · intro args s m h hn
    obtain ⟨meth, c, h1, h2, h3, h4, h5, h6, -, -⟩ := Cond.code_spec hn (atoms_spec (ws := ws) h _ (by rw [hw]; exact List.mem_cons_self))
    exact ⟨meth, c, h1, h2, h3, h4, h5, h6⟩
  · intro p e s m args below meth c s₁ B hml hP _
    have hh0 : s₁.heap = s.heap := by rw [B.state]; rfl
    obtain ⟨t, a1, o, b1, b2, b3⟩ := body p e s m args below meth c s₁ B hml hP s₁ hh0 (Stand.of_body B)
    exact ⟨t, o, a1, b1, b2, ⟨b3.1, b3.2⟩⟩
theorem xMI.of {S : Type} {E : xE} {y : MethodName} {cc : ByteArray} {nL : Nat} {rt : FieldType} {d mc ms : Nat} {As : List Value} {wc : va_W} {r : S → Int32} {w1 : S → va_W} {own : String} {lo0 : xLo} (hy : plainFor y = true) (hown : y.cls = own) (hla : lv_args 0 As = lo0) (hn : (lg_sl As).length ≤ nL)
    (walk : ∀ V : xVT, Rl E own cc (xR d mc ms) nL false V → RtI cc V rt mc ms (fun v ws => ∃ u : S, v = r u ∧ ws = w1 u) → V 0 0 0 lo0 [] wc) : xMI E y cc nL rt d mc ms As wc r w1 := by
  intro sz
  refine xMet_ofW (cc := cc) (maxL := nL) (ret := some rt) hy rfl ?_
  intro p e s m args below meth c s₁ B hml hv
  obtain ⟨rfl, hsz, hP, hK, hD0⟩ := hv
  have hts := atoms_spec (ws := Cond.code y cc nL (some rt) :: gw) B.pre
  have hown' : s.vm.findClass own = some m.cls := by rw [← hown]; exact findClass_of_methodNamed B.named
  subst hsz
  have hD := hD0.self (sz := s.heap.size)
  have K := walk (xV E p e (xR d mc ms) s m As.toArray below meth c nL (va_A wc s.heap.size) (MQ below (xQI E r w1 wc s.heap.size) As.toArray s mc ms (va_A wc s.heap.size))) ⟨p, e, s, m, _, below, meth, c, va_A wc s.heap.size, _, ⟨B.exec, B.bytes, hml, hown', fun w h => hts w (List.mem_cons_of_mem _ h)⟩, hK, (fun q h => Or.inr h), (fun h => by cases h), rfl⟩
    (fun pc lo v ws hdg hnar hZ H locs ls hP hD hS hl => by
      obtain ⟨u, hu1, hu2⟩ := hZ
      subst hu1; subst hu2
      exact W.zret B.exec B.bytes B.returns hnar (fun t ht hW => ⟨⟨r u, u, rfl, rfl, by rw [ht]; exact hP, hD⟩, hS.F ht⟩) hS.2.2 hdg B.notSynchronized)
  have hl := lv_entry As (n := nL) hn
  rw [hla] at hl
  rw [lg_entry_eq]
  exact K _ _ _ hP hD va_S.rf hl
theorem xMV.of {S : Type} {E : xE} {y : MethodName} {cc : ByteArray} {nL : Nat} {d mc ms : Nat} {As : List Value} {wc : va_W} {w1 : S → va_W} {own : String} {lo0 : xLo} {ini : Bool} (hini : ini = true → y.name = "<init>") (hy : plainFor y = true) (hown : y.cls = own) (hla : lv_args 0 As = lo0) (hn : (lg_sl As).length ≤ nL)
    (walk : ∀ V : xVT, Rl E own cc (xR d mc ms) nL ini V → RtV cc V mc ms (fun ws => ∃ u : S, ws = w1 u) → V 0 0 0 lo0 [] wc) : xMV E y cc nL d mc ms As wc w1 := by
  intro sz
  refine xMet_ofW (cc := cc) (maxL := nL) (ret := none) hy rfl ?_
  intro p e s m args below meth c s₁ B hml hv
  obtain ⟨rfl, hsz, hP, hK, hD0⟩ := hv
  have hts := atoms_spec (ws := Cond.code y cc nL none :: gw) B.pre
  have hown' : s.vm.findClass own = some m.cls := by rw [← hown]; exact findClass_of_methodNamed B.named
  subst hsz
  have hD := hD0.self (sz := s.heap.size)
  have K := walk (xV E p e (xR d mc ms) s m As.toArray below meth c nL (va_A wc s.heap.size) (MQ below (xQV E w1 wc s.heap.size) As.toArray s mc ms (va_A wc s.heap.size))) ⟨p, e, s, m, _, below, meth, c, va_A wc s.heap.size, _, ⟨B.exec, B.bytes, hml, hown', fun w h => hts w (List.mem_cons_of_mem _ h)⟩, hK, (fun q h => Or.inr h), (fun h => (name_of_methodNamed B.named B.method).1.trans (hini h)), rfl⟩
    (fun pc lo ws hdg hZ H locs ls hP hD hS hl => by
      obtain ⟨u, hu2⟩ := hZ
      subst hu2
      exact W.vret B.exec B.bytes B.returns (fun t ht hW => ⟨⟨u, rfl, trivial, by rw [ht]; exact hP, hD⟩, hS.F ht⟩) hS.2.2 hdg B.notSynchronized)
  have hl := lv_entry As (n := nL) hn
  rw [hla] at hl
  rw [lg_entry_eq]
  exact K _ _ _ hP hD va_S.rf hl
theorem xP_sub {D : va_G} {cl : List vw_C} {ws ws' : va_W} {H : Heap} (h : va_P D cl ws H) (is : List Nat) (hs : is.map (fun i => ws[i]?) = ws'.map some) : va_P D cl ws' H := by
  intro k q hk
  have h1 : (is.map (fun i => ws[i]?))[k]? = some (some q) := by rw [hs, List.getElem?_map, hk]; rfl
  rw [List.getElem?_map] at h1
  cases hi : is[k]? with
  | none => rw [hi] at h1; cases h1
  | some i => rw [hi] at h1; exact h i q (Option.some.inj h1)
-- what an extracted function says
def xgd {α : Type} (i : Int32) (n : Nat) (a : Option α) : Option α := if i < 0 ∨ n ≤ i.toNatClampNeg then none else a
theorem xgd_some {α : Type} {i : Int32} {n : Nat} {a : Option α} {o : α} (h : xgd i n a = some o) : vp_in i n ∧ a = some o := by
  unfold xgd at h
  split at h
  · cases h
  · exact ⟨‹_›, h⟩
theorem xgd_in {α : Type} {i : Int32} {n : Nat} {a : Option α} (h : vp_in i n) : xgd i n a = a := if_neg h
def xgz {α : Type} (y : Int32) (a : Option α) : Option α := if y = 0 then none else a
theorem xgz_some {α : Type} {y : Int32} {a : Option α} {o : α} (h : xgz y a = some o) : ¬ y = 0 ∧ a = some o := by
  unfold xgz at h
  split at h
  · cases h
  · exact ⟨‹_›, h⟩
theorem xgz_in {α : Type} {y : Int32} {a : Option α} (h : ¬ y = 0) : xgz y a = a := if_neg h
def xgb {α : Type} (v : Int32) (a : Option α) : Option α := if v &&& 1 = v then a else none
theorem xgb_some {α : Type} {v : Int32} {a : Option α} {o : α} (h : xgb v a = some o) : narrow .boolean (.int v) = .int v ∧ a = some o := by
  unfold xgb at h
  split at h
  · exact ⟨congrArg Value.int ‹_›, h⟩
  · cases h
theorem xgb_in {α : Type} {v : Int32} {a : Option α} (h : v &&& 1 = v) : xgb v a = a := if_pos h
theorem xbd {α β : Type} {x : Option α} {f : α → Option β} {o : β} (h : x.bind f = some o) : ∃ u, x = some u ∧ f u = some o := by
  cases x with
  | none => cases h
  | some u => exact ⟨u, rfl, h⟩
theorem xif {α : Type} {c : Prop} [Decidable c] {a b : Option α} {o : α} {P : Prop} (h : (if c then a else b) = some o) (f : c → a = some o → P) (g : ¬ c → b = some o → P) : P := by
  by_cases q : c
  · exact f q (by rw [if_pos q] at h; exact h)
  · exact g q (by rw [if_neg q] at h; exact h)
def xpick (ws : va_W) (l : List Nat) : va_W := l.map (fun i => ws.getD i (0, .inr (0, [])))
theorem xpick_e {ws : va_W} {l : List Nat} (h : l.all (fun i => decide (i < ws.length)) = true) : l.map (fun i => ws[i]?) = (xpick ws l).map some := by
  unfold xpick
  rw [List.map_map]
  apply List.map_congr_left
  intro i hi
  have h1 := List.all_eq_true.mp h i hi
  have h2 : i < ws.length := by simpa using h1
  simp [List.getElem?_eq_getElem h2]
section RL
variable {E : xE} {own : String} {cc : ByteArray} {R : Room} {nL : Nat} {ini : Bool} {V : xVT} {k n pc : Nat} {lo : xLo} {st : List Value} {ws : va_W}
theorem Rl.rel (r : Rl E own cc R nL ini V) {lo' : xLo} (is : List Nat) (h : lv_pick lo is = lo') (kk : V k n pc lo' st ws) : V k n pc lo st ws := by
  obtain ⟨p, e, s, m, args, below, meth, c, A, Q, ⟨hx, hb, hml, hown, hts⟩, hK, hA, hi, rfl⟩ := r
  exact fun H locs ls hP hD hS hl => kk H locs ls hP hD hS (lv_sub hl is h)
theorem Rl.iconst (r : Rl E own cc R nL ini V) {v : Int32} {z : Int} (hd : decode cc pc = .ok (.iconst z, 1)) (hv : Int32.ofInt z = v) (kk : V k n (pc + 1) lo (.int v :: st) ws) : V k n pc lo st ws := by
  obtain ⟨p, e, s, m, args, below, meth, c, A, Q, ⟨hx, hb, hml, hown, hts⟩, hK, hA, hi, rfl⟩ := r
  exact fun H locs ls hP hD hS hl => lv_iconst hx hb hd hv (kk H locs ls hP hD hS hl)
theorem Rl.bipush (r : Rl E own cc R nL ini V) {v : Int32} {z : Int} (hd : decode cc pc = .ok (.bipush z, 2)) (hv : (Int8.ofInt z).toInt32 = v) (kk : V k n (pc + 2) lo (.int v :: st) ws) : V k n pc lo st ws := by
  obtain ⟨p, e, s, m, args, below, meth, c, A, Q, ⟨hx, hb, hml, hown, hts⟩, hK, hA, hi, rfl⟩ := r
  exact fun H locs ls hP hD hS hl => lv_bipush hx hb hd hv (kk H locs ls hP hD hS hl)
theorem Rl.sipush (r : Rl E own cc R nL ini V) {v : Int32} {z : Int} (hd : decode cc pc = .ok (.sipush z, 3)) (hv : (Int16.ofInt z).toInt32 = v) (kk : V k n (pc + 3) lo (.int v :: st) ws) : V k n pc lo st ws := by
  obtain ⟨p, e, s, m, args, below, meth, c, A, Q, ⟨hx, hb, hml, hown, hts⟩, hK, hA, hi, rfl⟩ := r
  exact fun H locs ls hP hD hS hl => lv_sipush hx hb hd hv (kk H locs ls hP hD hS hl)
theorem Rl.lconst (r : Rl E own cc R nL ini V) {v : Int64} {z : Fin 2} (hd : decode cc pc = .ok (.lconst z, 1)) (hv : Int64.ofNat (z : Nat) = v) (kk : V k n (pc + 1) lo (.long v :: st) ws) : V k n pc lo st ws := by
  obtain ⟨p, e, s, m, args, below, meth, c, A, Q, ⟨hx, hb, hml, hown, hts⟩, hK, hA, hi, rfl⟩ := r
  exact fun H locs ls hP hD hS hl => lv_lconst hx hb hd hv (kk H locs ls hP hD hS hl)
theorem Rl.ldc (r : Rl E own cc R nL ini V) {v : Int32} {idx : Nat} (hd : decode cc pc = .ok (.ldc idx, 2)) (hw : Cond.constant own idx v ∈ gw) (kk : V k n (pc + 2) lo (.int v :: st) ws) : V k n pc lo st ws := by
  obtain ⟨p, e, s, m, args, below, meth, c, A, Q, ⟨hx, hb, hml, hown, hts⟩, hK, hA, hi, rfl⟩ := r
  exact fun H locs ls hP hD hS hl => lv_ldc hx hb hown (hts _ hw) hd (kk H locs ls hP hD hS hl)
theorem Rl.ldc_w (r : Rl E own cc R nL ini V) {v : Int32} {idx : Nat} (hd : decode cc pc = .ok (.ldc_w idx, 3)) (hw : Cond.constant own idx v ∈ gw) (kk : V k n (pc + 3) lo (.int v :: st) ws) : V k n pc lo st ws := by
  obtain ⟨p, e, s, m, args, below, meth, c, A, Q, ⟨hx, hb, hml, hown, hts⟩, hK, hA, hi, rfl⟩ := r
  exact fun H locs ls hP hD hS hl => lv_ldcw hx hb hown (hts _ hw) hd (kk H locs ls hP hD hS hl)
theorem Rl.ldc2 (r : Rl E own cc R nL ini V) {v : Int64} {idx : Nat} (hd : decode cc pc = .ok (.ldc2_w idx, 3)) (hw : Cond.constantLong own idx v ∈ gw) (kk : V k n (pc + 3) lo (.long v :: st) ws) : V k n pc lo st ws := by
  obtain ⟨p, e, s, m, args, below, meth, c, A, Q, ⟨hx, hb, hml, hown, hts⟩, hK, hA, hi, rfl⟩ := r
  exact fun H locs ls hP hD hS hl => lv_ldc2 hx hb hown (hts _ hw) hd (kk H locs ls hP hD hS hl)
theorem Rl.iload_n (r : Rl E own cc R nL ini V) {x : Int32} {i : Fin 4} (j : Nat) (hd : decode cc pc = .ok (.iload_n i, 1)) (hj : lo[j]? = some (i.val, .int x)) (kk : V k n (pc + 1) lo (.int x :: st) ws) : V k n pc lo st ws := by
  obtain ⟨p, e, s, m, args, below, meth, c, A, Q, ⟨hx, hb, hml, hown, hts⟩, hK, hA, hi, rfl⟩ := r
  exact fun H locs ls hP hD hS hl => lv_iload_n hx hb hd rfl (lv_at hl j hj) (kk H locs ls hP hD hS hl)
theorem Rl.iload (r : Rl E own cc R nL ini V) {x : Int32} {i : Nat} (j : Nat) (hd : decode cc pc = .ok (.iload i, 2)) (hj : lo[j]? = some (i, .int x)) (kk : V k n (pc + 2) lo (.int x :: st) ws) : V k n pc lo st ws := by
  obtain ⟨p, e, s, m, args, below, meth, c, A, Q, ⟨hx, hb, hml, hown, hts⟩, hK, hA, hi, rfl⟩ := r
  exact fun H locs ls hP hD hS hl => lv_iload hx hb hd (lv_at hl j hj) (kk H locs ls hP hD hS hl)
theorem Rl.lload_n (r : Rl E own cc R nL ini V) {x : Int64} {i : Fin 4} (j : Nat) (hd : decode cc pc = .ok (.lload_n i, 1)) (hj : lo[j]? = some (i.val, .long x)) (kk : V k n (pc + 1) lo (.long x :: st) ws) : V k n pc lo st ws := by
  obtain ⟨p, e, s, m, args, below, meth, c, A, Q, ⟨hx, hb, hml, hown, hts⟩, hK, hA, hi, rfl⟩ := r
  exact fun H locs ls hP hD hS hl => lv_lload_n hx hb hd rfl (lv_at hl j hj) (kk H locs ls hP hD hS hl)
theorem Rl.lload (r : Rl E own cc R nL ini V) {x : Int64} {i : Nat} (j : Nat) (hd : decode cc pc = .ok (.lload i, 2)) (hj : lo[j]? = some (i, .long x)) (kk : V k n (pc + 2) lo (.long x :: st) ws) : V k n pc lo st ws := by
  obtain ⟨p, e, s, m, args, below, meth, c, A, Q, ⟨hx, hb, hml, hown, hts⟩, hK, hA, hi, rfl⟩ := r
  exact fun H locs ls hP hD hS hl => lv_lload hx hb hd (lv_at hl j hj) (kk H locs ls hP hD hS hl)
theorem Rl.aload_n (r : Rl E own cc R nL ini V) {x : Nat} {i : Fin 4} (j : Nat) (hd : decode cc pc = .ok (.aload_n i, 1)) (hj : lo[j]? = some (i.val, .ref x)) (kk : V k n (pc + 1) lo (.ref x :: st) ws) : V k n pc lo st ws := by
  obtain ⟨p, e, s, m, args, below, meth, c, A, Q, ⟨hx, hb, hml, hown, hts⟩, hK, hA, hi, rfl⟩ := r
  exact fun H locs ls hP hD hS hl => lv_aload_n hx hb hd rfl (lv_at hl j hj) (kk H locs ls hP hD hS hl)
theorem Rl.istore_n (r : Rl E own cc R nL ini V) {x : Int32} {i : Fin 4} {lo' : xLo} (hd : decode cc pc = .ok (.istore_n i, 1)) (hn : i.val < nL) (hlo : (i.val, Value.int x) :: lo.filter (fun q => !(q.1 == i.val) && !(q.1 + 1 == i.val && q.2.category == 2)) = lo') (kk : V k n (pc + 1) lo' st ws) : V k n pc lo (.int x :: st) ws := by
  obtain ⟨p, e, s, m, args, below, meth, c, A, Q, ⟨hx, hb, hml, hown, hts⟩, hK, hA, hi, rfl⟩ := r
  exact fun H locs ls hP hD hS hl => lv_istore_n hx hb hd rfl hl hn hlo (fun ls hl => kk H locs ls hP hD hS hl)
theorem Rl.istore (r : Rl E own cc R nL ini V) {x : Int32} {i : Nat} {lo' : xLo} (hd : decode cc pc = .ok (.istore i, 2)) (hn : i < nL) (hlo : (i, Value.int x) :: lo.filter (fun q => !(q.1 == i) && !(q.1 + 1 == i && q.2.category == 2)) = lo') (kk : V k n (pc + 2) lo' st ws) : V k n pc lo (.int x :: st) ws := by
  obtain ⟨p, e, s, m, args, below, meth, c, A, Q, ⟨hx, hb, hml, hown, hts⟩, hK, hA, hi, rfl⟩ := r
  exact fun H locs ls hP hD hS hl => lv_istore hx hb hd hl hn hlo (fun ls hl => kk H locs ls hP hD hS hl)
theorem Rl.astore_n (r : Rl E own cc R nL ini V) {x : Nat} {i : Fin 4} {lo' : xLo} (hd : decode cc pc = .ok (.astore_n i, 1)) (hn : i.val < nL) (hlo : (i.val, Value.ref x) :: lo.filter (fun q => !(q.1 == i.val) && !(q.1 + 1 == i.val && q.2.category == 2)) = lo') (kk : V k n (pc + 1) lo' st ws) : V k n pc lo (.ref x :: st) ws := by
  obtain ⟨p, e, s, m, args, below, meth, c, A, Q, ⟨hx, hb, hml, hown, hts⟩, hK, hA, hi, rfl⟩ := r
  exact fun H locs ls hP hD hS hl => lv_astore_n hx hb hd rfl hl hn hlo (fun ls hl => kk H locs ls hP hD hS hl)
theorem Rl.lstore_n (r : Rl E own cc R nL ini V) {x : Int64} {i : Fin 4} {lo' : xLo} (hd : decode cc pc = .ok (.lstore_n i, 1)) (hn : i.val + 1 < nL) (hlo : (i.val, Value.long x) :: lo.filter (fun q => !(q.1 == i.val) && (!(q.1 == i.val + 1) && !(q.1 + 1 == i.val && q.2.category == 2))) = lo') (kk : V k n (pc + 1) lo' st ws) : V k n pc lo (.long x :: st) ws := by
  obtain ⟨p, e, s, m, args, below, meth, c, A, Q, ⟨hx, hb, hml, hown, hts⟩, hK, hA, hi, rfl⟩ := r
  exact fun H locs ls hP hD hS hl => lv_lstore_n hx hb hd rfl hl hn hlo (fun ls hl => kk H locs ls hP hD hS hl)
theorem Rl.lstore (r : Rl E own cc R nL ini V) {x : Int64} {i : Nat} {lo' : xLo} (hd : decode cc pc = .ok (.lstore i, 2)) (hn : i + 1 < nL) (hlo : (i, Value.long x) :: lo.filter (fun q => !(q.1 == i) && (!(q.1 == i + 1) && !(q.1 + 1 == i && q.2.category == 2))) = lo') (kk : V k n (pc + 2) lo' st ws) : V k n pc lo (.long x :: st) ws := by
  obtain ⟨p, e, s, m, args, below, meth, c, A, Q, ⟨hx, hb, hml, hown, hts⟩, hK, hA, hi, rfl⟩ := r
  exact fun H locs ls hP hD hS hl => lv_lstore hx hb hd hl hn hlo (fun ls hl => kk H locs ls hP hD hS hl)
theorem Rl.iinc (r : Rl E own cc R nL ini V) {x v : Int32} {i : Nat} {z : Int} {lo' : xLo} (j : Nat) (hd : decode cc pc = .ok (.iinc i z, 3)) (hj : lo[j]? = some (i, .int x)) (hv : x + Int32.ofInt z = v) (hn : i < nL) (hlo : (i, Value.int v) :: lo.filter (fun q => !(q.1 == i) && !(q.1 + 1 == i && q.2.category == 2)) = lo') (kk : V k n (pc + 3) lo' st ws) : V k n pc lo st ws := by
  obtain ⟨p, e, s, m, args, below, meth, c, A, Q, ⟨hx, hb, hml, hown, hts⟩, hK, hA, hi, rfl⟩ := r
  exact fun H locs ls hP hD hS hl => lv_iinc hx hb hd hl hj hv hn hlo (fun ls hl => kk H locs ls hP hD hS hl)
theorem Rl.iadd (r : Rl E own cc R nL ini V) {x y : Int32} (hd : decode cc pc = .ok (.iadd, 1)) (kk : V k n (pc + 1) lo (.int (x + y) :: st) ws) : V k n pc lo (.int y :: .int x :: st) ws := by
  obtain ⟨p, e, s, m, args, below, meth, c, A, Q, ⟨hx, hb, hml, hown, hts⟩, hK, hA, hi, rfl⟩ := r
  exact fun H locs ls hP hD hS hl => lv_iadd hx hb hd (kk H locs ls hP hD hS hl)
theorem Rl.isub (r : Rl E own cc R nL ini V) {x y : Int32} (hd : decode cc pc = .ok (.isub, 1)) (kk : V k n (pc + 1) lo (.int (x - y) :: st) ws) : V k n pc lo (.int y :: .int x :: st) ws := by
  obtain ⟨p, e, s, m, args, below, meth, c, A, Q, ⟨hx, hb, hml, hown, hts⟩, hK, hA, hi, rfl⟩ := r
  exact fun H locs ls hP hD hS hl => lv_isub hx hb hd (kk H locs ls hP hD hS hl)
theorem Rl.imul (r : Rl E own cc R nL ini V) {x y : Int32} (hd : decode cc pc = .ok (.imul, 1)) (kk : V k n (pc + 1) lo (.int (x * y) :: st) ws) : V k n pc lo (.int y :: .int x :: st) ws := by
  obtain ⟨p, e, s, m, args, below, meth, c, A, Q, ⟨hx, hb, hml, hown, hts⟩, hK, hA, hi, rfl⟩ := r
  exact fun H locs ls hP hD hS hl => lv_imul hx hb hd (kk H locs ls hP hD hS hl)
theorem Rl.iand (r : Rl E own cc R nL ini V) {x y : Int32} (hd : decode cc pc = .ok (.iand, 1)) (kk : V k n (pc + 1) lo (.int (x &&& y) :: st) ws) : V k n pc lo (.int y :: .int x :: st) ws := by
  obtain ⟨p, e, s, m, args, below, meth, c, A, Q, ⟨hx, hb, hml, hown, hts⟩, hK, hA, hi, rfl⟩ := r
  exact fun H locs ls hP hD hS hl => lv_iand hx hb hd (kk H locs ls hP hD hS hl)
theorem Rl.ior (r : Rl E own cc R nL ini V) {x y : Int32} (hd : decode cc pc = .ok (.ior, 1)) (kk : V k n (pc + 1) lo (.int (x ||| y) :: st) ws) : V k n pc lo (.int y :: .int x :: st) ws := by
  obtain ⟨p, e, s, m, args, below, meth, c, A, Q, ⟨hx, hb, hml, hown, hts⟩, hK, hA, hi, rfl⟩ := r
  exact fun H locs ls hP hD hS hl => lv_ior hx hb hd (kk H locs ls hP hD hS hl)
theorem Rl.ixor (r : Rl E own cc R nL ini V) {x y : Int32} (hd : decode cc pc = .ok (.ixor, 1)) (kk : V k n (pc + 1) lo (.int (x ^^^ y) :: st) ws) : V k n pc lo (.int y :: .int x :: st) ws := by
  obtain ⟨p, e, s, m, args, below, meth, c, A, Q, ⟨hx, hb, hml, hown, hts⟩, hK, hA, hi, rfl⟩ := r
  exact fun H locs ls hP hD hS hl => lv_ixor hx hb hd (kk H locs ls hP hD hS hl)
theorem Rl.ishl (r : Rl E own cc R nL ini V) {x y : Int32} (hd : decode cc pc = .ok (.ishl, 1)) (kk : V k n (pc + 1) lo (.int (x <<< (y &&& 31)) :: st) ws) : V k n pc lo (.int y :: .int x :: st) ws := by
  obtain ⟨p, e, s, m, args, below, meth, c, A, Q, ⟨hx, hb, hml, hown, hts⟩, hK, hA, hi, rfl⟩ := r
  exact fun H locs ls hP hD hS hl => lv_ishl hx hb hd (kk H locs ls hP hD hS hl)
theorem Rl.ishr (r : Rl E own cc R nL ini V) {x y : Int32} (hd : decode cc pc = .ok (.ishr, 1)) (kk : V k n (pc + 1) lo (.int (x >>> (y &&& 31)) :: st) ws) : V k n pc lo (.int y :: .int x :: st) ws := by
  obtain ⟨p, e, s, m, args, below, meth, c, A, Q, ⟨hx, hb, hml, hown, hts⟩, hK, hA, hi, rfl⟩ := r
  exact fun H locs ls hP hD hS hl => lv_ishr hx hb hd (kk H locs ls hP hD hS hl)
theorem Rl.land (r : Rl E own cc R nL ini V) {x y : Int64} (hd : decode cc pc = .ok (.land, 1)) (kk : V k n (pc + 1) lo (.long (x &&& y) :: st) ws) : V k n pc lo (.long y :: .long x :: st) ws := by
  obtain ⟨p, e, s, m, args, below, meth, c, A, Q, ⟨hx, hb, hml, hown, hts⟩, hK, hA, hi, rfl⟩ := r
  exact fun H locs ls hP hD hS hl => lv_land hx hb hd (kk H locs ls hP hD hS hl)
theorem Rl.lor (r : Rl E own cc R nL ini V) {x y : Int64} (hd : decode cc pc = .ok (.lor, 1)) (kk : V k n (pc + 1) lo (.long (x ||| y) :: st) ws) : V k n pc lo (.long y :: .long x :: st) ws := by
  obtain ⟨p, e, s, m, args, below, meth, c, A, Q, ⟨hx, hb, hml, hown, hts⟩, hK, hA, hi, rfl⟩ := r
  exact fun H locs ls hP hD hS hl => lv_lor hx hb hd (kk H locs ls hP hD hS hl)
theorem Rl.idiv (r : Rl E own cc R nL ini V) {x y : Int32} (hd : decode cc pc = .ok (.idiv, 1)) (hne : ¬ y = 0) (kk : V k n (pc + 1) lo (.int (x / y) :: st) ws) : V k n pc lo (.int y :: .int x :: st) ws := by
  obtain ⟨p, e, s, m, args, below, meth, c, A, Q, ⟨hx, hb, hml, hown, hts⟩, hK, hA, hi, rfl⟩ := r
  exact fun H locs ls hP hD hS hl => lv_idiv hx hb hd hne (kk H locs ls hP hD hS hl)
theorem Rl.irem (r : Rl E own cc R nL ini V) {x y : Int32} (hd : decode cc pc = .ok (.irem, 1)) (hne : ¬ y = 0) (kk : V k n (pc + 1) lo (.int (x - x / y * y) :: st) ws) : V k n pc lo (.int y :: .int x :: st) ws := by
  obtain ⟨p, e, s, m, args, below, meth, c, A, Q, ⟨hx, hb, hml, hown, hts⟩, hK, hA, hi, rfl⟩ := r
  exact fun H locs ls hP hD hS hl => lv_irem hx hb hd hne (kk H locs ls hP hD hS hl)
theorem Rl.ineg (r : Rl E own cc R nL ini V) {x : Int32} (hd : decode cc pc = .ok (.ineg, 1)) (kk : V k n (pc + 1) lo (.int (-x) :: st) ws) : V k n pc lo (.int x :: st) ws := by
  obtain ⟨p, e, s, m, args, below, meth, c, A, Q, ⟨hx, hb, hml, hown, hts⟩, hK, hA, hi, rfl⟩ := r
  exact fun H locs ls hP hD hS hl => lv_ineg hx hb hd (kk H locs ls hP hD hS hl)
theorem Rl.iushr (r : Rl E own cc R nL ini V) {x y : Int32} (hd : decode cc pc = .ok (.iushr, 1)) (kk : V k n (pc + 1) lo (.int ((x.toUInt32 >>> (y.toUInt32 &&& Int32.toUInt32 31)).toInt32) :: st) ws) : V k n pc lo (.int y :: .int x :: st) ws := by
  obtain ⟨p, e, s, m, args, below, meth, c, A, Q, ⟨hx, hb, hml, hown, hts⟩, hK, hA, hi, rfl⟩ := r
  exact fun H locs ls hP hD hS hl => lv_iushr hx hb hd rfl (kk H locs ls hP hD hS hl)
theorem Rl.lushr (r : Rl E own cc R nL ini V) {x : Int64} {y : Int32} (hd : decode cc pc = .ok (.lushr, 1)) (kk : V k n (pc + 1) lo (.long ((x.toUInt64 >>> (y.toInt64.toUInt64 &&& Int64.toUInt64 63)).toInt64) :: st) ws) : V k n pc lo (.int y :: .long x :: st) ws := by
  obtain ⟨p, e, s, m, args, below, meth, c, A, Q, ⟨hx, hb, hml, hown, hts⟩, hK, hA, hi, rfl⟩ := r
  exact fun H locs ls hP hD hS hl => lv_lushr hx hb hd rfl (kk H locs ls hP hD hS hl)
theorem Rl.lshl (r : Rl E own cc R nL ini V) {x : Int64} {y : Int32} (hd : decode cc pc = .ok (.lshl, 1)) (kk : V k n (pc + 1) lo (.long (x <<< (y.toInt64 &&& 63)) :: st) ws) : V k n pc lo (.int y :: .long x :: st) ws := by
  obtain ⟨p, e, s, m, args, below, meth, c, A, Q, ⟨hx, hb, hml, hown, hts⟩, hK, hA, hi, rfl⟩ := r
  exact fun H locs ls hP hD hS hl => lv_lshl hx hb hd rfl (kk H locs ls hP hD hS hl)
theorem Rl.lshr (r : Rl E own cc R nL ini V) {x : Int64} {y : Int32} (hd : decode cc pc = .ok (.lshr, 1)) (kk : V k n (pc + 1) lo (.long (x >>> (y.toInt64 &&& 63)) :: st) ws) : V k n pc lo (.int y :: .long x :: st) ws := by
  obtain ⟨p, e, s, m, args, below, meth, c, A, Q, ⟨hx, hb, hml, hown, hts⟩, hK, hA, hi, rfl⟩ := r
  exact fun H locs ls hP hD hS hl => lv_lshr hx hb hd rfl (kk H locs ls hP hD hS hl)
theorem Rl.i2l (r : Rl E own cc R nL ini V) {x : Int32} (hd : decode cc pc = .ok (.i2l, 1)) (kk : V k n (pc + 1) lo (.long x.toInt64 :: st) ws) : V k n pc lo (.int x :: st) ws := by
  obtain ⟨p, e, s, m, args, below, meth, c, A, Q, ⟨hx, hb, hml, hown, hts⟩, hK, hA, hi, rfl⟩ := r
  exact fun H locs ls hP hD hS hl => lv_i2l hx hb hd rfl (kk H locs ls hP hD hS hl)
theorem Rl.l2i (r : Rl E own cc R nL ini V) {x : Int64} (hd : decode cc pc = .ok (.l2i, 1)) (kk : V k n (pc + 1) lo (.int x.toInt32 :: st) ws) : V k n pc lo (.long x :: st) ws := by
  obtain ⟨p, e, s, m, args, below, meth, c, A, Q, ⟨hx, hb, hml, hown, hts⟩, hK, hA, hi, rfl⟩ := r
  exact fun H locs ls hP hD hS hl => lv_l2i hx hb hd rfl (kk H locs ls hP hD hS hl)
theorem Rl.i2c (r : Rl E own cc R nL ini V) {x : Int32} (hd : decode cc pc = .ok (.i2c, 1)) (kk : V k n (pc + 1) lo (.int (x.toUInt32 % 65536).toInt32 :: st) ws) : V k n pc lo (.int x :: st) ws := by
  obtain ⟨p, e, s, m, args, below, meth, c, A, Q, ⟨hx, hb, hml, hown, hts⟩, hK, hA, hi, rfl⟩ := r
  exact fun H locs ls hP hD hS hl => lv_i2c hx hb hd rfl (kk H locs ls hP hD hS hl)
theorem Rl.lcmp (r : Rl E own cc R nL ini V) {x y : Int64} (hd : decode cc pc = .ok (.lcmp, 1)) (kk : V k n (pc + 1) lo (.int (lg_cmp x y) :: st) ws) : V k n pc lo (.long y :: .long x :: st) ws := by
  obtain ⟨p, e, s, m, args, below, meth, c, A, Q, ⟨hx, hb, hml, hown, hts⟩, hK, hA, hi, rfl⟩ := r
  exact fun H locs ls hP hD hS hl => W.lcmp hx hb hd (kk H locs ls hP hD hS hl)
theorem Rl.dup (r : Rl E own cc R nL ini V) {v : Value} (hd : decode cc pc = .ok (.dup, 1)) (hc : v.category = 1) (kk : V k n (pc + 1) lo (v :: v :: st) ws) : V k n pc lo (v :: st) ws := by
  obtain ⟨p, e, s, m, args, below, meth, c, A, Q, ⟨hx, hb, hml, hown, hts⟩, hK, hA, hi, rfl⟩ := r
  exact fun H locs ls hP hD hS hl => lv_dup hx hb hd hc (kk H locs ls hP hD hS hl)
theorem Rl.pop (r : Rl E own cc R nL ini V) {v : Value} (hd : decode cc pc = .ok (.pop, 1)) (hc : v.category = 1) (kk : V k n (pc + 1) lo st ws) : V k n pc lo (v :: st) ws := by
  obtain ⟨p, e, s, m, args, below, meth, c, A, Q, ⟨hx, hb, hml, hown, hts⟩, hK, hA, hi, rfl⟩ := r
  exact fun H locs ls hP hD hS hl => lv_pop hx hb hd hc (kk H locs ls hP hD hS hl)
theorem Rl.dup2 (r : Rl E own cc R nL ini V) {v w : Value} (hd : decode cc pc = .ok (.dup2, 1)) (hc : v.category = 1) (hc2 : w.category = 1) (kk : V k n (pc + 1) lo (v :: w :: v :: w :: st) ws) : V k n pc lo (v :: w :: st) ws := by
  obtain ⟨p, e, s, m, args, below, meth, c, A, Q, ⟨hx, hb, hml, hown, hts⟩, hK, hA, hi, rfl⟩ := r
  exact fun H locs ls hP hD hS hl => lv_dup2_11 hx hb hd hc hc2 (kk H locs ls hP hD hS hl)
theorem Rl.goto (r : Rl E own cc R nL ini V) (tgt : Nat) {off : Int} (hd : decode cc pc = .ok (.goto off, 3)) (ht : (pc : Int) + off = (tgt : Int)) (kk : V k n tgt lo st ws) : V k n pc lo st ws := by
  obtain ⟨p, e, s, m, args, below, meth, c, A, Q, ⟨hx, hb, hml, hown, hts⟩, hK, hA, hi, rfl⟩ := r
  exact fun H locs ls hP hD hS hl => lv_goto hx hb hd ht (kk H locs ls hP hD hS hl)
theorem Rl.if_eq (r : Rl E own cc R nL ini V) (tgt : Nat) {x : Int32} {off : Int} {α : Type} {a b : Option α} {o : α} (hd : decode cc pc = .ok (.ifCond .eq off, 3)) (ht : (pc : Int) + off = (tgt : Int)) (hq : (if x = 0 then a else b) = some o) (kt : x = 0 → a = some o → V k n tgt lo st ws) (kf : ¬ x = 0 → b = some o → V k n (pc + 3) lo st ws) : V k n pc lo (.int x :: st) ws := by
  obtain ⟨p, e, s, m, args, below, meth, c, A, Q, ⟨hx, hb, hml, hown, hts⟩, hK, hA, hi, rfl⟩ := r
  exact fun H locs ls hP hD hS hl => xif hq (fun c h => lv_if_eq hx hb hd ht (fun c2 => kt c h H locs ls hP hD hS hl) (fun c2 => absurd c c2)) (fun c h => lv_if_eq hx hb hd ht (fun c2 => absurd c2 c) (fun c2 => kf c h H locs ls hP hD hS hl))
theorem Rl.if_eqT (r : Rl E own cc R nL ini V) (tgt : Nat) {x : Int32} {off : Int} (hd : decode cc pc = .ok (.ifCond .eq off, 3)) (ht : (pc : Int) + off = (tgt : Int)) (hc : x = 0) (kt : V k n tgt lo st ws) : V k n pc lo (.int x :: st) ws := by
  obtain ⟨p, e, s, m, args, below, meth, c, A, Q, ⟨hx, hb, hml, hown, hts⟩, hK, hA, hi, rfl⟩ := r
  exact fun H locs ls hP hD hS hl => lv_if_eq hx hb hd ht (fun _ => kt H locs ls hP hD hS hl) (fun c2 => absurd hc c2)
theorem Rl.if_eqF (r : Rl E own cc R nL ini V) {x : Int32} {off : Int} (tgt : Nat) (hd : decode cc pc = .ok (.ifCond .eq off, 3)) (ht : (pc : Int) + off = (tgt : Int)) (hc : ¬ x = 0) (kf : V k n (pc + 3) lo st ws) : V k n pc lo (.int x :: st) ws := by
  obtain ⟨p, e, s, m, args, below, meth, c, A, Q, ⟨hx, hb, hml, hown, hts⟩, hK, hA, hi, rfl⟩ := r
  exact fun H locs ls hP hD hS hl => lv_if_eq hx hb hd ht (fun c2 => absurd c2 hc) (fun _ => kf H locs ls hP hD hS hl)
theorem Rl.icmp_eq (r : Rl E own cc R nL ini V) (tgt : Nat) {x y : Int32} {off : Int} {α : Type} {a b : Option α} {o : α} (hd : decode cc pc = .ok (.if_icmp .eq off, 3)) (ht : (pc : Int) + off = (tgt : Int)) (hq : (if x = y then a else b) = some o) (kt : x = y → a = some o → V k n tgt lo st ws) (kf : ¬ x = y → b = some o → V k n (pc + 3) lo st ws) : V k n pc lo (.int y :: .int x :: st) ws := by
  obtain ⟨p, e, s, m, args, below, meth, c, A, Q, ⟨hx, hb, hml, hown, hts⟩, hK, hA, hi, rfl⟩ := r
  exact fun H locs ls hP hD hS hl => xif hq (fun c h => lv_icmp_eq hx hb hd ht (fun c2 => kt c h H locs ls hP hD hS hl) (fun c2 => absurd c c2)) (fun c h => lv_icmp_eq hx hb hd ht (fun c2 => absurd c2 c) (fun c2 => kf c h H locs ls hP hD hS hl))
theorem Rl.icmp_eqT (r : Rl E own cc R nL ini V) (tgt : Nat) {x y : Int32} {off : Int} (hd : decode cc pc = .ok (.if_icmp .eq off, 3)) (ht : (pc : Int) + off = (tgt : Int)) (hc : x = y) (kt : V k n tgt lo st ws) : V k n pc lo (.int y :: .int x :: st) ws := by
  obtain ⟨p, e, s, m, args, below, meth, c, A, Q, ⟨hx, hb, hml, hown, hts⟩, hK, hA, hi, rfl⟩ := r
  exact fun H locs ls hP hD hS hl => lv_icmp_eq hx hb hd ht (fun _ => kt H locs ls hP hD hS hl) (fun c2 => absurd hc c2)
theorem Rl.icmp_eqF (r : Rl E own cc R nL ini V) {x y : Int32} {off : Int} (tgt : Nat) (hd : decode cc pc = .ok (.if_icmp .eq off, 3)) (ht : (pc : Int) + off = (tgt : Int)) (hc : ¬ x = y) (kf : V k n (pc + 3) lo st ws) : V k n pc lo (.int y :: .int x :: st) ws := by
  obtain ⟨p, e, s, m, args, below, meth, c, A, Q, ⟨hx, hb, hml, hown, hts⟩, hK, hA, hi, rfl⟩ := r
  exact fun H locs ls hP hD hS hl => lv_icmp_eq hx hb hd ht (fun c2 => absurd c2 hc) (fun _ => kf H locs ls hP hD hS hl)
theorem Rl.if_ne (r : Rl E own cc R nL ini V) (tgt : Nat) {x : Int32} {off : Int} {α : Type} {a b : Option α} {o : α} (hd : decode cc pc = .ok (.ifCond .ne off, 3)) (ht : (pc : Int) + off = (tgt : Int)) (hq : (if x = 0 then b else a) = some o) (kt : ¬ x = 0 → a = some o → V k n tgt lo st ws) (kf : x = 0 → b = some o → V k n (pc + 3) lo st ws) : V k n pc lo (.int x :: st) ws := by
  obtain ⟨p, e, s, m, args, below, meth, c, A, Q, ⟨hx, hb, hml, hown, hts⟩, hK, hA, hi, rfl⟩ := r
  exact fun H locs ls hP hD hS hl => xif hq (fun c h => lv_if_ne hx hb hd ht (fun c2 => absurd c c2) (fun c2 => kf c h H locs ls hP hD hS hl)) (fun c h => lv_if_ne hx hb hd ht (fun c2 => kt c h H locs ls hP hD hS hl) (fun c2 => absurd c2 c))
theorem Rl.if_neT (r : Rl E own cc R nL ini V) (tgt : Nat) {x : Int32} {off : Int} (hd : decode cc pc = .ok (.ifCond .ne off, 3)) (ht : (pc : Int) + off = (tgt : Int)) (hc : x ≠ 0) (kt : V k n tgt lo st ws) : V k n pc lo (.int x :: st) ws := by
  obtain ⟨p, e, s, m, args, below, meth, c, A, Q, ⟨hx, hb, hml, hown, hts⟩, hK, hA, hi, rfl⟩ := r
  exact fun H locs ls hP hD hS hl => lv_if_ne hx hb hd ht (fun _ => kt H locs ls hP hD hS hl) (fun c2 => absurd c2 hc)
theorem Rl.if_neF (r : Rl E own cc R nL ini V) {x : Int32} {off : Int} (tgt : Nat) (hd : decode cc pc = .ok (.ifCond .ne off, 3)) (ht : (pc : Int) + off = (tgt : Int)) (hc : ¬ (x ≠ 0)) (kf : V k n (pc + 3) lo st ws) : V k n pc lo (.int x :: st) ws := by
  obtain ⟨p, e, s, m, args, below, meth, c, A, Q, ⟨hx, hb, hml, hown, hts⟩, hK, hA, hi, rfl⟩ := r
  exact fun H locs ls hP hD hS hl => lv_if_ne hx hb hd ht (fun c2 => absurd c2 hc) (fun _ => kf H locs ls hP hD hS hl)
theorem Rl.icmp_ne (r : Rl E own cc R nL ini V) (tgt : Nat) {x y : Int32} {off : Int} {α : Type} {a b : Option α} {o : α} (hd : decode cc pc = .ok (.if_icmp .ne off, 3)) (ht : (pc : Int) + off = (tgt : Int)) (hq : (if x = y then b else a) = some o) (kt : ¬ x = y → a = some o → V k n tgt lo st ws) (kf : x = y → b = some o → V k n (pc + 3) lo st ws) : V k n pc lo (.int y :: .int x :: st) ws := by
  obtain ⟨p, e, s, m, args, below, meth, c, A, Q, ⟨hx, hb, hml, hown, hts⟩, hK, hA, hi, rfl⟩ := r
  exact fun H locs ls hP hD hS hl => xif hq (fun c h => lv_icmp_ne hx hb hd ht (fun c2 => absurd c c2) (fun c2 => kf c h H locs ls hP hD hS hl)) (fun c h => lv_icmp_ne hx hb hd ht (fun c2 => kt c h H locs ls hP hD hS hl) (fun c2 => absurd c2 c))
theorem Rl.icmp_neT (r : Rl E own cc R nL ini V) (tgt : Nat) {x y : Int32} {off : Int} (hd : decode cc pc = .ok (.if_icmp .ne off, 3)) (ht : (pc : Int) + off = (tgt : Int)) (hc : x ≠ y) (kt : V k n tgt lo st ws) : V k n pc lo (.int y :: .int x :: st) ws := by
  obtain ⟨p, e, s, m, args, below, meth, c, A, Q, ⟨hx, hb, hml, hown, hts⟩, hK, hA, hi, rfl⟩ := r
  exact fun H locs ls hP hD hS hl => lv_icmp_ne hx hb hd ht (fun _ => kt H locs ls hP hD hS hl) (fun c2 => absurd c2 hc)
theorem Rl.icmp_neF (r : Rl E own cc R nL ini V) {x y : Int32} {off : Int} (tgt : Nat) (hd : decode cc pc = .ok (.if_icmp .ne off, 3)) (ht : (pc : Int) + off = (tgt : Int)) (hc : ¬ (x ≠ y)) (kf : V k n (pc + 3) lo st ws) : V k n pc lo (.int y :: .int x :: st) ws := by
  obtain ⟨p, e, s, m, args, below, meth, c, A, Q, ⟨hx, hb, hml, hown, hts⟩, hK, hA, hi, rfl⟩ := r
  exact fun H locs ls hP hD hS hl => lv_icmp_ne hx hb hd ht (fun c2 => absurd c2 hc) (fun _ => kf H locs ls hP hD hS hl)
theorem Rl.if_lt (r : Rl E own cc R nL ini V) (tgt : Nat) {x : Int32} {off : Int} {α : Type} {a b : Option α} {o : α} (hd : decode cc pc = .ok (.ifCond .lt off, 3)) (ht : (pc : Int) + off = (tgt : Int)) (hq : (if x < 0 then a else b) = some o) (kt : x < 0 → a = some o → V k n tgt lo st ws) (kf : ¬ x < 0 → b = some o → V k n (pc + 3) lo st ws) : V k n pc lo (.int x :: st) ws := by
  obtain ⟨p, e, s, m, args, below, meth, c, A, Q, ⟨hx, hb, hml, hown, hts⟩, hK, hA, hi, rfl⟩ := r
  exact fun H locs ls hP hD hS hl => xif hq (fun c h => lv_if_lt hx hb hd ht (fun c2 => kt c h H locs ls hP hD hS hl) (fun c2 => absurd c c2)) (fun c h => lv_if_lt hx hb hd ht (fun c2 => absurd c2 c) (fun c2 => kf c h H locs ls hP hD hS hl))
theorem Rl.if_ltT (r : Rl E own cc R nL ini V) (tgt : Nat) {x : Int32} {off : Int} (hd : decode cc pc = .ok (.ifCond .lt off, 3)) (ht : (pc : Int) + off = (tgt : Int)) (hc : x < 0) (kt : V k n tgt lo st ws) : V k n pc lo (.int x :: st) ws := by
  obtain ⟨p, e, s, m, args, below, meth, c, A, Q, ⟨hx, hb, hml, hown, hts⟩, hK, hA, hi, rfl⟩ := r
  exact fun H locs ls hP hD hS hl => lv_if_lt hx hb hd ht (fun _ => kt H locs ls hP hD hS hl) (fun c2 => absurd hc c2)
theorem Rl.if_ltF (r : Rl E own cc R nL ini V) {x : Int32} {off : Int} (tgt : Nat) (hd : decode cc pc = .ok (.ifCond .lt off, 3)) (ht : (pc : Int) + off = (tgt : Int)) (hc : ¬ x < 0) (kf : V k n (pc + 3) lo st ws) : V k n pc lo (.int x :: st) ws := by
  obtain ⟨p, e, s, m, args, below, meth, c, A, Q, ⟨hx, hb, hml, hown, hts⟩, hK, hA, hi, rfl⟩ := r
  exact fun H locs ls hP hD hS hl => lv_if_lt hx hb hd ht (fun c2 => absurd c2 hc) (fun _ => kf H locs ls hP hD hS hl)
theorem Rl.icmp_lt (r : Rl E own cc R nL ini V) (tgt : Nat) {x y : Int32} {off : Int} {α : Type} {a b : Option α} {o : α} (hd : decode cc pc = .ok (.if_icmp .lt off, 3)) (ht : (pc : Int) + off = (tgt : Int)) (hq : (if x < y then a else b) = some o) (kt : x < y → a = some o → V k n tgt lo st ws) (kf : ¬ x < y → b = some o → V k n (pc + 3) lo st ws) : V k n pc lo (.int y :: .int x :: st) ws := by
  obtain ⟨p, e, s, m, args, below, meth, c, A, Q, ⟨hx, hb, hml, hown, hts⟩, hK, hA, hi, rfl⟩ := r
  exact fun H locs ls hP hD hS hl => xif hq (fun c h => lv_icmp_lt hx hb hd ht (fun c2 => kt c h H locs ls hP hD hS hl) (fun c2 => absurd c c2)) (fun c h => lv_icmp_lt hx hb hd ht (fun c2 => absurd c2 c) (fun c2 => kf c h H locs ls hP hD hS hl))
theorem Rl.icmp_ltT (r : Rl E own cc R nL ini V) (tgt : Nat) {x y : Int32} {off : Int} (hd : decode cc pc = .ok (.if_icmp .lt off, 3)) (ht : (pc : Int) + off = (tgt : Int)) (hc : x < y) (kt : V k n tgt lo st ws) : V k n pc lo (.int y :: .int x :: st) ws := by
  obtain ⟨p, e, s, m, args, below, meth, c, A, Q, ⟨hx, hb, hml, hown, hts⟩, hK, hA, hi, rfl⟩ := r
  exact fun H locs ls hP hD hS hl => lv_icmp_lt hx hb hd ht (fun _ => kt H locs ls hP hD hS hl) (fun c2 => absurd hc c2)
theorem Rl.icmp_ltF (r : Rl E own cc R nL ini V) {x y : Int32} {off : Int} (tgt : Nat) (hd : decode cc pc = .ok (.if_icmp .lt off, 3)) (ht : (pc : Int) + off = (tgt : Int)) (hc : ¬ x < y) (kf : V k n (pc + 3) lo st ws) : V k n pc lo (.int y :: .int x :: st) ws := by
  obtain ⟨p, e, s, m, args, below, meth, c, A, Q, ⟨hx, hb, hml, hown, hts⟩, hK, hA, hi, rfl⟩ := r
  exact fun H locs ls hP hD hS hl => lv_icmp_lt hx hb hd ht (fun c2 => absurd c2 hc) (fun _ => kf H locs ls hP hD hS hl)
theorem Rl.if_ge (r : Rl E own cc R nL ini V) (tgt : Nat) {x : Int32} {off : Int} {α : Type} {a b : Option α} {o : α} (hd : decode cc pc = .ok (.ifCond .ge off, 3)) (ht : (pc : Int) + off = (tgt : Int)) (hq : (if 0 ≤ x then a else b) = some o) (kt : 0 ≤ x → a = some o → V k n tgt lo st ws) (kf : ¬ 0 ≤ x → b = some o → V k n (pc + 3) lo st ws) : V k n pc lo (.int x :: st) ws := by
  obtain ⟨p, e, s, m, args, below, meth, c, A, Q, ⟨hx, hb, hml, hown, hts⟩, hK, hA, hi, rfl⟩ := r
  exact fun H locs ls hP hD hS hl => xif hq (fun c h => lv_if_ge hx hb hd ht (fun c2 => kt c h H locs ls hP hD hS hl) (fun c2 => absurd c c2)) (fun c h => lv_if_ge hx hb hd ht (fun c2 => absurd c2 c) (fun c2 => kf c h H locs ls hP hD hS hl))
theorem Rl.if_geT (r : Rl E own cc R nL ini V) (tgt : Nat) {x : Int32} {off : Int} (hd : decode cc pc = .ok (.ifCond .ge off, 3)) (ht : (pc : Int) + off = (tgt : Int)) (hc : 0 ≤ x) (kt : V k n tgt lo st ws) : V k n pc lo (.int x :: st) ws := by
  obtain ⟨p, e, s, m, args, below, meth, c, A, Q, ⟨hx, hb, hml, hown, hts⟩, hK, hA, hi, rfl⟩ := r
  exact fun H locs ls hP hD hS hl => lv_if_ge hx hb hd ht (fun _ => kt H locs ls hP hD hS hl) (fun c2 => absurd hc c2)
theorem Rl.if_geF (r : Rl E own cc R nL ini V) {x : Int32} {off : Int} (tgt : Nat) (hd : decode cc pc = .ok (.ifCond .ge off, 3)) (ht : (pc : Int) + off = (tgt : Int)) (hc : ¬ 0 ≤ x) (kf : V k n (pc + 3) lo st ws) : V k n pc lo (.int x :: st) ws := by
  obtain ⟨p, e, s, m, args, below, meth, c, A, Q, ⟨hx, hb, hml, hown, hts⟩, hK, hA, hi, rfl⟩ := r
  exact fun H locs ls hP hD hS hl => lv_if_ge hx hb hd ht (fun c2 => absurd c2 hc) (fun _ => kf H locs ls hP hD hS hl)
theorem Rl.icmp_ge (r : Rl E own cc R nL ini V) (tgt : Nat) {x y : Int32} {off : Int} {α : Type} {a b : Option α} {o : α} (hd : decode cc pc = .ok (.if_icmp .ge off, 3)) (ht : (pc : Int) + off = (tgt : Int)) (hq : (if y ≤ x then a else b) = some o) (kt : y ≤ x → a = some o → V k n tgt lo st ws) (kf : ¬ y ≤ x → b = some o → V k n (pc + 3) lo st ws) : V k n pc lo (.int y :: .int x :: st) ws := by
  obtain ⟨p, e, s, m, args, below, meth, c, A, Q, ⟨hx, hb, hml, hown, hts⟩, hK, hA, hi, rfl⟩ := r
  exact fun H locs ls hP hD hS hl => xif hq (fun c h => lv_icmp_ge hx hb hd ht (fun c2 => kt c h H locs ls hP hD hS hl) (fun c2 => absurd c c2)) (fun c h => lv_icmp_ge hx hb hd ht (fun c2 => absurd c2 c) (fun c2 => kf c h H locs ls hP hD hS hl))
theorem Rl.icmp_geT (r : Rl E own cc R nL ini V) (tgt : Nat) {x y : Int32} {off : Int} (hd : decode cc pc = .ok (.if_icmp .ge off, 3)) (ht : (pc : Int) + off = (tgt : Int)) (hc : y ≤ x) (kt : V k n tgt lo st ws) : V k n pc lo (.int y :: .int x :: st) ws := by
  obtain ⟨p, e, s, m, args, below, meth, c, A, Q, ⟨hx, hb, hml, hown, hts⟩, hK, hA, hi, rfl⟩ := r
  exact fun H locs ls hP hD hS hl => lv_icmp_ge hx hb hd ht (fun _ => kt H locs ls hP hD hS hl) (fun c2 => absurd hc c2)
theorem Rl.icmp_geF (r : Rl E own cc R nL ini V) {x y : Int32} {off : Int} (tgt : Nat) (hd : decode cc pc = .ok (.if_icmp .ge off, 3)) (ht : (pc : Int) + off = (tgt : Int)) (hc : ¬ y ≤ x) (kf : V k n (pc + 3) lo st ws) : V k n pc lo (.int y :: .int x :: st) ws := by
  obtain ⟨p, e, s, m, args, below, meth, c, A, Q, ⟨hx, hb, hml, hown, hts⟩, hK, hA, hi, rfl⟩ := r
  exact fun H locs ls hP hD hS hl => lv_icmp_ge hx hb hd ht (fun c2 => absurd c2 hc) (fun _ => kf H locs ls hP hD hS hl)
theorem Rl.if_gt (r : Rl E own cc R nL ini V) (tgt : Nat) {x : Int32} {off : Int} {α : Type} {a b : Option α} {o : α} (hd : decode cc pc = .ok (.ifCond .gt off, 3)) (ht : (pc : Int) + off = (tgt : Int)) (hq : (if 0 < x then a else b) = some o) (kt : 0 < x → a = some o → V k n tgt lo st ws) (kf : ¬ 0 < x → b = some o → V k n (pc + 3) lo st ws) : V k n pc lo (.int x :: st) ws := by
  obtain ⟨p, e, s, m, args, below, meth, c, A, Q, ⟨hx, hb, hml, hown, hts⟩, hK, hA, hi, rfl⟩ := r
  exact fun H locs ls hP hD hS hl => xif hq (fun c h => lv_if_gt hx hb hd ht (fun c2 => kt c h H locs ls hP hD hS hl) (fun c2 => absurd c c2)) (fun c h => lv_if_gt hx hb hd ht (fun c2 => absurd c2 c) (fun c2 => kf c h H locs ls hP hD hS hl))
theorem Rl.if_gtT (r : Rl E own cc R nL ini V) (tgt : Nat) {x : Int32} {off : Int} (hd : decode cc pc = .ok (.ifCond .gt off, 3)) (ht : (pc : Int) + off = (tgt : Int)) (hc : 0 < x) (kt : V k n tgt lo st ws) : V k n pc lo (.int x :: st) ws := by
  obtain ⟨p, e, s, m, args, below, meth, c, A, Q, ⟨hx, hb, hml, hown, hts⟩, hK, hA, hi, rfl⟩ := r
  exact fun H locs ls hP hD hS hl => lv_if_gt hx hb hd ht (fun _ => kt H locs ls hP hD hS hl) (fun c2 => absurd hc c2)
theorem Rl.if_gtF (r : Rl E own cc R nL ini V) {x : Int32} {off : Int} (tgt : Nat) (hd : decode cc pc = .ok (.ifCond .gt off, 3)) (ht : (pc : Int) + off = (tgt : Int)) (hc : ¬ 0 < x) (kf : V k n (pc + 3) lo st ws) : V k n pc lo (.int x :: st) ws := by
  obtain ⟨p, e, s, m, args, below, meth, c, A, Q, ⟨hx, hb, hml, hown, hts⟩, hK, hA, hi, rfl⟩ := r
  exact fun H locs ls hP hD hS hl => lv_if_gt hx hb hd ht (fun c2 => absurd c2 hc) (fun _ => kf H locs ls hP hD hS hl)
theorem Rl.icmp_gt (r : Rl E own cc R nL ini V) (tgt : Nat) {x y : Int32} {off : Int} {α : Type} {a b : Option α} {o : α} (hd : decode cc pc = .ok (.if_icmp .gt off, 3)) (ht : (pc : Int) + off = (tgt : Int)) (hq : (if y < x then a else b) = some o) (kt : y < x → a = some o → V k n tgt lo st ws) (kf : ¬ y < x → b = some o → V k n (pc + 3) lo st ws) : V k n pc lo (.int y :: .int x :: st) ws := by
  obtain ⟨p, e, s, m, args, below, meth, c, A, Q, ⟨hx, hb, hml, hown, hts⟩, hK, hA, hi, rfl⟩ := r
  exact fun H locs ls hP hD hS hl => xif hq (fun c h => lv_icmp_gt hx hb hd ht (fun c2 => kt c h H locs ls hP hD hS hl) (fun c2 => absurd c c2)) (fun c h => lv_icmp_gt hx hb hd ht (fun c2 => absurd c2 c) (fun c2 => kf c h H locs ls hP hD hS hl))
theorem Rl.icmp_gtT (r : Rl E own cc R nL ini V) (tgt : Nat) {x y : Int32} {off : Int} (hd : decode cc pc = .ok (.if_icmp .gt off, 3)) (ht : (pc : Int) + off = (tgt : Int)) (hc : y < x) (kt : V k n tgt lo st ws) : V k n pc lo (.int y :: .int x :: st) ws := by
  obtain ⟨p, e, s, m, args, below, meth, c, A, Q, ⟨hx, hb, hml, hown, hts⟩, hK, hA, hi, rfl⟩ := r
  exact fun H locs ls hP hD hS hl => lv_icmp_gt hx hb hd ht (fun _ => kt H locs ls hP hD hS hl) (fun c2 => absurd hc c2)
theorem Rl.icmp_gtF (r : Rl E own cc R nL ini V) {x y : Int32} {off : Int} (tgt : Nat) (hd : decode cc pc = .ok (.if_icmp .gt off, 3)) (ht : (pc : Int) + off = (tgt : Int)) (hc : ¬ y < x) (kf : V k n (pc + 3) lo st ws) : V k n pc lo (.int y :: .int x :: st) ws := by
  obtain ⟨p, e, s, m, args, below, meth, c, A, Q, ⟨hx, hb, hml, hown, hts⟩, hK, hA, hi, rfl⟩ := r
  exact fun H locs ls hP hD hS hl => lv_icmp_gt hx hb hd ht (fun c2 => absurd c2 hc) (fun _ => kf H locs ls hP hD hS hl)
theorem Rl.if_le (r : Rl E own cc R nL ini V) (tgt : Nat) {x : Int32} {off : Int} {α : Type} {a b : Option α} {o : α} (hd : decode cc pc = .ok (.ifCond .le off, 3)) (ht : (pc : Int) + off = (tgt : Int)) (hq : (if x ≤ 0 then a else b) = some o) (kt : x ≤ 0 → a = some o → V k n tgt lo st ws) (kf : ¬ x ≤ 0 → b = some o → V k n (pc + 3) lo st ws) : V k n pc lo (.int x :: st) ws := by
  obtain ⟨p, e, s, m, args, below, meth, c, A, Q, ⟨hx, hb, hml, hown, hts⟩, hK, hA, hi, rfl⟩ := r
  exact fun H locs ls hP hD hS hl => xif hq (fun c h => lv_if_le hx hb hd ht (fun c2 => kt c h H locs ls hP hD hS hl) (fun c2 => absurd c c2)) (fun c h => lv_if_le hx hb hd ht (fun c2 => absurd c2 c) (fun c2 => kf c h H locs ls hP hD hS hl))
theorem Rl.if_leT (r : Rl E own cc R nL ini V) (tgt : Nat) {x : Int32} {off : Int} (hd : decode cc pc = .ok (.ifCond .le off, 3)) (ht : (pc : Int) + off = (tgt : Int)) (hc : x ≤ 0) (kt : V k n tgt lo st ws) : V k n pc lo (.int x :: st) ws := by
  obtain ⟨p, e, s, m, args, below, meth, c, A, Q, ⟨hx, hb, hml, hown, hts⟩, hK, hA, hi, rfl⟩ := r
  exact fun H locs ls hP hD hS hl => lv_if_le hx hb hd ht (fun _ => kt H locs ls hP hD hS hl) (fun c2 => absurd hc c2)
theorem Rl.if_leF (r : Rl E own cc R nL ini V) {x : Int32} {off : Int} (tgt : Nat) (hd : decode cc pc = .ok (.ifCond .le off, 3)) (ht : (pc : Int) + off = (tgt : Int)) (hc : ¬ x ≤ 0) (kf : V k n (pc + 3) lo st ws) : V k n pc lo (.int x :: st) ws := by
  obtain ⟨p, e, s, m, args, below, meth, c, A, Q, ⟨hx, hb, hml, hown, hts⟩, hK, hA, hi, rfl⟩ := r
  exact fun H locs ls hP hD hS hl => lv_if_le hx hb hd ht (fun c2 => absurd c2 hc) (fun _ => kf H locs ls hP hD hS hl)
theorem Rl.icmp_le (r : Rl E own cc R nL ini V) (tgt : Nat) {x y : Int32} {off : Int} {α : Type} {a b : Option α} {o : α} (hd : decode cc pc = .ok (.if_icmp .le off, 3)) (ht : (pc : Int) + off = (tgt : Int)) (hq : (if x ≤ y then a else b) = some o) (kt : x ≤ y → a = some o → V k n tgt lo st ws) (kf : ¬ x ≤ y → b = some o → V k n (pc + 3) lo st ws) : V k n pc lo (.int y :: .int x :: st) ws := by
  obtain ⟨p, e, s, m, args, below, meth, c, A, Q, ⟨hx, hb, hml, hown, hts⟩, hK, hA, hi, rfl⟩ := r
  exact fun H locs ls hP hD hS hl => xif hq (fun c h => lv_icmp_le hx hb hd ht (fun c2 => kt c h H locs ls hP hD hS hl) (fun c2 => absurd c c2)) (fun c h => lv_icmp_le hx hb hd ht (fun c2 => absurd c2 c) (fun c2 => kf c h H locs ls hP hD hS hl))
theorem Rl.icmp_leT (r : Rl E own cc R nL ini V) (tgt : Nat) {x y : Int32} {off : Int} (hd : decode cc pc = .ok (.if_icmp .le off, 3)) (ht : (pc : Int) + off = (tgt : Int)) (hc : x ≤ y) (kt : V k n tgt lo st ws) : V k n pc lo (.int y :: .int x :: st) ws := by
  obtain ⟨p, e, s, m, args, below, meth, c, A, Q, ⟨hx, hb, hml, hown, hts⟩, hK, hA, hi, rfl⟩ := r
  exact fun H locs ls hP hD hS hl => lv_icmp_le hx hb hd ht (fun _ => kt H locs ls hP hD hS hl) (fun c2 => absurd hc c2)
theorem Rl.icmp_leF (r : Rl E own cc R nL ini V) {x y : Int32} {off : Int} (tgt : Nat) (hd : decode cc pc = .ok (.if_icmp .le off, 3)) (ht : (pc : Int) + off = (tgt : Int)) (hc : ¬ x ≤ y) (kf : V k n (pc + 3) lo st ws) : V k n pc lo (.int y :: .int x :: st) ws := by
  obtain ⟨p, e, s, m, args, below, meth, c, A, Q, ⟨hx, hb, hml, hown, hts⟩, hK, hA, hi, rfl⟩ := r
  exact fun H locs ls hP hD hS hl => lv_icmp_le hx hb hd ht (fun c2 => absurd c2 hc) (fun _ => kf H locs ls hP hD hS hl)
theorem Rl.tsOut (r : Rl E own cc R nL ini V) (tgt : Nat) {dflt lw hw : Int} {offs : Array Int} {len : Nat} {x : Int32} (hd : decode cc pc = .ok (.tableswitch dflt lw hw offs, len)) (h : x.toInt < lw ∨ hw < x.toInt) (ht : (pc : Int) + dflt = (tgt : Int)) (kk : V k n tgt lo st ws) : V k n pc lo (.int x :: st) ws := by
  obtain ⟨p, e, s, m, args, below, meth, c, A, Q, ⟨hx, hb, hml, hown, hts⟩, hK, hA, hi, rfl⟩ := r
  exact fun H locs ls hP hD hS hl => lv_tableOut hx hb hd h ht (kk H locs ls hP hD hS hl)
theorem Rl.tsIn (r : Rl E own cc R nL ini V) (tgt : Nat) {dflt lw hw : Int} {offs : Array Int} {len : Nat} {x v : Int32} {off : Int} (hd : decode cc pc = .ok (.tableswitch dflt lw hw offs, len)) (hc : x = v) (h : ¬ (x.toInt < lw ∨ hw < x.toInt)) (ho : offs[(v.toInt - lw).toNat]? = some off) (ht : (pc : Int) + off = (tgt : Int)) (kk : V k n tgt lo st ws) : V k n pc lo (.int x :: st) ws := by
  obtain ⟨p, e, s, m, args, below, meth, c, A, Q, ⟨hx, hb, hml, hown, hts⟩, hK, hA, hi, rfl⟩ := r
  exact fun H locs ls hP hD hS hl => lv_tableIn hx hb hd (fun q => h (Or.inl q)) (fun q => h (Or.inr q)) (by rw [hc]; exact ho) ht (kk H locs ls hP hD hS hl)
theorem Rl.get (r : Rl E own cc R nL ini V) {C : String} {T : u_T} {N ci : Nat} {ty : Nat → FieldType} (K : xKl C T N ci ty) {idx f : Nat} (F : xFl own idx T N f) (hT : (T f).1 = (T f).1) (q0 : Nat) {a : Nat} {fs : List Value} {v : Value} (he : ws[q0]? = some (a, .inr (ci, fs))) (hv : fs[f]? = some v) (hd : decode cc pc = .ok (.getfield idx, 3)) (kk : V k n (pc + 3) lo (v :: st) ws) : V k n pc lo (.ref a :: st) ws := by
  obtain ⟨p, e, s, m, args, below, meth, c, A, Q, ⟨hx, hb, hml, hown, hts⟩, hK, hA, hi, rfl⟩ := r
  exact fun H locs ls hP hD hS hl => va_get hx hb hts K.1 hown hK.1 hP q0 he K.2.1 f F.2 (hts _ F.1) (fun _ h => h) hv hd (kk H locs ls hP hD hS hl)
theorem Rl.put (r : Rl E own cc R nL ini V) {C : String} {T : u_T} {N ci : Nat} {ty : Nat → FieldType} (K : xKl C T N ci ty) {idx f : Nat} (F : xFl own idx T N f) (q0 : Nat) {a : Nat} {fs : List Value} {v : Value} {ws' : va_W} (he : ws[q0]? = some (a, .inr (ci, fs))) (hfin : (T f).2.2.2 = false) (hn : narrow (ty f) v = v) (hf : fits (ty f) v = true) (hl0 : f < fs.length) (hw : ws.set q0 (a, .inr (ci, fs.set f v)) = ws') (hd : decode cc pc = .ok (.putfield idx, 3)) (kk : V k n (pc + 3) lo st ws') : V k n pc lo (v :: .ref a :: st) ws := by
  obtain ⟨p, e, s, m, args, below, meth, c, A, Q, ⟨hx, hb, hml, hown, hts⟩, hK, hA, hi, rfl⟩ := r
  subst hw
  exact fun H locs ls hP hD hS hl => va_put hx hb hts K.1 ty K.2.2.1 K.2.2.2 hown hK.1 hP hD hS q0 he K.2.1 f F.2 (hts _ F.1) (fun _ h => h) hfin (K.2.2.1 f F.2) hn hf hl0 hd (fun H1 l1 hP hD hS => kk H1 l1 ls hP hD hS hl)
theorem Rl.putF (r : Rl E own cc R nL true V) {C : String} {T : u_T} {N ci : Nat} {ty : Nat → FieldType} (K : xKl C T N ci ty) {idx f : Nat} (F : xFl own idx T N f) (q0 : Nat) {a : Nat} {fs : List Value} {v : Value} {ws' : va_W} (he : ws[q0]? = some (a, .inr (ci, fs))) (hfin : (T f).2.2.2 = true) (hdecl : (T f).1 = own) (hn : narrow (ty f) v = v) (hf : fits (ty f) v = true) (hl0 : f < fs.length) (hw : ws.set q0 (a, .inr (ci, fs.set f v)) = ws') (hd : decode cc pc = .ok (.putfield idx, 3)) (kk : V k n (pc + 3) lo st ws') : V k n pc lo (v :: .ref a :: st) ws := by
  obtain ⟨p, e, s, m, args, below, meth, c, A, Q, ⟨hx, hb, hml, hown, hts⟩, hK, hA, hi, rfl⟩ := r
  subst hw
  exact fun H locs ls hP hD hS hl => va_putF hx hb hts K.1 ty K.2.2.1 K.2.2.2 hown hK.1 hP hD hS q0 he K.2.1 f F.2 (hts _ F.1) (fun _ h => h) hfin (hi rfl) hdecl (K.2.2.1 f F.2) hn hf hl0 hd (fun H1 l1 hP hD hS => kk H1 l1 ls hP hD hS hl)
theorem Rl.objInit (r : Rl E own cc R nL ini V) {a idx : Nat} (h1 : Cond.methodLink own idx objectInit ∈ gw) (h2 : Cond.instanceMethod objectInit ∈ gw) (h3 : Cond.code objectInit ⟨#[0xb1]⟩ 1 none ∈ gw) (hd : decode cc pc = .ok (.invokespecial idx, 3)) (hf : 1 ≤ R.frames) (hloc : 20 ≤ R.locals) (hst : (st.map fun v => v.category).sum ≤ 8) (kk : V k n (pc + 3) lo st ws) : V k n pc lo (.ref a :: st) ws := by
  obtain ⟨p, e, s, m, args, below, meth, c, A, Q, ⟨hx, hb, hml, hown, hts⟩, hK, hA, hi, rfl⟩ := r
  intro H locs ls hP hD hS hl
  refine W.objInit hx hb hown (hts _ h1) (hts _ h2) (hts _ h3) rfl (by rw [hml]; exact hl.1) rfl hd hf (Nat.le_trans (Nat.add_le_add_right (lv_room hst) 12) hloc) ?_
  exact kk H locs ls hP hD hS hl
theorem Rl.alen (r : Rl E own cc R nL ini V) (q0 t0 : Nat) {a : Nat} {cA : ClassId} {x : vp_A} {ty : FieldType} {v : Int32} (ha : ws[q0]? = some (a, .inl (cA, x))) (ht : (xT E)[t0]? = some (cA, ty)) (hv : Int32.ofNat x.1 = v) (hd : decode cc pc = .ok (.arraylength, 1)) (kk : V k n (pc + 1) lo (.int v :: st) ws) : V k n pc lo (.ref a :: st) ws := by
  obtain ⟨p, e, s, m, args, below, meth, c, A, Q, ⟨hx, hb, hml, hown, hts⟩, hK, hA, hi, rfl⟩ := r
  exact fun H locs ls hP hD hS hl => va_alen hx hb hK.1 hP q0 t0 ha ht hv hd (kk H locs ls hP hD hS hl)
theorem Rl.iald (r : Rl E own cc R nL ini V) (q0 : Nat) {a N : Nat} {f : Nat → Int32} {i : Int32} (ha : ws[q0]? = some (a, .inl (xI E, N, .inl f))) (hin : vp_in i N) (hd : decode cc pc = .ok (.iaload, 1)) (kk : V k n (pc + 1) lo (.int (f i.toNatClampNeg) :: st) ws) : V k n pc lo (.int i :: .ref a :: st) ws := by
  obtain ⟨p, e, s, m, args, below, meth, c, A, Q, ⟨hx, hb, hml, hown, hts⟩, hK, hA, hi, rfl⟩ := r
  exact fun H locs ls hP hD hS hl => va_iald hx hb hK.1 hP q0 0 ha rfl hin hd (kk H locs ls hP hD hS hl)
theorem Rl.zald (r : Rl E own cc R nL ini V) (q0 : Nat) {a N : Nat} {f : Nat → Int32} {i : Int32} (ha : ws[q0]? = some (a, .inl (xZ E, N, .inl f))) (hin : vp_in i N) (hd : decode cc pc = .ok (.baload, 1)) (kk : V k n (pc + 1) lo (.int (f i.toNatClampNeg) :: st) ws) : V k n pc lo (.int i :: .ref a :: st) ws := by
  obtain ⟨p, e, s, m, args, below, meth, c, A, Q, ⟨hx, hb, hml, hown, hts⟩, hK, hA, hi, rfl⟩ := r
  exact fun H locs ls hP hD hS hl => va_zald hx hb hK.1 hP q0 1 ha rfl hin hd (kk H locs ls hP hD hS hl)
theorem Rl.cald (r : Rl E own cc R nL ini V) (q0 : Nat) {a N : Nat} {f : Nat → Int32} {i : Int32} (ha : ws[q0]? = some (a, .inl (xC E, N, .inl f))) (hin : vp_in i N) (hd : decode cc pc = .ok (.caload, 1)) (kk : V k n (pc + 1) lo (.int (f i.toNatClampNeg) :: st) ws) : V k n pc lo (.int i :: .ref a :: st) ws := by
  obtain ⟨p, e, s, m, args, below, meth, c, A, Q, ⟨hx, hb, hml, hown, hts⟩, hK, hA, hi, rfl⟩ := r
  exact fun H locs ls hP hD hS hl => va_cald hx hb hK.1 hP q0 2 ha rfl hin hd (kk H locs ls hP hD hS hl)
theorem Rl.iast (r : Rl E own cc R nL ini V) (q0 : Nat) {a N : Nat} {f : Nat → Int32} {i x : Int32} {ws' : va_W} (ha : ws[q0]? = some (a, .inl (xI E, N, .inl f))) (hin : vp_in i N) (hw : ws.set q0 (a, .inl (xI E, N, .inl (upd f i.toNatClampNeg x))) = ws') (hd : decode cc pc = .ok (.iastore, 1)) (kk : V k n (pc + 1) lo st ws') : V k n pc lo (.int x :: .int i :: .ref a :: st) ws := by
  obtain ⟨p, e, s, m, args, below, meth, c, A, Q, ⟨hx, hb, hml, hown, hts⟩, hK, hA, hi, rfl⟩ := r
  subst hw
  exact fun H locs ls hP hD hS hl => va_iast hx hb hK.1 hP hD hS q0 0 ha rfl hin hd (fun H1 l1 hP hD hS => kk H1 l1 ls hP hD hS hl)
theorem Rl.zast (r : Rl E own cc R nL ini V) (q0 : Nat) {a N : Nat} {f : Nat → Int32} {i x : Int32} {ws' : va_W} (ha : ws[q0]? = some (a, .inl (xZ E, N, .inl f))) (hin : vp_in i N) (hw : ws.set q0 (a, .inl (xZ E, N, .inl (upd f i.toNatClampNeg (vp_nar .boolean x)))) = ws') (hd : decode cc pc = .ok (.bastore, 1)) (kk : V k n (pc + 1) lo st ws') : V k n pc lo (.int x :: .int i :: .ref a :: st) ws := by
  obtain ⟨p, e, s, m, args, below, meth, c, A, Q, ⟨hx, hb, hml, hown, hts⟩, hK, hA, hi, rfl⟩ := r
  subst hw
  exact fun H locs ls hP hD hS hl => va_zast hx hb hK.1 hP hD hS q0 1 ha rfl hin hd (fun H1 l1 hP hD hS => kk H1 l1 ls hP hD hS hl)
theorem Rl.cast (r : Rl E own cc R nL ini V) (q0 : Nat) {a N : Nat} {f : Nat → Int32} {i x : Int32} {ws' : va_W} (ha : ws[q0]? = some (a, .inl (xC E, N, .inl f))) (hin : vp_in i N) (hw : ws.set q0 (a, .inl (xC E, N, .inl (upd f i.toNatClampNeg (vp_nar .char x)))) = ws') (hd : decode cc pc = .ok (.castore, 1)) (kk : V k n (pc + 1) lo st ws') : V k n pc lo (.int x :: .int i :: .ref a :: st) ws := by
  obtain ⟨p, e, s, m, args, below, meth, c, A, Q, ⟨hx, hb, hml, hown, hts⟩, hK, hA, hi, rfl⟩ := r
  subst hw
  exact fun H locs ls hP hD hS hl => va_cast hx hb hK.1 hP hD hS q0 2 ha rfl hin hd (fun H1 l1 hP hD hS => kk H1 l1 ls hP hD hS hl)
theorem Rl.aald (r : Rl E own cc R nL ini V) (q0 : Nat) {a N b : Nat} {f : Nat → Option Nat} {i : Int32} (ha : ws[q0]? = some (a, .inl (xO E, N, .inr (.inr (.inr (.inr f)))))) (hin : vp_in i N) (hf : f i.toNatClampNeg = some b) (hd : decode cc pc = .ok (.aaload, 1)) (kk : V k n (pc + 1) lo (.ref b :: st) ws) : V k n pc lo (.int i :: .ref a :: st) ws := by
  obtain ⟨p, e, s, m, args, below, meth, c, A, Q, ⟨hx, hb, hml, hown, hts⟩, hK, hA, hi, rfl⟩ := r
  exact fun H locs ls hP hD hS hl => va_aldq hx hb hK.1 hP q0 3 ha rfl hin hd (by rw [hf]; exact kk H locs ls hP hD hS hl)
theorem Rl.aast (r : Rl E own cc R nL ini V) (q0 qk : Nat) {a N v : Nat} {f : Nat → Option Nat} {vs : List Value} {i : Int32} {ws' : va_W} (ha : ws[q0]? = some (a, .inl (xO E, N, .inr (.inr (.inr (.inr f)))))) (hv : ws[qk]? = some (v, .inr (6, vs))) (hin : vp_in i N) (hw : ws.set q0 (a, .inl (xO E, N, .inr (.inr (.inr (.inr (va_up f i.toNatClampNeg (some v))))))) = ws') (hd : decode cc pc = .ok (.aastore, 1)) (kk : V k n (pc + 1) lo st ws') : V k n pc lo (.ref v :: .int i :: .ref a :: st) ws := by
  obtain ⟨p, e, s, m, args, below, meth, c, A, Q, ⟨hx, hb, hml, hown, hts⟩, hK, hA, hi, rfl⟩ := r
  subst hw
  exact fun H locs ls hP hD hS hl => va_astq (r := (RX6, TX6, 6)) hx hb hK.1 hP hD hS q0 3 qk 6 ha rfl hv rfl hin hd (fun H1 l1 hP hD hS => kk H1 l1 ls hP hD hS hl)
theorem Rl.newc (r : Rl E own cc R nL ini V) {C : String} {T : u_T} {N ci : Nat} {ty : Nat → FieldType} (K : xKl C T N ci ty) {idx : Nat} (h1 : Cond.classLink own idx C ∈ gw) (h2 : Cond.instantiable C N ∈ gw) (h3 : Cond.initialized C ∈ gw) (fs : List Value) (hfs : ∀ j, j < N → defaultValue (ty j) = vp_V fs j) (hc : k + 1 ≤ R.cells) (hs : n + N ≤ R.slots) (hd : decode cc pc = .ok (.new idx, 3)) (kk : ∀ q : Nat, V (k + 1) (n + N) (pc + 3) lo (.ref q :: st) (ws ++ [(q, .inr (ci, fs))])) : V k n pc lo st ws := by
  obtain ⟨p, e, s, m, args, below, meth, c, A, Q, ⟨hx, hb, hml, hown, hts⟩, hK, hA, hi, rfl⟩ := r
  exact fun H locs ls hP hD hS hl => va_new hx hb hts K.1 ty K.2.2.1 hown (hts _ h1) (hts _ h2) (hts _ h3) hK.1 hP hD hS hA K.2.1 hfs hc hs hd (fun q H1 hP hD hS => kk q H1 locs ls hP hD hS hl)
theorem Rl.newI (r : Rl E own cc R nL ini V) (hw : Cond.arrayClass .int ∈ gw) {x : Int32} {N : Nat} (hn : ¬ x < 0) (hN : x.toNatClampNeg = N) (hby : N * 4 ≤ 536870912) (hc : k + 1 ≤ R.cells) (hs : n + N ≤ R.slots) (hd : decode cc pc = .ok (.newarray .int, 2)) (kk : ∀ q : Nat, V (k + 1) (n + N) (pc + 2) lo (.ref q :: st) (ws ++ [(q, .inl (xI E, N, .inl (fun _ => 0)))])) : V k n pc lo (.int x :: st) ws := by
  obtain ⟨p, e, s, m, args, below, meth, c, A, Q, ⟨hx, hb, hml, hown, hts⟩, hK, hA, hi, rfl⟩ := r
  intro H locs ls hP hD hS hl
  refine va_newa (atype := .int) (ty := .int) hx hb (hts _ hw) rfl hK.1 hP hD hS hA (a0 := (N, .inl (fun _ => 0))) (fun _ => rfl) hn hN hby hc hs hd (fun q cA H1 hK1 hP hD hS => ?_)
  have h1 := (hK1.2 4 (cA, .int) rfl).2
  have h2 := (hK.1.2 0 (xI E, .int) rfl).2
  have e : cA = xI E := Option.some.inj (h1.symm.trans h2)
  subst e
  exact kk q H1 locs ls hP hD hS hl
theorem Rl.newZ (r : Rl E own cc R nL ini V) (hw : Cond.arrayClass .boolean ∈ gw) {x : Int32} {N : Nat} (hn : ¬ x < 0) (hN : x.toNatClampNeg = N) (hby : N * 1 ≤ 536870912) (hc : k + 1 ≤ R.cells) (hs : n + N ≤ R.slots) (hd : decode cc pc = .ok (.newarray .boolean, 2)) (kk : ∀ q : Nat, V (k + 1) (n + N) (pc + 2) lo (.ref q :: st) (ws ++ [(q, .inl (xZ E, N, .inl (fun _ => 0)))])) : V k n pc lo (.int x :: st) ws := by
  obtain ⟨p, e, s, m, args, below, meth, c, A, Q, ⟨hx, hb, hml, hown, hts⟩, hK, hA, hi, rfl⟩ := r
  intro H locs ls hP hD hS hl
  refine va_newa (atype := .boolean) (ty := .boolean) hx hb (hts _ hw) rfl hK.1 hP hD hS hA (a0 := (N, .inl (fun _ => 0))) (fun _ => rfl) hn hN hby hc hs hd (fun q cA H1 hK1 hP hD hS => ?_)
  have h1 := (hK1.2 4 (cA, .boolean) rfl).2
  have h2 := (hK.1.2 1 (xZ E, .boolean) rfl).2
  have e : cA = xZ E := Option.some.inj (h1.symm.trans h2)
  subst e
  exact kk q H1 locs ls hP hD hS hl
theorem Rl.newC (r : Rl E own cc R nL ini V) (hw : Cond.arrayClass .char ∈ gw) {x : Int32} {N : Nat} (hn : ¬ x < 0) (hN : x.toNatClampNeg = N) (hby : N * 2 ≤ 536870912) (hc : k + 1 ≤ R.cells) (hs : n + N ≤ R.slots) (hd : decode cc pc = .ok (.newarray .char, 2)) (kk : ∀ q : Nat, V (k + 1) (n + N) (pc + 2) lo (.ref q :: st) (ws ++ [(q, .inl (xC E, N, .inl (fun _ => 0)))])) : V k n pc lo (.int x :: st) ws := by
  obtain ⟨p, e, s, m, args, below, meth, c, A, Q, ⟨hx, hb, hml, hown, hts⟩, hK, hA, hi, rfl⟩ := r
  intro H locs ls hP hD hS hl
  refine va_newa (atype := .char) (ty := .char) hx hb (hts _ hw) rfl hK.1 hP hD hS hA (a0 := (N, .inl (fun _ => 0))) (fun _ => rfl) hn hN hby hc hs hd (fun q cA H1 hK1 hP hD hS => ?_)
  have h1 := (hK1.2 4 (cA, .char) rfl).2
  have h2 := (hK.1.2 2 (xC E, .char) rfl).2
  have e : cA = xC E := Option.some.inj (h1.symm.trans h2)
  subst e
  exact kk q H1 locs ls hP hD hS hl
theorem Rl.newO (r : Rl E own cc R nL ini V) {idx : Nat} (h1 : Cond.classLink own idx RX6 ∈ gw) {x : Int32} {N : Nat} (hn : ¬ x < 0) (hN : x.toNatClampNeg = N) (hby : N * 4 ≤ 536870912) (hc : k + 1 ≤ R.cells) (hs : n + N ≤ R.slots) (hd : decode cc pc = .ok (.anewarray idx, 3)) (kk : ∀ q : Nat, V (k + 1) (n + N) (pc + 3) lo (.ref q :: st) (ws ++ [(q, .inl (xO E, N, .inr (.inr (.inr (.inr (fun _ => none))))))])) : V k n pc lo (.int x :: st) ws := by
  obtain ⟨p, e, s, m, args, below, meth, c, A, Q, ⟨hx, hb, hml, hown, hts⟩, hK, hA, hi, rfl⟩ := r
  intro H locs ls hP hD hS hl
  refine va_newq hx hb hown (hts _ h1) hK.2.2.2 hK.1 hP hD hS hA hn hN hby hc hs hd (fun q cA H1 hK1 hP hD hS => ?_)
  obtain ⟨_, _, _, _, _, h1⟩ := (hK1.2 4 (cA, .object RX6) rfl).2
  obtain ⟨_, _, _, _, _, h2⟩ := (hK.1.2 3 (xO E, .object RX6) rfl).2
  have e : cA = xO E := Option.some.inj (h1.symm.trans h2)
  subst e
  exact kk q H1 locs ls hP hD hS hl
theorem Rl.callSI (r : Rl E own cc R nL ini V) {S : Type} {idx : Nat} {y : MethodName} {ccy : ByteArray} {nLy : Nat} {rt : FieldType} {d mc ms : Nat} {As rest : List Value} {wc : va_W} {rr : S → Int32} {w1 : S → va_W} {na : Nat} (hM : xMI (S := S) E y ccy nLy rt d mc ms As wc rr w1) (g : xCS own idx y ccy nLy (some rt) na) (hn : As.length = na) (hd : decode cc pc = .ok (.invokestatic idx, 3)) (hst : st = As.reverse ++ rest) (hR : d + 1 ≤ R.frames ∧ 8 + (nLy + 11) + 30 * d ≤ R.locals) (hcs : k + mc ≤ R.cells ∧ n + ms ≤ R.slots) (hrm : (rest.map fun v => v.category).sum ≤ 8) (isC isR : List Nat) (hC : isC.map (fun i => ws[i]?) = wc.map some) (hRr : isR.all (fun i => decide (i < ws.length)) = true) (hnC : va_nd isC = true) (hnR : va_nd isR = true) (hdis : ∀ i ∈ isR, i ∉ isC) (pm : List Nat) (hnP : va_nd pm = true) {ws2 : S → va_W} (hws2 : ∀ u, pm.map (fun i => (xpick ws isR ++ w1 u)[i]?) = (ws2 u).map some) (kk : ∀ u : S, V (k + mc) (n + ms) (pc + 3) lo (.int (rr u) :: rest) (ws2 u)) : V k n pc lo st ws := by
  obtain ⟨p, e, s, m, args, below, meth, c, A, Q, ⟨hx, hb, hml, hown, hts⟩, hK, hA, hi, rfl⟩ := r
  intro H locs ls hP hD hS hl
  subst hst
  have hPc := xP_sub hP isC hC
  have hDc := hD.sub isC hnC hC
  have hFc := va_free (wc := wc) hD hS hA isC hC
  refine va_calli (va_runS (As := As) (rest := rest) ⟨hx, hb, hml, hown, hts⟩ (hM H.size) (⟨callB_of (rm := xR d mc ms) na hts (fun w h => (List.mem_cons.mp h).elim (fun e => by rw [e]; exact gw_good _ g.2.2.2.1) (gw_good w)) rfl rfl rfl (hts _ g.2.2.1) (hts _ g.1) g.2.2.2.2 hR, hts _ g.2.1⟩) ⟨fun a U g mk q => by obtain ⟨q0, q1, qP, qK, qD⟩ := q; exact ⟨q0, q1, qP, qK.calling, qD⟩, fun U hU hW => ⟨rfl, by rw [hU], by rw [hU]; exact hPc, xK.warm hW hK, hDc.weaken (fun _ _ _ _ => trivial)⟩⟩ rfl hn hl.1 rfl (lv_room hrm) hd hcs) hS (fun q _ h => hFc q h) hFc (fun r_ u t H1 locs1 ht hvm hw hB hz1 hk1 hS1 => ?_)
  subst hw
  obtain ⟨hP1, hD1⟩ := hB
  rw [ht] at hP1
  obtain ⟨hP2, hD2⟩ := va_join hP hD isC isR hC (xpick_e hRr) hnR hdis hk1 hFc hP1 hD1
  exact kk u H1 locs1 ls (xP_sub hP2 pm (hws2 u)) (hD2.sub pm hnP (hws2 u)) hS1 hl
theorem Rl.callSV (r : Rl E own cc R nL ini V) {S : Type} {idx : Nat} {y : MethodName} {ccy : ByteArray} {nLy : Nat} {d mc ms : Nat} {As rest : List Value} {wc : va_W} {w1 : S → va_W} {na : Nat} (hM : xMV (S := S) E y ccy nLy d mc ms As wc w1) (g : xCS own idx y ccy nLy none na) (hn : As.length = na) (hd : decode cc pc = .ok (.invokestatic idx, 3)) (hst : st = As.reverse ++ rest) (hR : d + 1 ≤ R.frames ∧ 8 + (nLy + 11) + 30 * d ≤ R.locals) (hcs : k + mc ≤ R.cells ∧ n + ms ≤ R.slots) (hrm : (rest.map fun v => v.category).sum ≤ 8) (isC isR : List Nat) (hC : isC.map (fun i => ws[i]?) = wc.map some) (hRr : isR.all (fun i => decide (i < ws.length)) = true) (hnC : va_nd isC = true) (hnR : va_nd isR = true) (hdis : ∀ i ∈ isR, i ∉ isC) (pm : List Nat) (hnP : va_nd pm = true) {ws2 : S → va_W} (hws2 : ∀ u, pm.map (fun i => (xpick ws isR ++ w1 u)[i]?) = (ws2 u).map some) (kk : ∀ u : S, V (k + mc) (n + ms) (pc + 3) lo rest (ws2 u)) : V k n pc lo st ws := by
  obtain ⟨p, e, s, m, args, below, meth, c, A, Q, ⟨hx, hb, hml, hown, hts⟩, hK, hA, hi, rfl⟩ := r
  intro H locs ls hP hD hS hl
  subst hst
  have hPc := xP_sub hP isC hC
  have hDc := hD.sub isC hnC hC
  have hFc := va_free (wc := wc) hD hS hA isC hC
  refine va_callv (va_runS (As := As) (rest := rest) ⟨hx, hb, hml, hown, hts⟩ (hM H.size) (⟨callB_of (rm := xR d mc ms) na hts (fun w h => (List.mem_cons.mp h).elim (fun e => by rw [e]; exact gw_good _ g.2.2.2.1) (gw_good w)) rfl rfl rfl (hts _ g.2.2.1) (hts _ g.1) g.2.2.2.2 hR, hts _ g.2.1⟩) ⟨fun a U g mk q => by obtain ⟨q0, q1, qP, qK, qD⟩ := q; exact ⟨q0, q1, qP, qK.calling, qD⟩, fun U hU hW => ⟨rfl, by rw [hU], by rw [hU]; exact hPc, xK.warm hW hK, hDc.weaken (fun _ _ _ _ => trivial)⟩⟩ rfl hn hl.1 rfl (lv_room hrm) hd hcs) hS (fun q _ h => hFc q h) hFc (fun u t H1 locs1 ht hvm hw hB hz1 hk1 hS1 => ?_)
  obtain ⟨hP1, hD1⟩ := hB
  rw [ht] at hP1
  obtain ⟨hP2, hD2⟩ := va_join hP hD isC isR hC (xpick_e hRr) hnR hdis hk1 hFc hP1 hD1
  exact kk u H1 locs1 ls (xP_sub hP2 pm (hws2 u)) (hD2.sub pm hnP (hws2 u)) hS1 hl
theorem Rl.callVI (r : Rl E own cc R nL ini V) {S : Type} {idx : Nat} {y : MethodName} {ccy : ByteArray} {nLy : Nat} {rt : FieldType} {d mc ms : Nat} {As rest : List Value} {wc : va_W} {rr : S → Int32} {w1 : S → va_W} {na : Nat} {b ci : Nat} {fs : List Value} {N : Nat} {T : u_T} (j : Nat) (hj : wc[j]? = some (b, .inr (ci, fs))) (hcl : vwCl[ci]? = some (y.cls, T, N)) (hM : xMI (S := S) E y ccy nLy rt d mc ms (.ref b :: As) wc rr w1) (g : xCV own idx y ccy nLy (some rt) na) (hn : As.length = na) (hd : decode cc pc = .ok (.invokevirtual idx, 3)) (hst : st = As.reverse ++ .ref b :: rest) (hR : d + 1 ≤ R.frames ∧ 8 + (nLy + 11) + 30 * d ≤ R.locals) (hcs : k + mc ≤ R.cells ∧ n + ms ≤ R.slots) (hrm : (rest.map fun v => v.category).sum ≤ 8) (isC isR : List Nat) (hC : isC.map (fun i => ws[i]?) = wc.map some) (hRr : isR.all (fun i => decide (i < ws.length)) = true) (hnC : va_nd isC = true) (hnR : va_nd isR = true) (hdis : ∀ i ∈ isR, i ∉ isC) (pm : List Nat) (hnP : va_nd pm = true) {ws2 : S → va_W} (hws2 : ∀ u, pm.map (fun i => (xpick ws isR ++ w1 u)[i]?) = (ws2 u).map some) (kk : ∀ u : S, V (k + mc) (n + ms) (pc + 3) lo (.int (rr u) :: rest) (ws2 u)) : V k n pc lo st ws := by
  obtain ⟨p, e, s, m, args, below, meth, c, A, Q, ⟨hx, hb, hml, hown, hts⟩, hK, hA, hi, rfl⟩ := r
  intro H locs ls hP hD hS hl
  subst hst
  have hPc := xP_sub hP isC hC
  have hDc := hD.sub isC hnC hC
  have hFc := va_free (wc := wc) hD hS hA isC hC
  refine va_calli (va_runV (As := As) (rest := rest) ⟨hx, hb, hml, hown, hts⟩ (hM H.size) (⟨callB_of (rm := xR d mc ms) na hts (fun w h => (List.mem_cons.mp h).elim (fun e => by rw [e]; exact gw_good _ g.2.2.2.2.1) (gw_good w)) rfl rfl rfl (hts _ g.2.2.2.1) (hts _ g.1) g.2.2.2.2.2 hR, hts _ g.2.1, hts _ g.2.2.1⟩) ⟨fun a U g mk q => by obtain ⟨q0, q1, qP, qK, qD⟩ := q; exact ⟨q0, q1, qP, qK.calling, qD⟩, va_recv hK.1 hPc hcl hj, fun U hU hW => ⟨rfl, by rw [hU], by rw [hU]; exact hPc, xK.warm hW hK, hDc.weaken (fun _ _ _ _ => trivial)⟩⟩ rfl hn hl.1 rfl (lv_room hrm) hd hcs) hS (fun q _ h => hFc q h) hFc (fun r_ u t H1 locs1 ht hvm hw hB hz1 hk1 hS1 => ?_)
  subst hw
  obtain ⟨hP1, hD1⟩ := hB
  rw [ht] at hP1
  obtain ⟨hP2, hD2⟩ := va_join hP hD isC isR hC (xpick_e hRr) hnR hdis hk1 hFc hP1 hD1
  exact kk u H1 locs1 ls (xP_sub hP2 pm (hws2 u)) (hD2.sub pm hnP (hws2 u)) hS1 hl
theorem Rl.callVV (r : Rl E own cc R nL ini V) {S : Type} {idx : Nat} {y : MethodName} {ccy : ByteArray} {nLy : Nat} {d mc ms : Nat} {As rest : List Value} {wc : va_W} {w1 : S → va_W} {na : Nat} {b ci : Nat} {fs : List Value} {N : Nat} {T : u_T} (j : Nat) (hj : wc[j]? = some (b, .inr (ci, fs))) (hcl : vwCl[ci]? = some (y.cls, T, N)) (hM : xMV (S := S) E y ccy nLy d mc ms (.ref b :: As) wc w1) (g : xCV own idx y ccy nLy none na) (hn : As.length = na) (hd : decode cc pc = .ok (.invokevirtual idx, 3)) (hst : st = As.reverse ++ .ref b :: rest) (hR : d + 1 ≤ R.frames ∧ 8 + (nLy + 11) + 30 * d ≤ R.locals) (hcs : k + mc ≤ R.cells ∧ n + ms ≤ R.slots) (hrm : (rest.map fun v => v.category).sum ≤ 8) (isC isR : List Nat) (hC : isC.map (fun i => ws[i]?) = wc.map some) (hRr : isR.all (fun i => decide (i < ws.length)) = true) (hnC : va_nd isC = true) (hnR : va_nd isR = true) (hdis : ∀ i ∈ isR, i ∉ isC) (pm : List Nat) (hnP : va_nd pm = true) {ws2 : S → va_W} (hws2 : ∀ u, pm.map (fun i => (xpick ws isR ++ w1 u)[i]?) = (ws2 u).map some) (kk : ∀ u : S, V (k + mc) (n + ms) (pc + 3) lo rest (ws2 u)) : V k n pc lo st ws := by
  obtain ⟨p, e, s, m, args, below, meth, c, A, Q, ⟨hx, hb, hml, hown, hts⟩, hK, hA, hi, rfl⟩ := r
  intro H locs ls hP hD hS hl
  subst hst
  have hPc := xP_sub hP isC hC
  have hDc := hD.sub isC hnC hC
  have hFc := va_free (wc := wc) hD hS hA isC hC
  refine va_callv (va_runV (As := As) (rest := rest) ⟨hx, hb, hml, hown, hts⟩ (hM H.size) (⟨callB_of (rm := xR d mc ms) na hts (fun w h => (List.mem_cons.mp h).elim (fun e => by rw [e]; exact gw_good _ g.2.2.2.2.1) (gw_good w)) rfl rfl rfl (hts _ g.2.2.2.1) (hts _ g.1) g.2.2.2.2.2 hR, hts _ g.2.1, hts _ g.2.2.1⟩) ⟨fun a U g mk q => by obtain ⟨q0, q1, qP, qK, qD⟩ := q; exact ⟨q0, q1, qP, qK.calling, qD⟩, va_recv hK.1 hPc hcl hj, fun U hU hW => ⟨rfl, by rw [hU], by rw [hU]; exact hPc, xK.warm hW hK, hDc.weaken (fun _ _ _ _ => trivial)⟩⟩ rfl hn hl.1 rfl (lv_room hrm) hd hcs) hS (fun q _ h => hFc q h) hFc (fun u t H1 locs1 ht hvm hw hB hz1 hk1 hS1 => ?_)
  obtain ⟨hP1, hD1⟩ := hB
  rw [ht] at hP1
  obtain ⟨hP2, hD2⟩ := va_join hP hD isC isR hC (xpick_e hRr) hnR hdis hk1 hFc hP1 hD1
  exact kk u H1 locs1 ls (xP_sub hP2 pm (hws2 u)) (hD2.sub pm hnP (hws2 u)) hS1 hl
theorem Rl.callIV (r : Rl E own cc R nL ini V) {S : Type} {idx : Nat} {y : MethodName} {ccy : ByteArray} {nLy : Nat} {d mc ms : Nat} {As rest : List Value} {wc : va_W} {w1 : S → va_W} {na : Nat} {b : Nat} (hM : xMV (S := S) E y ccy nLy d mc ms (.ref b :: As) wc w1) (g : xCI own idx y ccy nLy na) (hn : As.length = na) (hd : decode cc pc = .ok (.invokespecial idx, 3)) (hst : st = As.reverse ++ .ref b :: rest) (hR : d + 1 ≤ R.frames ∧ 8 + (nLy + 11) + 30 * d ≤ R.locals) (hcs : k + mc ≤ R.cells ∧ n + ms ≤ R.slots) (hrm : (rest.map fun v => v.category).sum ≤ 8) (isC isR : List Nat) (hC : isC.map (fun i => ws[i]?) = wc.map some) (hRr : isR.all (fun i => decide (i < ws.length)) = true) (hnC : va_nd isC = true) (hnR : va_nd isR = true) (hdis : ∀ i ∈ isR, i ∉ isC) (pm : List Nat) (hnP : va_nd pm = true) {ws2 : S → va_W} (hws2 : ∀ u, pm.map (fun i => (xpick ws isR ++ w1 u)[i]?) = (ws2 u).map some) (kk : ∀ u : S, V (k + mc) (n + ms) (pc + 3) lo rest (ws2 u)) : V k n pc lo st ws := by
  obtain ⟨p, e, s, m, args, below, meth, c, A, Q, ⟨hx, hb, hml, hown, hts⟩, hK, hA, hi, rfl⟩ := r
  intro H locs ls hP hD hS hl
  subst hst
  have hPc := xP_sub hP isC hC
  have hDc := hD.sub isC hnC hC
  have hFc := va_free (wc := wc) hD hS hA isC hC
  refine va_callv (va_runI (As := As) (rest := rest) ⟨hx, hb, hml, hown, hts⟩ (hM H.size) (⟨callB_of (rm := xR d mc ms) na hts (fun w h => (List.mem_cons.mp h).elim (fun e => by rw [e]; exact gw_good _ g.2.2.2.1) (gw_good w)) rfl rfl rfl (hts _ g.2.2.1) (hts _ g.1) g.2.2.2.2.2 hR, g.2.2.2.2.1, hts _ g.2.1⟩) ⟨fun a U g mk q => by obtain ⟨q0, q1, qP, qK, qD⟩ := q; exact ⟨q0, q1, qP, qK.calling, qD⟩, fun U hU hW => ⟨rfl, by rw [hU], by rw [hU]; exact hPc, xK.warm hW hK, hDc.weaken (fun _ _ _ _ => trivial)⟩⟩ rfl hn hl.1 rfl (lv_room hrm) hd hcs) hS (fun q _ h => hFc q h) hFc (fun u t H1 locs1 ht hvm hw hB hz1 hk1 hS1 => ?_)
  obtain ⟨hP1, hD1⟩ := hB
  rw [ht] at hP1
  obtain ⟨hP2, hD2⟩ := va_join hP hD isC isR hC (xpick_e hRr) hnR hdis hk1 hFc hP1 hD1
  exact kk u H1 locs1 ls (xP_sub hP2 pm (hws2 u)) (hD2.sub pm hnP (hws2 u)) hS1 hl
theorem Rl.callNV (r : Rl E own cc R nL ini V) {S : Type} {idx : Nat} {y : MethodName} {ccy : ByteArray} {nLy : Nat} {d mc ms : Nat} {As rest : List Value} {wc : va_W} {w1 : S → va_W} {na : Nat} {b : Nat} {host : String} (hlk : ∀ (_ : Program) (s : State), xK E s → va_Nw (.methodLinkNest own idx y host) s) (hM : xMV (S := S) E y ccy nLy d mc ms (.ref b :: As) wc w1) (g : xCN y ccy nLy na) (hn : As.length = na) (hd : decode cc pc = .ok (.invokespecial idx, 3)) (hst : st = As.reverse ++ .ref b :: rest) (hR : d + 1 ≤ R.frames ∧ 8 + (nLy + 11) + 30 * d ≤ R.locals) (hcs : k + mc ≤ R.cells ∧ n + ms ≤ R.slots) (hrm : (rest.map fun v => v.category).sum ≤ 8) (isC isR : List Nat) (hC : isC.map (fun i => ws[i]?) = wc.map some) (hRr : isR.all (fun i => decide (i < ws.length)) = true) (hnC : va_nd isC = true) (hnR : va_nd isR = true) (hdis : ∀ i ∈ isR, i ∉ isC) (pm : List Nat) (hnP : va_nd pm = true) {ws2 : S → va_W} (hws2 : ∀ u, pm.map (fun i => (xpick ws isR ++ w1 u)[i]?) = (ws2 u).map some) (kk : ∀ u : S, V (k + mc) (n + ms) (pc + 3) lo rest (ws2 u)) : V k n pc lo st ws := by
  obtain ⟨p, e, s, m, args, below, meth, c, A, Q, ⟨hx, hb, hml, hown, hts⟩, hK, hA, hi, rfl⟩ := r
  intro H locs ls hP hD hS hl
  subst hst
  have hPc := xP_sub hP isC hC
  have hDc := hD.sub isC hnC hC
  have hFc := va_free (wc := wc) hD hS hA isC hC
  refine va_callv (va_runIN (As := As) (rest := rest) ⟨hx, hb, hml, hown, hts⟩ (hM H.size) (⟨va_cnB (rm := xR d mc ms) na hts (fun w h => (List.mem_cons.mp h).elim (fun e => by rw [e]; exact gw_good _ g.2.2.1) (gw_good w)) rfl rfl rfl (hlk p s hK) (hts _ g.2.1) g.2.2.2.2 hR, g.2.2.2.1, hts _ g.1⟩) ⟨fun a U g mk q => by obtain ⟨q0, q1, qP, qK, qD⟩ := q; exact ⟨q0, q1, qP, qK.calling, qD⟩, fun U hU hW => ⟨rfl, by rw [hU], by rw [hU]; exact hPc, xK.warm hW hK, hDc.weaken (fun _ _ _ _ => trivial)⟩⟩ rfl hn hl.1 rfl (lv_room hrm) hd hcs) hS (fun q _ h => hFc q h) hFc (fun u t H1 locs1 ht hvm hw hB hz1 hk1 hS1 => ?_)
  obtain ⟨hP1, hD1⟩ := hB
  rw [ht] at hP1
  obtain ⟨hP2, hD2⟩ := va_join hP hD isC isR hC (xpick_e hRr) hnR hdis hk1 hFc hP1 hD1
  exact kk u H1 locs1 ls (xP_sub hP2 pm (hws2 u)) (hD2.sub pm hnP (hws2 u)) hS1 hl
end RL
end
section
abbrev Mem : Type := Nat → Nat → Int32
def mset (h : Mem) (r : Nat) (f : Nat → Int32) : Mem := fun j => if j = r then f else h j
def mgs (h : Mem) (l : List Nat) (g : Mem) : Mem := fun j => if l.contains j then g j else h j
theorem xno {α : Type} {o : α} {P : Prop} (h : (none : Option α) = some o) : P := nomatch h
abbrev oX8 (a : Nat → Nat) : va_E := .inr (8, [.ref (a 1), .ref (a 9), .ref (a 13), .ref (a 15), .ref (a 20), .ref (a 21), .ref (a 22), .ref (a 23), .ref (a 25), .ref (a 27), .ref (a 30)])
abbrev oX3 (a : Nat → Nat) : va_E := .inr (3, [.ref (a 2), .ref (a 3), .ref (a 4), .ref (a 5), .ref (a 6), .ref (a 7), .ref (a 8)])
abbrev oX0 (a : Nat → Nat) (c : Nat → Int32) : va_E := .inr (0, [.ref (a 1), .ref (a 10), .ref (a 11), .ref (a 12), .int (c 4), .int (c 5), .int (c 6), .int (c 7), .int (c 8)])
abbrev oX1 (a : Nat → Nat) (c : Nat → Int32) : va_E := .inr (1, [.ref (a 1), .ref (a 14), .int (c 2), .int (c 3)])
abbrev oX7 (a : Nat → Nat) (c : Nat → Int32) : va_E := .inr (7, [.ref (a 1), .ref (a 9), .ref (a 13), .ref (a 16), .ref (a 17), .ref (a 18), .ref (a 19), .int (c 7)])
abbrev oX2 (a : Nat → Nat) : va_E := .inr (2, [.ref (a 1), .ref (a 9)])
abbrev oX6 (c : Nat → Int32) : va_E := .inr (6, [.int (c 0), .int (c 1), .int (c 2), .int (c 3), .int (c 4), .int (c 5)])
abbrev oX4 (a : Nat → Nat) (c : Nat → Int32) : va_E := .inr (4, [.ref (a 24), .int (c 1)])
abbrev oX5 (a : Nat → Nat) (c : Nat → Int32) : va_E := .inr (5, [.ref (a 26), .int (c 1)])
abbrev oX9 (a : Nat → Nat) (c : Nat → Int32) : va_E := .inr (9, [.ref (a 32), .ref (a 33), .int (c 2), .int (c 3), .ref (a 34), .ref (a 35), .ref (a 36), .ref (a 37), .ref (a 38), .ref (a 39), .ref (a 40), .ref (a 41), .int (c 12), .ref (a 42), .ref (a 43), .ref (a 44), .int (c 16), .int (c 17), .int (c 18), .ref (a 45), .int (c 20)])
abbrev aI (E : xE) (n : Nat) (f : Nat → Int32) : va_E := .inl (xI E, n, .inl f)
abbrev aZ (E : xE) (n : Nat) (f : Nat → Int32) : va_E := .inl (xZ E, n, .inl f)
abbrev aC (E : xE) (n : Nat) (f : Nat → Int32) : va_E := .inl (xC E, n, .inl f)
abbrev xsl (a : Nat → Nat) : Nat → Option Nat := fun i => if i = 0 then some (a 28) else if i = 1 then some (a 29) else none
section RL0
variable {E : xE} {own : String} {cc : ByteArray} {R : Room} {nL : Nat} {ini : Bool} {V : xVT} {k n pc : Nat} {lo : xLo} {st : List Value} {ws : va_W}
theorem xr_pick (ws : va_W) : xpick ws (List.range ws.length) = ws := by
  unfold xpick
  apply List.ext_getElem
  · simp
  · intro i h1 h2
    simp [List.getElem?_eq_getElem h2]
theorem xr_all (ws : va_W) : (List.range ws.length).map (fun i => ws[i]?) = ws.map some := by
  apply List.ext_getElem
  · simp
  · intro i h1 h2
    simp at h1
    simp [List.getElem?_eq_getElem h1]
theorem xr_nd : ∀ l : List Nat, l.Nodup → va_nd l = true := by
  intro l
  induction l with
  | nil => intro _; rfl
  | cons a l ih =>
    intro h
    have h2 := List.nodup_cons.mp h
    simp [va_nd, h2.1, ih h2.2]
theorem Rl.callSI0 (r : Rl E own cc R nL ini V) {idx : Nat} {y : MethodName} {ccy : ByteArray} {nLy : Nat} {rt : FieldType} {d : Nat} {As rest : List Value} {v : Int32} {na : Nat} (hM : xMI (S := Unit) E y ccy nLy rt d 0 0 As [] (fun _ => v) (fun _ => [])) (g : xCS own idx y ccy nLy (some rt) na) (hn : As.length = na) (hd : decode cc pc = .ok (.invokestatic idx, 3)) (hst : st = As.reverse ++ rest) (hR : d + 1 ≤ R.frames ∧ 8 + (nLy + 11) + 30 * d ≤ R.locals) (hrm : (rest.map fun v => v.category).sum ≤ 8) (kk : V k n (pc + 3) lo (.int v :: rest) ws) (hc : k ≤ R.cells ∧ n ≤ R.slots := by exact ⟨Nat.le_of_ble_eq_true rfl, Nat.le_of_ble_eq_true rfl⟩) : V k n pc lo st ws :=
  r.callSI hM g hn hd hst hR hc hrm [] (List.range ws.length) rfl (by simp) rfl (xr_nd _ List.nodup_range) (fun _ _ h => nomatch h) (List.range ws.length) (xr_nd _ List.nodup_range) (ws2 := fun _ => ws) (fun _ => by rw [List.append_nil, xr_pick]; exact xr_all ws) (fun _ => kk)
theorem Rl.callSV0 (r : Rl E own cc R nL ini V) {idx : Nat} {y : MethodName} {ccy : ByteArray} {nLy : Nat} {d : Nat} {As rest : List Value} {na : Nat} (hM : xMV (S := Unit) E y ccy nLy d 0 0 As [] (fun _ => [])) (g : xCS own idx y ccy nLy none na) (hn : As.length = na) (hd : decode cc pc = .ok (.invokestatic idx, 3)) (hst : st = As.reverse ++ rest) (hR : d + 1 ≤ R.frames ∧ 8 + (nLy + 11) + 30 * d ≤ R.locals) (hrm : (rest.map fun v => v.category).sum ≤ 8) (kk : V k n (pc + 3) lo rest ws) (hc : k ≤ R.cells ∧ n ≤ R.slots := by exact ⟨Nat.le_of_ble_eq_true rfl, Nat.le_of_ble_eq_true rfl⟩) : V k n pc lo st ws :=
  r.callSV hM g hn hd hst hR hc hrm [] (List.range ws.length) rfl (by simp) rfl (xr_nd _ List.nodup_range) (fun _ _ h => nomatch h) (List.range ws.length) (xr_nd _ List.nodup_range) (ws2 := fun _ => ws) (fun _ => by rw [List.append_nil, xr_pick]; exact xr_all ws) (fun _ => kk)
end RL0
section RLW
variable {E : xE} {own : String} {cc : ByteArray} {R : Room} {nL : Nat} {ini : Bool} {V : xVT} {k n pc : Nat} {lo : xLo} {st : List Value} {ws : va_W}
theorem Rl.pmw (r : Rl E own cc R nL ini V) {ws' : va_W} (is : List Nat) (hn : va_nd is = true) (h : is.map (fun i => ws[i]?) = ws'.map some) (kk : V k n pc lo st ws') : V k n pc lo st ws := by
  obtain ⟨p, e, s, m, args, below, meth, c, A, Q, ⟨hx, hb, hml, hown, hts⟩, hK, hA, hi, rfl⟩ := r
  exact fun H locs ls hP hD hS hl => kk H locs ls (xP_sub hP is h) (hD.sub is hn h) hS hl
theorem Rl.weq (_ : Rl E own cc R nL ini V) {ws' : va_W} (h : ws = ws') (kk : V k n pc lo st ws') : V k n pc lo st ws := h ▸ kk
end RLW
def xad (l : List (Nat × Nat)) : Nat → Nat := fun k => (l.lookup k).getD 0
def xz0 : Mem := fun _ _ => 0
def xt_J9_abs_0f7a4 (x0 : Int32) : Option (Int32) := (if 0 ≤ x0 then (some x0) else (some (-x0)))
def xt_X3_far (x0 : Int32) (x1 : Int32) : Option (Int32) := (Option.bind (xt_J9_abs_0f7a4 ((x0 / (4 : Int32)) - (x1 / (4 : Int32)))) (fun (o_1 : Int32) => (Option.bind (xt_J9_abs_0f7a4 ((x0 - x0 / (4 : Int32) * (4 : Int32)) - (x1 - x1 / (4 : Int32) * (4 : Int32)))) (fun (o_2 : Int32) => (some (o_1 + o_2))))))
def xt_X3_fillSteps_l10 (x1 : Int32) (hM : Mem) (k : Mem → Option (Mem)) : Nat → Int32 → Mem → Option (Mem)
  | 0, _, _ => none
  | n + 1, v2, mM => (if (16 : Int32) ≤ v2 then (k (mgs hM [2, 3] mM)) else (Option.bind (xt_X3_far x1 v2) (fun (o_1 : Int32) => (if o_1 = (1 : Int32) then (xgd x1 16 (xgd x1 16 (xt_X3_fillSteps_l10 x1 hM k n (v2 + (1 : Int32)) (mgs (mset hM 2 (upd (mM 2) x1.toNatClampNeg (((mM 2) x1.toNatClampNeg) ||| ((1 : Int32) <<< (v2 &&& 31))))) [3] mM)))) else (if o_1 = (2 : Int32) then (if (x1 / (4 : Int32)) = (v2 / (4 : Int32)) then (xt_X3_fillSteps_l10 x1 hM k n (v2 + (1 : Int32)) (mgs hM [2, 3] mM)) else (if (x1 - x1 / (4 : Int32) * (4 : Int32)) = (v2 - v2 / (4 : Int32) * (4 : Int32)) then (xt_X3_fillSteps_l10 x1 hM k n (v2 + (1 : Int32)) (mgs hM [2, 3] mM)) else (xgd x1 16 (xgd x1 16 (xt_X3_fillSteps_l10 x1 hM k n (v2 + (1 : Int32)) (mgs (mset hM 3 (upd (mM 3) x1.toNatClampNeg (((mM 3) x1.toNatClampNeg) ||| ((1 : Int32) <<< (v2 &&& 31))))) [2] mM)))))) else (xt_X3_fillSteps_l10 x1 hM k n (v2 + (1 : Int32)) (mgs hM [2, 3] mM)))))))
def xt_X3_fillSteps_l2 (hM : Mem) (k : Mem → Option (Mem)) : Nat → Int32 → Mem → Option (Mem)
  | 0, _, _ => none
  | n + 1, v1, mM => (if (16 : Int32) ≤ v1 then (k (mgs hM [2, 3] mM)) else (xt_X3_fillSteps_l10 v1 (mgs hM [2, 3] mM) (fun (m_2 : Mem) => (xt_X3_fillSteps_l2 hM k n (v1 + (1 : Int32)) (mgs hM [2, 3] m_2))) 5000 (0 : Int32) (mgs hM [2, 3] mM)))
def xt_X3_fillSteps (hM : Mem) : Option (Mem) := (xt_X3_fillSteps_l2 hM (fun (m_3 : Mem) => (some (mgs hM [2, 3] m_3))) 5000 (0 : Int32) hM)
def xt_X3_fillPairs_l14 (x2 : Int32) (hM : Mem) (k : Int32 → Mem → Option (Mem)) : Nat → Int32 → Int32 → Mem → Option (Mem)
  | 0, _, _, _ => none
  | n + 1, v1, v3, mM => (if (16 : Int32) ≤ v3 then (k v1 (mgs hM [4, 5, 6, 7] mM)) else (xgd ((x2 * (16 : Int32)) + v3) 256 (xgd ((v3 * (16 : Int32)) + x2) 256 (xgd (v1 &&& (127 : Int32)) 128 (xgd (v1 &&& (127 : Int32)) 128 (xgd (v1 &&& (127 : Int32)) 128 (xt_X3_fillPairs_l14 x2 hM k n (v1 + (1 : Int32)) (v3 + (1 : Int32)) (mset (mset (mset (mset hM 4 (upd (upd (mM 4) ((x2 * (16 : Int32)) + v3).toNatClampNeg v1) ((v3 * (16 : Int32)) + x2).toNatClampNeg v1)) 5 (upd (mM 5) (v1 &&& (127 : Int32)).toNatClampNeg x2)) 6 (upd (mM 6) (v1 &&& (127 : Int32)).toNatClampNeg v3)) 7 (upd (mM 7) (v1 &&& (127 : Int32)).toNatClampNeg (((1 : Int32) <<< (x2 &&& 31)) ||| ((1 : Int32) <<< (v3 &&& 31))))))))))))
def xt_X3_fillPairs_l4 (hM : Mem) (k : Mem → Option (Mem)) : Nat → Int32 → Int32 → Mem → Option (Mem)
  | 0, _, _, _ => none
  | n + 1, v1, v2, mM => (if (16 : Int32) ≤ v2 then (k (mgs hM [4, 5, 6, 7] mM)) else (xt_X3_fillPairs_l14 v2 (mgs hM [4, 5, 6, 7] mM) (fun (v1_1 : Int32) (m_2 : Mem) => (xt_X3_fillPairs_l4 hM k n v1_1 (v2 + (1 : Int32)) (mgs hM [4, 5, 6, 7] m_2))) 5000 v1 (v2 + (1 : Int32)) (mgs hM [4, 5, 6, 7] mM)))
def xt_X3_fillPairs (hM : Mem) : Option (Mem) := (xt_X3_fillPairs_l4 hM (fun (m_3 : Mem) => (some (mgs hM [4, 5, 6, 7] m_3))) 5000 (0 : Int32) (0 : Int32) hM)
def xt_X3_fillImages_l10 (x1 : Int32) (hM : Mem) (k : Mem → Option (Mem)) : Nat → Int32 → Mem → Option (Mem)
  | 0, _, _ => none
  | n + 1, v2, mM => (if (16 : Int32) ≤ v2 then (k (mgs hM [8] mM)) else (if (x1 &&& (1 : Int32)) = 0 then (if (x1 &&& (2 : Int32)) = 0 then (if (x1 &&& (4 : Int32)) = 0 then (xgd ((x1 * (16 : Int32)) + v2) 128 (xt_X3_fillImages_l10 x1 hM k n (v2 + (1 : Int32)) (mset hM 8 (upd (mM 8) ((x1 * (16 : Int32)) + v2).toNatClampNeg (((4 : Int32) * (v2 / (4 : Int32))) + (v2 - v2 / (4 : Int32) * (4 : Int32))))))) else (xgd ((x1 * (16 : Int32)) + v2) 128 (xt_X3_fillImages_l10 x1 hM k n (v2 + (1 : Int32)) (mset hM 8 (upd (mM 8) ((x1 * (16 : Int32)) + v2).toNatClampNeg (((4 : Int32) * (v2 - v2 / (4 : Int32) * (4 : Int32))) + (v2 / (4 : Int32)))))))) else (if (x1 &&& (4 : Int32)) = 0 then (xgd ((x1 * (16 : Int32)) + v2) 128 (xt_X3_fillImages_l10 x1 hM k n (v2 + (1 : Int32)) (mset hM 8 (upd (mM 8) ((x1 * (16 : Int32)) + v2).toNatClampNeg (((4 : Int32) * (v2 / (4 : Int32))) + ((3 : Int32) - (v2 - v2 / (4 : Int32) * (4 : Int32)))))))) else (xgd ((x1 * (16 : Int32)) + v2) 128 (xt_X3_fillImages_l10 x1 hM k n (v2 + (1 : Int32)) (mset hM 8 (upd (mM 8) ((x1 * (16 : Int32)) + v2).toNatClampNeg (((4 : Int32) * ((3 : Int32) - (v2 - v2 / (4 : Int32) * (4 : Int32)))) + (v2 / (4 : Int32))))))))) else (if (x1 &&& (2 : Int32)) = 0 then (if (x1 &&& (4 : Int32)) = 0 then (xgd ((x1 * (16 : Int32)) + v2) 128 (xt_X3_fillImages_l10 x1 hM k n (v2 + (1 : Int32)) (mset hM 8 (upd (mM 8) ((x1 * (16 : Int32)) + v2).toNatClampNeg (((4 : Int32) * ((3 : Int32) - (v2 / (4 : Int32)))) + (v2 - v2 / (4 : Int32) * (4 : Int32))))))) else (xgd ((x1 * (16 : Int32)) + v2) 128 (xt_X3_fillImages_l10 x1 hM k n (v2 + (1 : Int32)) (mset hM 8 (upd (mM 8) ((x1 * (16 : Int32)) + v2).toNatClampNeg (((4 : Int32) * (v2 - v2 / (4 : Int32) * (4 : Int32))) + ((3 : Int32) - (v2 / (4 : Int32))))))))) else (if (x1 &&& (4 : Int32)) = 0 then (xgd ((x1 * (16 : Int32)) + v2) 128 (xt_X3_fillImages_l10 x1 hM k n (v2 + (1 : Int32)) (mset hM 8 (upd (mM 8) ((x1 * (16 : Int32)) + v2).toNatClampNeg (((4 : Int32) * ((3 : Int32) - (v2 / (4 : Int32)))) + ((3 : Int32) - (v2 - v2 / (4 : Int32) * (4 : Int32)))))))) else (xgd ((x1 * (16 : Int32)) + v2) 128 (xt_X3_fillImages_l10 x1 hM k n (v2 + (1 : Int32)) (mset hM 8 (upd (mM 8) ((x1 * (16 : Int32)) + v2).toNatClampNeg (((4 : Int32) * ((3 : Int32) - (v2 - v2 / (4 : Int32) * (4 : Int32)))) + ((3 : Int32) - (v2 / (4 : Int32))))))))))))
def xt_X3_fillImages_l2 (hM : Mem) (k : Mem → Option (Mem)) : Nat → Int32 → Mem → Option (Mem)
  | 0, _, _ => none
  | n + 1, v1, mM => (if (8 : Int32) ≤ v1 then (k (mgs hM [8] mM)) else (xt_X3_fillImages_l10 v1 (mgs hM [8] mM) (fun (m_1 : Mem) => (xt_X3_fillImages_l2 hM k n (v1 + (1 : Int32)) (mgs hM [8] m_1))) 5000 (0 : Int32) (mgs hM [8] mM)))
def xt_X3_fillImages (hM : Mem) : Option (Mem) := (xt_X3_fillImages_l2 hM (fun (m_2 : Mem) => (some (mgs hM [8] m_2))) 5000 (0 : Int32) hM)
def xt_J9_min_7cf53 (x0 : Int32) (x1 : Int32) : Option (Int32) := (if x1 < x0 then (some x1) else (some x0))
def xt_J9_max_7cf53 (x0 : Int32) (x1 : Int32) : Option (Int32) := (if x0 < x1 then (some x1) else (some x0))
def xt_X6_place (x1 : Int32) (x2 : Int32) (x3 : Int32) (x4 : Int32) (sp0 : Nat → Int32) : Option ((Nat → Int32)) := (Option.bind (xt_J9_min_7cf53 x3 x4) (fun (o_1 : Int32) => (Option.bind (xt_J9_max_7cf53 x3 x4) (fun (o_2 : Int32) => (some (upd (upd (upd (upd sp0 2 x1) 3 x2) 4 o_1) 5 o_2))))))
def xt_X6_take (sp0 : Nat → Int32) (sp1 : Nat → Int32) : Option ((Nat → Int32)) := (some (upd (upd (upd (upd (upd (upd sp0 0 (sp1 0)) 1 (sp1 1)) 2 (sp1 2)) 3 (sp1 3)) 4 (sp1 4)) 5 (sp1 5)))
def xt_X6_setting (x1 : Int32) (sp0 : Nat → Int32) : Option (Int32) := (some (((sp0 0) >>> (x1 &&& 31)) &&& (1 : Int32)))
def xt_X6_change (x1 : Int32) (x2 : Int32) (sp0 : Nat → Int32) : Option ((Nat → Int32)) := (some (upd sp0 0 (((sp0 0) &&& (((1 : Int32) <<< (x1 &&& 31)) ^^^ (-1 : Int32))) ||| (x2 <<< (x1 &&& 31)))))
def xt_X4_record (sp1 : Nat → Int32) (hM : Mem) : Option Mem := (if (hM 23 1) < (6 : Int32) then (if (hM 23 1) = (0 : Int32) then (Option.bind (xt_X6_take (hM 60) sp1) (fun (o : Nat → Int32) => some (mset (mset hM 60 o) 23 (upd (hM 23) 1 ((hM 23 1) + (1 : Int32)))))) else (if (hM 23 1) = (1 : Int32) then (Option.bind (xt_X6_take (hM 61) sp1) (fun (o : Nat → Int32) => some (mset (mset hM 61 o) 23 (upd (hM 23) 1 ((hM 23 1) + (1 : Int32)))))) else (if (hM 23 1) = (2 : Int32) then (Option.bind (xt_X6_take (hM 62) sp1) (fun (o : Nat → Int32) => some (mset (mset hM 62 o) 23 (upd (hM 23) 1 ((hM 23 1) + (1 : Int32)))))) else (if (hM 23 1) = (3 : Int32) then (Option.bind (xt_X6_take (hM 63) sp1) (fun (o : Nat → Int32) => some (mset (mset hM 63 o) 23 (upd (hM 23) 1 ((hM 23 1) + (1 : Int32)))))) else (if (hM 23 1) = (4 : Int32) then (Option.bind (xt_X6_take (hM 64) sp1) (fun (o : Nat → Int32) => some (mset (mset hM 64 o) 23 (upd (hM 23) 1 ((hM 23 1) + (1 : Int32)))))) else (if (hM 23 1) = (5 : Int32) then (Option.bind (xt_X6_take (hM 65) sp1) (fun (o : Nat → Int32) => some (mset (mset hM 65 o) 23 (upd (hM 23) 1 ((hM 23 1) + (1 : Int32)))))) else none)))))) else (Option.bind (xt_X6_take (hM 60) sp1) (fun (o : Nat → Int32) => some (fun j => if j = 60 then hM 61 else if j = 61 then hM 62 else if j = 62 then hM 63 else if j = 63 then hM 64 else if j = 64 then hM 65 else if j = 65 then o else if j = 23 then upd (upd (hM 23) 1 (5 : Int32)) 1 ((5 : Int32) + (1 : Int32)) else hM j))))
def xt_X4_takeBack (sp1 : Nat → Int32) (hM : Mem) : Option ((Nat → Int32) × Mem) := (if (hM 23 1) ≤ 0 then some (sp1, hM) else (if ((hM 23 1) - (1 : Int32)) = (0 : Int32) then (Option.bind (xt_X6_take sp1 (hM 60)) (fun (o : Nat → Int32) => some (o, mset hM 23 (upd (hM 23) 1 ((hM 23 1) - (1 : Int32)))))) else (if ((hM 23 1) - (1 : Int32)) = (1 : Int32) then (Option.bind (xt_X6_take sp1 (hM 61)) (fun (o : Nat → Int32) => some (o, mset hM 23 (upd (hM 23) 1 ((hM 23 1) - (1 : Int32)))))) else (if ((hM 23 1) - (1 : Int32)) = (2 : Int32) then (Option.bind (xt_X6_take sp1 (hM 62)) (fun (o : Nat → Int32) => some (o, mset hM 23 (upd (hM 23) 1 ((hM 23 1) - (1 : Int32)))))) else (if ((hM 23 1) - (1 : Int32)) = (3 : Int32) then (Option.bind (xt_X6_take sp1 (hM 63)) (fun (o : Nat → Int32) => some (o, mset hM 23 (upd (hM 23) 1 ((hM 23 1) - (1 : Int32)))))) else (if ((hM 23 1) - (1 : Int32)) = (4 : Int32) then (Option.bind (xt_X6_take sp1 (hM 64)) (fun (o : Nat → Int32) => some (o, mset hM 23 (upd (hM 23) 1 ((hM 23 1) - (1 : Int32)))))) else (if ((hM 23 1) - (1 : Int32)) = (5 : Int32) then (Option.bind (xt_X6_take sp1 (hM 65)) (fun (o : Nat → Int32) => some (o, mset hM 23 (upd (hM 23) 1 ((hM 23 1) - (1 : Int32)))))) else none)))))))
def xt_X8_set (x1 : Int32) (x2 : Int32) (hM : Mem) : Option (Int32 × Mem) := (if x1 < 0 then (some ((-2 : Int32), hM)) else (if (2 : Int32) < x1 then (some ((-2 : Int32), hM)) else (if x2 < 0 then (some ((-2 : Int32), hM)) else (if x2 ≤ (1 : Int32) then (Option.bind (xt_X4_record (hM 21) hM) (fun (o_1 : Mem) => (Option.bind (xt_X6_setting x1 (hM 21)) (fun (o_3 : Int32) => (Option.bind (xt_X6_change x1 x2 (hM 21)) (fun (o_4 : (Nat → Int32)) => (some (o_3, (mgs (mset hM 21 o_4) [23, 60, 61, 62, 63, 64, 65] o_1))))))))) else (some ((-2 : Int32), hM))))))
def xt_X9_in (x0 : Int32) (x1 : Int32) (x2 : Int32) : Option (Int32) := (if x0 < x1 then (some (0 : Int32)) else (if x2 < x0 then (some (0 : Int32)) else (some (1 : Int32))))
def xt_X9_keep_l47 (x1 : Int32) (hM : Mem) (k : Mem → Option (Mem)) : Nat → Int32 → Mem → Option (Mem)
  | 0, _, _ => none
  | n + 1, v2, mM => (if (8 : Int32) ≤ v2 then (k (mgs hM [33] mM)) else (xgd v2 8 (xgd (((8 : Int32) * x1) + v2) 48 (xt_X9_keep_l47 x1 hM k n (v2 + (1 : Int32)) (mset hM 33 (upd (mM 33) (((8 : Int32) * x1) + v2).toNatClampNeg ((hM 32) v2.toNatClampNeg)))))))
def xt_X9_keep (hM : Mem) : Option (Mem) := (if ((hM 31) 3) = (6 : Int32) then (xt_X9_keep_l47 ((((((hM 31) 2) + (1 : Int32)) - (((hM 31) 2) + (1 : Int32)) / (6 : Int32) * (6 : Int32)) + (((hM 31) 3) - (1 : Int32))) - (((((hM 31) 2) + (1 : Int32)) - (((hM 31) 2) + (1 : Int32)) / (6 : Int32) * (6 : Int32)) + (((hM 31) 3) - (1 : Int32))) / (6 : Int32) * (6 : Int32)) (mset hM 31 (upd (upd (hM 31) 2 ((((hM 31) 2) + (1 : Int32)) - (((hM 31) 2) + (1 : Int32)) / (6 : Int32) * (6 : Int32))) 3 (((hM 31) 3) - (1 : Int32)))) (fun (m_2 : Mem) => (some (mgs (mset hM 31 (upd (upd (hM 31) 2 ((((hM 31) 2) + (1 : Int32)) - (((hM 31) 2) + (1 : Int32)) / (6 : Int32) * (6 : Int32))) 3 ((((hM 31) 3) - (1 : Int32)) + (1 : Int32)))) [33] m_2))) 5000 (0 : Int32) hM) else (xt_X9_keep_l47 ((((hM 31) 2) + ((hM 31) 3)) - (((hM 31) 2) + ((hM 31) 3)) / (6 : Int32) * (6 : Int32)) hM (fun (m_1 : Mem) => (some (mgs (mset hM 31 (upd (hM 31) 3 (((hM 31) 3) + (1 : Int32)))) [33] m_1))) 5000 (0 : Int32) hM))
def xt_X9_set (x1 : Int32) (x2 : Int32) (hM : Mem) : Option (Int32 × Mem) := (Option.bind (xt_X9_in x1 (0 : Int32) (2 : Int32)) (fun (o_1 : Int32) => (if o_1 = 0 then (some ((-2 : Int32), hM)) else (Option.bind (xt_X9_in x2 (0 : Int32) (1 : Int32)) (fun (o_2 : Int32) => (if o_2 = 0 then (some ((-2 : Int32), hM)) else (Option.bind (xt_X9_keep hM) (fun (o_3 : Mem) => (xgd x1 8 (xgd x1 8 (some (((hM 32) x1.toNatClampNeg), (mgs (mset hM 32 (upd (hM 32) x1.toNatClampNeg x2)) [31, 33] o_3)))))))))))))
def xt_X3_isPlace (x0 : Int32) : Option (Int32) := (if x0 < 0 then (some (0 : Int32)) else (if (16 : Int32) ≤ x0 then (some (0 : Int32)) else (some (1 : Int32))))
def xt_J6_bitCount_0f7a4 (x0 : Int32) : Option (Int32) := (some ((((((((x0 - (((x0.toUInt32 >>> ((1 : Int32).toUInt32 &&& Int32.toUInt32 31)).toInt32) &&& (1431655765 : Int32))) &&& (858993459 : Int32)) + ((((x0 - (((x0.toUInt32 >>> ((1 : Int32).toUInt32 &&& Int32.toUInt32 31)).toInt32) &&& (1431655765 : Int32))).toUInt32 >>> ((2 : Int32).toUInt32 &&& Int32.toUInt32 31)).toInt32) &&& (858993459 : Int32))) + (((((x0 - (((x0.toUInt32 >>> ((1 : Int32).toUInt32 &&& Int32.toUInt32 31)).toInt32) &&& (1431655765 : Int32))) &&& (858993459 : Int32)) + ((((x0 - (((x0.toUInt32 >>> ((1 : Int32).toUInt32 &&& Int32.toUInt32 31)).toInt32) &&& (1431655765 : Int32))).toUInt32 >>> ((2 : Int32).toUInt32 &&& Int32.toUInt32 31)).toInt32) &&& (858993459 : Int32))).toUInt32 >>> ((4 : Int32).toUInt32 &&& Int32.toUInt32 31)).toInt32)) &&& (252645135 : Int32)) + (((((((x0 - (((x0.toUInt32 >>> ((1 : Int32).toUInt32 &&& Int32.toUInt32 31)).toInt32) &&& (1431655765 : Int32))) &&& (858993459 : Int32)) + ((((x0 - (((x0.toUInt32 >>> ((1 : Int32).toUInt32 &&& Int32.toUInt32 31)).toInt32) &&& (1431655765 : Int32))).toUInt32 >>> ((2 : Int32).toUInt32 &&& Int32.toUInt32 31)).toInt32) &&& (858993459 : Int32))) + (((((x0 - (((x0.toUInt32 >>> ((1 : Int32).toUInt32 &&& Int32.toUInt32 31)).toInt32) &&& (1431655765 : Int32))) &&& (858993459 : Int32)) + ((((x0 - (((x0.toUInt32 >>> ((1 : Int32).toUInt32 &&& Int32.toUInt32 31)).toInt32) &&& (1431655765 : Int32))).toUInt32 >>> ((2 : Int32).toUInt32 &&& Int32.toUInt32 31)).toInt32) &&& (858993459 : Int32))).toUInt32 >>> ((4 : Int32).toUInt32 &&& Int32.toUInt32 31)).toInt32)) &&& (252645135 : Int32)).toUInt32 >>> ((8 : Int32).toUInt32 &&& Int32.toUInt32 31)).toInt32)) + ((((((((x0 - (((x0.toUInt32 >>> ((1 : Int32).toUInt32 &&& Int32.toUInt32 31)).toInt32) &&& (1431655765 : Int32))) &&& (858993459 : Int32)) + ((((x0 - (((x0.toUInt32 >>> ((1 : Int32).toUInt32 &&& Int32.toUInt32 31)).toInt32) &&& (1431655765 : Int32))).toUInt32 >>> ((2 : Int32).toUInt32 &&& Int32.toUInt32 31)).toInt32) &&& (858993459 : Int32))) + (((((x0 - (((x0.toUInt32 >>> ((1 : Int32).toUInt32 &&& Int32.toUInt32 31)).toInt32) &&& (1431655765 : Int32))) &&& (858993459 : Int32)) + ((((x0 - (((x0.toUInt32 >>> ((1 : Int32).toUInt32 &&& Int32.toUInt32 31)).toInt32) &&& (1431655765 : Int32))).toUInt32 >>> ((2 : Int32).toUInt32 &&& Int32.toUInt32 31)).toInt32) &&& (858993459 : Int32))).toUInt32 >>> ((4 : Int32).toUInt32 &&& Int32.toUInt32 31)).toInt32)) &&& (252645135 : Int32)) + (((((((x0 - (((x0.toUInt32 >>> ((1 : Int32).toUInt32 &&& Int32.toUInt32 31)).toInt32) &&& (1431655765 : Int32))) &&& (858993459 : Int32)) + ((((x0 - (((x0.toUInt32 >>> ((1 : Int32).toUInt32 &&& Int32.toUInt32 31)).toInt32) &&& (1431655765 : Int32))).toUInt32 >>> ((2 : Int32).toUInt32 &&& Int32.toUInt32 31)).toInt32) &&& (858993459 : Int32))) + (((((x0 - (((x0.toUInt32 >>> ((1 : Int32).toUInt32 &&& Int32.toUInt32 31)).toInt32) &&& (1431655765 : Int32))) &&& (858993459 : Int32)) + ((((x0 - (((x0.toUInt32 >>> ((1 : Int32).toUInt32 &&& Int32.toUInt32 31)).toInt32) &&& (1431655765 : Int32))).toUInt32 >>> ((2 : Int32).toUInt32 &&& Int32.toUInt32 31)).toInt32) &&& (858993459 : Int32))).toUInt32 >>> ((4 : Int32).toUInt32 &&& Int32.toUInt32 31)).toInt32)) &&& (252645135 : Int32)).toUInt32 >>> ((8 : Int32).toUInt32 &&& Int32.toUInt32 31)).toInt32)).toUInt32 >>> ((16 : Int32).toUInt32 &&& Int32.toUInt32 31)).toInt32)) &&& (63 : Int32)))
def xt_X6_hunters (sp0 : Nat → Int32) : Option (Int32) := (some (((1 : Int32) <<< ((sp0 4) &&& 31)) ||| ((1 : Int32) <<< ((sp0 5) &&& 31))))
def xt_X6_taken (sp0 : Nat → Int32) : Option (Int32) := (Option.bind (xt_X6_hunters sp0) (fun (o_1 : Int32) => (some (o_1 ||| ((1 : Int32) <<< ((sp0 3) &&& 31))))))
def xt_X8_block (x1 : Int32) (hM : Mem) : Option (Int32 × Mem) := (Option.bind (xt_X3_isPlace x1) (fun (o_1 : Int32) => (if o_1 = 0 then (some ((-1 : Int32), hM)) else (if (((hM 21) 1) &&& ((1 : Int32) <<< (x1 &&& 31))) = 0 then (Option.bind (xt_J6_bitCount_0f7a4 ((hM 21) 1)) (fun (o_6 : Int32) => (if o_6 < (6 : Int32) then (Option.bind (xt_X6_taken (hM 21)) (fun (o_7 : Int32) => (if (o_7 &&& ((1 : Int32) <<< (x1 &&& 31))) = 0 then (Option.bind (xt_X4_record (hM 21) hM) (fun (o_8 : Mem) => (Option.bind (xt_J6_bitCount_0f7a4 (((hM 21) 1) ^^^ ((1 : Int32) <<< (x1 &&& 31)))) (fun (o_10 : Int32) => (some (o_10, (mgs (mset hM 21 (upd (hM 21) 1 (((hM 21) 1) ^^^ ((1 : Int32) <<< (x1 &&& 31))))) [23, 60, 61, 62, 63, 64, 65] o_8))))))) else (some ((-5 : Int32), hM))))) else (some ((-4 : Int32), hM))))) else (Option.bind (xt_X6_taken (hM 21)) (fun (o_2 : Int32) => (if (o_2 &&& ((1 : Int32) <<< (x1 &&& 31))) = 0 then (Option.bind (xt_X4_record (hM 21) hM) (fun (o_3 : Mem) => (Option.bind (xt_J6_bitCount_0f7a4 (((hM 21) 1) ^^^ ((1 : Int32) <<< (x1 &&& 31)))) (fun (o_5 : Int32) => (some (o_5, (mgs (mset hM 21 (upd (hM 21) 1 (((hM 21) 1) ^^^ ((1 : Int32) <<< (x1 &&& 31))))) [23, 60, 61, 62, 63, 64, 65] o_3))))))) else (some ((-5 : Int32), hM)))))))))
def xt_X9_isPlace (x0 : Int32) : Option (Int32) := (Option.bind (xt_X9_in x0 (0 : Int32) (15 : Int32)) (fun (o_1 : Int32) => (xgb o_1 (some o_1))))
def xt_X9_has (x0 : Int32) (x1 : Int32) : Option (Int32) := (if ((x0 >>> (x1 &&& 31)) &&& (1 : Int32)) = (1 : Int32) then (some (1 : Int32)) else (some (0 : Int32)))
def xt_X9_isFree (x1 : Int32) (hM : Mem) : Option (Int32) := (xgd (3 : Int32) 8 (Option.bind (xt_X9_has ((hM 32) (3 : Int32).toNatClampNeg) x1) (fun (o_1 : Int32) => (if o_1 = 0 then (some (1 : Int32)) else (some (0 : Int32))))))
def xt_X9_many_l4 (x0 : Int32) (k : Int32 → Option (Int32)) : Nat → Int32 → Int32 → Option (Int32)
  | 0, _, _ => none
  | n + 1, v1, v2 => (if (16 : Int32) ≤ v2 then (k v1) else (xt_X9_many_l4 x0 k n (v1 + ((x0 >>> (v2 &&& 31)) &&& (1 : Int32))) (v2 + (1 : Int32))))
def xt_X9_many (x0 : Int32) : Option (Int32) := (xt_X9_many_l4 x0 (fun (v1_1 : Int32) => (some v1_1)) 5000 (0 : Int32) (0 : Int32))
def xt_X9_block (x1 : Int32) (hM : Mem) : Option (Int32 × Mem) := (Option.bind (xt_X9_isPlace x1) (fun (o_1 : Int32) => (if o_1 = 0 then (some ((-1 : Int32), hM)) else (Option.bind (xt_X9_isFree x1 hM) (fun (o_2 : Int32) => (if o_2 = 0 then (xgd (5 : Int32) 8 (if x1 = ((hM 32) (5 : Int32).toNatClampNeg) then (some ((-5 : Int32), hM)) else (xgd (6 : Int32) 8 (if x1 = ((hM 32) (6 : Int32).toNatClampNeg) then (some ((-5 : Int32), hM)) else (xgd (7 : Int32) 8 (if x1 = ((hM 32) (7 : Int32).toNatClampNeg) then (some ((-5 : Int32), hM)) else (Option.bind (xt_X9_keep hM) (fun (o_3 : Mem) => (xgd (3 : Int32) 8 (xgd (3 : Int32) 8 (xgd (3 : Int32) 8 (Option.bind (xt_X9_many ((upd (hM 32) (3 : Int32).toNatClampNeg (((hM 32) (3 : Int32).toNatClampNeg) ^^^ ((1 : Int32) <<< (x1 &&& 31)))) (3 : Int32).toNatClampNeg)) (fun (o_4 : Int32) => (some (o_4, (mgs (mset hM 32 (upd (hM 32) (3 : Int32).toNatClampNeg (((hM 32) (3 : Int32).toNatClampNeg) ^^^ ((1 : Int32) <<< (x1 &&& 31))))) [31, 33] o_3)))))))))))))))) else (xgd (3 : Int32) 8 (Option.bind (xt_X9_many ((hM 32) (3 : Int32).toNatClampNeg)) (fun (o_5 : Int32) => (if o_5 = (6 : Int32) then (some ((-4 : Int32), hM)) else (xgd (5 : Int32) 8 (if x1 = ((hM 32) (5 : Int32).toNatClampNeg) then (some ((-5 : Int32), hM)) else (xgd (6 : Int32) 8 (if x1 = ((hM 32) (6 : Int32).toNatClampNeg) then (some ((-5 : Int32), hM)) else (xgd (7 : Int32) 8 (if x1 = ((hM 32) (7 : Int32).toNatClampNeg) then (some ((-5 : Int32), hM)) else (Option.bind (xt_X9_keep hM) (fun (o_6 : Mem) => (xgd (3 : Int32) 8 (xgd (3 : Int32) 8 (xgd (3 : Int32) 8 (Option.bind (xt_X9_many ((upd (hM 32) (3 : Int32).toNatClampNeg (((hM 32) (3 : Int32).toNatClampNeg) ^^^ ((1 : Int32) <<< (x1 &&& 31)))) (3 : Int32).toNatClampNeg)) (fun (o_7 : Int32) => (some (o_7, (mgs (mset hM 32 (upd (hM 32) (3 : Int32).toNatClampNeg (((hM 32) (3 : Int32).toNatClampNeg) ^^^ ((1 : Int32) <<< (x1 &&& 31))))) [31, 33] o_6))))))))))))))))))))))))))
def xt_X8_errorOf (x1 : Int32) (x2 : Int32) (x3 : Int32) (x4 : Int32) (hM : Mem) : Option (Int32) := (Option.bind (xt_X3_isPlace x2) (fun (o_1 : Int32) => (if o_1 = 0 then (some (-1 : Int32)) else (Option.bind (xt_X3_isPlace x3) (fun (o_2 : Int32) => (if o_2 = 0 then (some (-1 : Int32)) else (Option.bind (xt_X3_isPlace x4) (fun (o_3 : Int32) => (if o_3 = 0 then (some (-1 : Int32)) else (Option.bind (xt_J6_bitCount_0f7a4 ((((1 : Int32) <<< (x2 &&& 31)) ||| ((1 : Int32) <<< (x3 &&& 31))) ||| ((1 : Int32) <<< (x4 &&& 31)))) (fun (o_4 : Int32) => (if o_4 = (3 : Int32) then (if x1 = 0 then (if (((((1 : Int32) <<< (x2 &&& 31)) ||| ((1 : Int32) <<< (x3 &&& 31))) ||| ((1 : Int32) <<< (x4 &&& 31))) &&& ((hM 21) 1)) = 0 then (some (0 : Int32)) else (some (-2 : Int32))) else (if x1 = (1 : Int32) then (if (((((1 : Int32) <<< (x2 &&& 31)) ||| ((1 : Int32) <<< (x3 &&& 31))) ||| ((1 : Int32) <<< (x4 &&& 31))) &&& ((hM 21) 1)) = 0 then (some (0 : Int32)) else (some (-2 : Int32))) else (some (-2 : Int32)))) else (if x1 = 0 then (some (-2 : Int32)) else (if x1 = (1 : Int32) then (some (-2 : Int32)) else (some (-2 : Int32))))))))))))))))
def xt_X6_hunterOnFox (sp0 : Nat → Int32) : Option (Int32) := (if (sp0 3) = (sp0 4) then (some (1 : Int32)) else (if (sp0 3) = (sp0 5) then (some (1 : Int32)) else (some (0 : Int32))))
def xt_X3_stepsFrom (x1 : Int32) (x2 : Int32) (hM : Mem) : Option (Int32) := (if x2 = 0 then (xgd (x1 &&& (15 : Int32)) 16 (some ((hM 2) (x1 &&& (15 : Int32)).toNatClampNeg))) else (xgd (x1 &&& (15 : Int32)) 16 (xgd (x1 &&& (15 : Int32)) 16 (some (((hM 2) (x1 &&& (15 : Int32)).toNatClampNeg) ||| ((hM 3) (x1 &&& (15 : Int32)).toNatClampNeg))))))
def xt_X2_foxSteps (sp1 : Nat → Int32) (hM : Mem) : Option (Int32) := (Option.bind (xt_X6_setting (0 : Int32) sp1) (fun (o_1 : Int32) => (if o_1 = (1 : Int32) then (Option.bind (xt_X3_stepsFrom (sp1 3) (1 : Int32) hM) (fun (o_4 : Int32) => (Option.bind (xt_X6_hunters sp1) (fun (o_5 : Int32) => (some ((o_4 &&& ((sp1 1) ^^^ (-1 : Int32))) &&& (o_5 ^^^ (-1 : Int32)))))))) else (Option.bind (xt_X3_stepsFrom (sp1 3) (0 : Int32) hM) (fun (o_2 : Int32) => (Option.bind (xt_X6_hunters sp1) (fun (o_3 : Int32) => (some ((o_2 &&& ((sp1 1) ^^^ (-1 : Int32))) &&& (o_3 ^^^ (-1 : Int32)))))))))))
def xt_X2_caught (sp1 : Nat → Int32) (hM : Mem) : Option (Int32) := (Option.bind (xt_X6_hunterOnFox sp1) (fun (o_1 : Int32) => (if o_1 = 0 then (if (sp1 2) = (1 : Int32) then (Option.bind (xt_X2_foxSteps sp1 hM) (fun (o_2 : Int32) => (if o_2 = 0 then (some (1 : Int32)) else (some (0 : Int32))))) else (some (0 : Int32))) else (some (1 : Int32)))))
def xt_X0_signOf (sp0 : Nat → Int32) : Option (Int32) := (some (((sp0 0) <<< ((16 : Int32) &&& 31)) ||| (sp0 1)))
def xt_J7_fill_53178_l5 (Np0 : Nat) (x1 : Int32) (x3 : Int32) (k : (Nat → Int32) → Option ((Nat → Int32))) : Nat → Int32 → (Nat → Int32) → Option ((Nat → Int32))
  | 0, _, _ => none
  | n + 1, v2, wp0 => (if x3 ≤ v2 then (k wp0) else (xgd v2 Np0 (xt_J7_fill_53178_l5 Np0 x1 x3 k n (v2 + (1 : Int32)) (upd wp0 v2.toNatClampNeg x1))))
def xt_J7_fill_53178 (Np0 : Nat) (x1 : Int32) (sp0 : Nat → Int32) : Option ((Nat → Int32)) := (xt_J7_fill_53178_l5 Np0 x1 (Int32.ofNat Np0) (fun (sp0_1 : Nat → Int32) => (some sp0_1)) 5000 (0 : Int32) sp0)
def xt_X3_placesOf (x1 : Int32) (hM : Mem) : Option (Int32) := (xgd (x1 &&& (127 : Int32)) 128 (some ((hM 7) (x1 &&& (127 : Int32)).toNatClampNeg)))
def xt_X0_placesForFox (x1 : Int32) (hM : Mem) : Option (Int32) := (Option.bind (xt_X3_placesOf x1 hM) (fun (o_1 : Int32) => (if (o_1 &&& ((hM 9) 5)) = o_1 then (some (((hM 9) 5) &&& (o_1 ^^^ (-1 : Int32)))) else (some (0 : Int32)))))
def xt_X0_keep_l8 (x1 : Int32) (x2 : Int32) (x3 : Int32) (x4 : Int32) (hM : Mem) (k : Mem → Option (Mem)) : Nat → Int32 → Mem → Option (Mem)
  | 0, _, _ => none
  | n + 1, v5, mM => (if (16 : Int32) ≤ v5 then (k (mgs hM [10] mM)) else (if ((x1 >>> (v5 &&& 31)) &&& (1 : Int32)) = 0 then (xt_X0_keep_l8 x1 x2 x3 x4 hM k n (v5 + (1 : Int32)) (mgs hM [10] mM)) else (xgd (((((2048 : Int32) * x2) + ((128 : Int32) * v5)) + x3) &&& (4095 : Int32)) 4096 (xt_X0_keep_l8 x1 x2 x3 x4 hM k n (v5 + (1 : Int32)) (mset hM 10 (upd (mM 10) (((((2048 : Int32) * x2) + ((128 : Int32) * v5)) + x3) &&& (4095 : Int32)).toNatClampNeg x4))))))
def xt_X0_keep (x1 : Int32) (x2 : Int32) (x3 : Int32) (x4 : Int32) (hM : Mem) : Option (Mem) := (if x1 = 0 then (some hM) else (xt_X0_keep_l8 x1 x2 x3 x4 hM (fun (m_1 : Mem) => (some (mgs hM [10] m_1))) 5000 (0 : Int32) hM))
def xt_X0_foxLevel_l37 (x1 : Int32) (x2 : Int32) (x3 : Int32) (x4 : Int32) (hM : Mem) (k : Int32 → Option (Int32 × Mem)) : Nat → Int32 → Int32 → Option (Int32 × Mem)
  | 0, _, _ => none
  | n + 1, v5, v6 => (if (16 : Int32) ≤ v6 then (k v5) else (if ((x3 >>> (v6 &&& 31)) &&& (1 : Int32)) = 0 then (xt_X0_foxLevel_l37 x1 x2 x3 x4 hM k n v5 (v6 + (1 : Int32))) else (Option.bind (xt_X3_stepsFrom v6 ((hM 9) 6) hM) (fun (o_3 : Int32) => (if (o_3 &&& x4) = 0 then (xt_X0_foxLevel_l37 x1 x2 x3 x4 hM k n (v5 ||| ((1 : Int32) <<< (v6 &&& 31))) (v6 + (1 : Int32))) else (xt_X0_foxLevel_l37 x1 x2 x3 x4 hM k n v5 (v6 + (1 : Int32))))))))
def xt_X0_foxLevel (x1 : Int32) (x2 : Int32) (hM : Mem) : Option (Int32 × Mem) := (Option.bind (xt_X0_placesForFox x1 hM) (fun (o_1 : Int32) => (xgd x1 120 (Option.bind (xt_X0_placesForFox x1 hM) (fun (o_2 : Int32) => (xgd x1 120 (xt_X0_foxLevel_l37 x1 x2 (o_1 &&& (((hM 11) x1.toNatClampNeg) ^^^ (-1 : Int32))) (o_2 &&& (((hM 12) x1.toNatClampNeg) ^^^ (-1 : Int32))) hM (fun (v5_4 : Int32) => (xgd x1 120 (xgd x1 120 (Option.bind (xt_X0_keep v5_4 (1 : Int32) x1 x2 hM) (fun (o_5 : Mem) => (some (v5_4, (mgs (mset hM 11 (upd (hM 11) x1.toNatClampNeg (((hM 11) x1.toNatClampNeg) ||| v5_4))) [10] o_5)))))))) 5000 (0 : Int32) (0 : Int32))))))))
def xt_X3_lowerOf (x1 : Int32) (hM : Mem) : Option (Int32) := (xgd (x1 &&& (127 : Int32)) 128 (some ((hM 5) (x1 &&& (127 : Int32)).toNatClampNeg)))
def xt_X3_higherOf (x1 : Int32) (hM : Mem) : Option (Int32) := (xgd (x1 &&& (127 : Int32)) 128 (some ((hM 6) (x1 &&& (127 : Int32)).toNatClampNeg)))
def xt_X3_pairOf (x1 : Int32) (x2 : Int32) (hM : Mem) : Option (Int32) := (xgd (((x1 &&& (15 : Int32)) * (16 : Int32)) + (x2 &&& (15 : Int32))) 256 (some ((hM 4) (((x1 &&& (15 : Int32)) * (16 : Int32)) + (x2 &&& (15 : Int32))).toNatClampNeg)))
def xt_X0_reachedBy_l30 (x2 : Int32) (x3 : Int32) (hM : Mem) (k : Int32 → Option (Int32)) : Nat → Int32 → Int32 → Option (Int32)
  | 0, _, _ => none
  | n + 1, v4, v5 => (if (16 : Int32) ≤ v5 then (k v4) else (if ((x3 >>> (v5 &&& 31)) &&& (1 : Int32)) = 0 then (xt_X0_reachedBy_l30 x2 x3 hM k n v4 (v5 + (1 : Int32))) else (Option.bind (xt_X3_pairOf v5 x2 hM) (fun (o_2 : Int32) => (xgd o_2 120 (xt_X0_reachedBy_l30 x2 x3 hM k n (v4 ||| ((hM 11) o_2.toNatClampNeg)) (v5 + (1 : Int32))))))))
def xt_X0_reachedBy (x1 : Int32) (x2 : Int32) (hM : Mem) : Option (Int32) := (Option.bind (xt_X3_stepsFrom x1 ((hM 9) 7) hM) (fun (o_1 : Int32) => (xt_X0_reachedBy_l30 x2 ((o_1 &&& ((hM 9) 5)) &&& (((1 : Int32) <<< (x2 &&& 31)) ^^^ (-1 : Int32))) hM (fun (v4_3 : Int32) => (some v4_3)) 5000 ((o_1 &&& ((hM 9) 5)) &&& (((1 : Int32) <<< (x2 &&& 31)) ^^^ (-1 : Int32))) (0 : Int32))))
def xt_X0_huntersLevel (x1 : Int32) (x2 : Int32) (hM : Mem) : Option (Int32 × Mem) := (Option.bind (xt_X0_placesForFox x1 hM) (fun (o_1 : Int32) => (xgd x1 120 (if (o_1 &&& (((hM 12) x1.toNatClampNeg) ^^^ (-1 : Int32))) = 0 then (some ((0 : Int32), hM)) else (Option.bind (xt_X3_lowerOf x1 hM) (fun (o_2 : Int32) => (Option.bind (xt_X3_higherOf x1 hM) (fun (o_3 : Int32) => (Option.bind (xt_X0_reachedBy o_2 o_3 hM) (fun (o_4 : Int32) => (Option.bind (xt_X0_reachedBy o_3 o_2 hM) (fun (o_5 : Int32) => (if ((hM 9) 8) = 0 then (xgd x1 120 (xgd x1 120 (Option.bind (xt_X0_keep ((o_1 &&& (((hM 12) x1.toNatClampNeg) ^^^ (-1 : Int32))) &&& (o_4 ||| o_5)) (0 : Int32) x1 x2 hM) (fun (o_6 : Mem) => (some (((o_1 &&& (((hM 12) x1.toNatClampNeg) ^^^ (-1 : Int32))) &&& (o_4 ||| o_5)), (mgs (mset hM 12 (upd (hM 12) x1.toNatClampNeg (((hM 12) x1.toNatClampNeg) ||| ((o_1 &&& (((hM 12) x1.toNatClampNeg) ^^^ (-1 : Int32))) &&& (o_4 ||| o_5))))) [10] o_6))))))) else (xgd x1 120 (xgd x1 120 (xgd x1 120 (Option.bind (xt_X0_keep ((o_1 &&& (((hM 12) x1.toNatClampNeg) ^^^ (-1 : Int32))) &&& ((o_4 ||| o_5) ||| ((hM 11) x1.toNatClampNeg))) (0 : Int32) x1 x2 hM) (fun (o_7 : Mem) => (some (((o_1 &&& (((hM 12) x1.toNatClampNeg) ^^^ (-1 : Int32))) &&& ((o_4 ||| o_5) ||| ((hM 11) x1.toNatClampNeg))), (mgs (mset hM 12 (upd (hM 12) x1.toNatClampNeg (((hM 12) x1.toNatClampNeg) ||| ((o_1 &&& (((hM 12) x1.toNatClampNeg) ^^^ (-1 : Int32))) &&& ((o_4 ||| o_5) ||| ((hM 11) x1.toNatClampNeg)))))) [10] o_7)))))))))))))))))))))
def xt_X0_workOut_l45 (x2 : Int32) (hM : Mem) (k : Int32 → Mem → Option (Mem)) : Nat → Int32 → Int32 → Mem → Option (Mem)
  | 0, _, _, _ => none
  | n + 1, v3, v4, mM => (if (120 : Int32) ≤ v4 then (k v3 (mgs hM [10, 11] mM)) else (Option.bind (xt_X0_foxLevel v4 x2 (mgs hM [10, 11] mM)) (fun (o_4 : Int32 × Mem) => (xt_X0_workOut_l45 x2 hM k n (v3 ||| o_4.1) (v4 + (1 : Int32)) (mgs hM [10, 11] o_4.2)))))
def xt_X0_workOut_l71 (x2 : Int32) (hM : Mem) (k : Int32 → Mem → Option (Mem)) : Nat → Int32 → Int32 → Mem → Option (Mem)
  | 0, _, _, _ => none
  | n + 1, v3, v4, mM => (if (120 : Int32) ≤ v4 then (k v3 (mgs hM [10, 12] mM)) else (Option.bind (xt_X0_huntersLevel v4 (x2 + (1 : Int32)) (mgs hM [10, 12] mM)) (fun (o_7 : Int32 × Mem) => (xt_X0_workOut_l71 x2 hM k n (v3 ||| o_7.1) (v4 + (1 : Int32)) (mgs hM [10, 12] o_7.2)))))
def xt_X0_workOut_l29 (hM : Mem) (k : Mem → Option (Mem)) : Nat → Int32 → Int32 → Mem → Option (Mem)
  | 0, _, _, _ => none
  | n + 1, v1, v2, mM => (if v1 = 0 then (k (mgs hM [10, 11, 12] mM)) else (if (4096 : Int32) ≤ v2 then (k (mgs hM [10, 11, 12] mM)) else (xt_X0_workOut_l45 v2 (mgs hM [10, 11, 12] mM) (fun (v3_5 : Int32) (m_6 : Mem) => (xt_X0_workOut_l71 v2 (mgs (mgs hM [10, 11] m_6) [12] mM) (fun (v3_8 : Int32) (m_9 : Mem) => (if v3_8 = 0 then (xt_X0_workOut_l29 hM k n (0 : Int32) (v2 + (2 : Int32)) (mgs (mgs hM [10, 12] m_9) [11] m_6)) else (xt_X0_workOut_l29 hM k n (1 : Int32) (v2 + (2 : Int32)) (mgs (mgs hM [10, 12] m_9) [11] m_6)))) 5000 v3_5 (0 : Int32) (mgs (mgs hM [10] m_6) [12] mM))) 5000 (0 : Int32) (0 : Int32) (mgs hM [10, 11] mM))))
def xt_X0_workOut (hM : Mem) : Option (Mem) := (Option.bind (xt_J7_fill_53178 4096 (-6 : Int32) (hM 10)) (fun (o_1 : (Nat → Int32)) => (Option.bind (xt_J7_fill_53178 120 (0 : Int32) (hM 11)) (fun (o_2 : (Nat → Int32)) => (Option.bind (xt_J7_fill_53178 120 (0 : Int32) (hM 12)) (fun (o_3 : (Nat → Int32)) => (xt_X0_workOut_l29 (mset (mset (mset hM 10 o_1) 11 o_2) 12 o_3) (fun (m_10 : Mem) => (some (mgs hM [10, 11, 12] m_10))) 5000 (1 : Int32) (0 : Int32) (mset (mset (mset hM 10 o_1) 11 o_2) 12 o_3))))))))
def xt_X0_prepare (sp1 : Nat → Int32) (hM : Mem) : Option (Mem) := (Option.bind (xt_X0_signOf sp1) (fun (o_1 : Int32) => (if ((hM 9) 4) = o_1 then (some hM) else (Option.bind (xt_X0_signOf sp1) (fun (o_2 : Int32) => (Option.bind (xt_X6_setting (0 : Int32) sp1) (fun (o_3 : Int32) => (if o_3 = (1 : Int32) then (Option.bind (xt_X6_setting (1 : Int32) sp1) (fun (o_11 : Int32) => (if o_11 = (1 : Int32) then (Option.bind (xt_X6_setting (2 : Int32) sp1) (fun (o_15 : Int32) => (if o_15 = (1 : Int32) then (Option.bind (xt_X0_workOut (mset hM 9 (upd (upd (upd (upd (upd (hM 9) 4 o_2) 5 ((65535 : Int32) &&& ((sp1 1) ^^^ (-1 : Int32)))) 6 (1 : Int32)) 7 (1 : Int32)) 8 (1 : Int32)))) (fun (o_17 : Mem) => (some (mgs (mset hM 9 (upd (upd (upd (upd (upd (hM 9) 4 o_2) 5 ((65535 : Int32) &&& ((sp1 1) ^^^ (-1 : Int32)))) 6 (1 : Int32)) 7 (1 : Int32)) 8 (1 : Int32))) [10, 11, 12] o_17)))) else (Option.bind (xt_X0_workOut (mset hM 9 (upd (upd (upd (upd (upd (hM 9) 4 o_2) 5 ((65535 : Int32) &&& ((sp1 1) ^^^ (-1 : Int32)))) 6 (1 : Int32)) 7 (1 : Int32)) 8 (0 : Int32)))) (fun (o_16 : Mem) => (some (mgs (mset hM 9 (upd (upd (upd (upd (upd (hM 9) 4 o_2) 5 ((65535 : Int32) &&& ((sp1 1) ^^^ (-1 : Int32)))) 6 (1 : Int32)) 7 (1 : Int32)) 8 (0 : Int32))) [10, 11, 12] o_16))))))) else (Option.bind (xt_X6_setting (2 : Int32) sp1) (fun (o_12 : Int32) => (if o_12 = (1 : Int32) then (Option.bind (xt_X0_workOut (mset hM 9 (upd (upd (upd (upd (upd (hM 9) 4 o_2) 5 ((65535 : Int32) &&& ((sp1 1) ^^^ (-1 : Int32)))) 6 (1 : Int32)) 7 (0 : Int32)) 8 (1 : Int32)))) (fun (o_14 : Mem) => (some (mgs (mset hM 9 (upd (upd (upd (upd (upd (hM 9) 4 o_2) 5 ((65535 : Int32) &&& ((sp1 1) ^^^ (-1 : Int32)))) 6 (1 : Int32)) 7 (0 : Int32)) 8 (1 : Int32))) [10, 11, 12] o_14)))) else (Option.bind (xt_X0_workOut (mset hM 9 (upd (upd (upd (upd (upd (hM 9) 4 o_2) 5 ((65535 : Int32) &&& ((sp1 1) ^^^ (-1 : Int32)))) 6 (1 : Int32)) 7 (0 : Int32)) 8 (0 : Int32)))) (fun (o_13 : Mem) => (some (mgs (mset hM 9 (upd (upd (upd (upd (upd (hM 9) 4 o_2) 5 ((65535 : Int32) &&& ((sp1 1) ^^^ (-1 : Int32)))) 6 (1 : Int32)) 7 (0 : Int32)) 8 (0 : Int32))) [10, 11, 12] o_13)))))))))) else (Option.bind (xt_X6_setting (1 : Int32) sp1) (fun (o_4 : Int32) => (if o_4 = (1 : Int32) then (Option.bind (xt_X6_setting (2 : Int32) sp1) (fun (o_8 : Int32) => (if o_8 = (1 : Int32) then (Option.bind (xt_X0_workOut (mset hM 9 (upd (upd (upd (upd (upd (hM 9) 4 o_2) 5 ((65535 : Int32) &&& ((sp1 1) ^^^ (-1 : Int32)))) 6 (0 : Int32)) 7 (1 : Int32)) 8 (1 : Int32)))) (fun (o_10 : Mem) => (some (mgs (mset hM 9 (upd (upd (upd (upd (upd (hM 9) 4 o_2) 5 ((65535 : Int32) &&& ((sp1 1) ^^^ (-1 : Int32)))) 6 (0 : Int32)) 7 (1 : Int32)) 8 (1 : Int32))) [10, 11, 12] o_10)))) else (Option.bind (xt_X0_workOut (mset hM 9 (upd (upd (upd (upd (upd (hM 9) 4 o_2) 5 ((65535 : Int32) &&& ((sp1 1) ^^^ (-1 : Int32)))) 6 (0 : Int32)) 7 (1 : Int32)) 8 (0 : Int32)))) (fun (o_9 : Mem) => (some (mgs (mset hM 9 (upd (upd (upd (upd (upd (hM 9) 4 o_2) 5 ((65535 : Int32) &&& ((sp1 1) ^^^ (-1 : Int32)))) 6 (0 : Int32)) 7 (1 : Int32)) 8 (0 : Int32))) [10, 11, 12] o_9))))))) else (Option.bind (xt_X6_setting (2 : Int32) sp1) (fun (o_5 : Int32) => (if o_5 = (1 : Int32) then (Option.bind (xt_X0_workOut (mset hM 9 (upd (upd (upd (upd (upd (hM 9) 4 o_2) 5 ((65535 : Int32) &&& ((sp1 1) ^^^ (-1 : Int32)))) 6 (0 : Int32)) 7 (0 : Int32)) 8 (1 : Int32)))) (fun (o_7 : Mem) => (some (mgs (mset hM 9 (upd (upd (upd (upd (upd (hM 9) 4 o_2) 5 ((65535 : Int32) &&& ((sp1 1) ^^^ (-1 : Int32)))) 6 (0 : Int32)) 7 (0 : Int32)) 8 (1 : Int32))) [10, 11, 12] o_7)))) else (Option.bind (xt_X0_workOut (mset hM 9 (upd (upd (upd (upd (upd (hM 9) 4 o_2) 5 ((65535 : Int32) &&& ((sp1 1) ^^^ (-1 : Int32)))) 6 (0 : Int32)) 7 (0 : Int32)) 8 (0 : Int32)))) (fun (o_6 : Mem) => (some (mgs (mset hM 9 (upd (upd (upd (upd (upd (hM 9) 4 o_2) 5 ((65535 : Int32) &&& ((sp1 1) ^^^ (-1 : Int32)))) 6 (0 : Int32)) 7 (0 : Int32)) 8 (0 : Int32))) [10, 11, 12] o_6))))))))))))))))))
def xt_X3_numberOf (x1 : Int32) (x2 : Int32) (x3 : Int32) (x4 : Int32) (hM : Mem) : Option (Int32) := (Option.bind (xt_X3_pairOf x3 x4 hM) (fun (o_1 : Int32) => (some ((((2048 : Int32) * x1) + ((128 : Int32) * x2)) + o_1))))
def xt_X8_numberNow (sp1 : Nat → Int32) (hM : Mem) : Option (Int32) := (Option.bind (xt_X3_numberOf (sp1 2) (sp1 3) (sp1 4) (sp1 5) hM) (fun (o_1 : Int32) => (some o_1)))
def xt_X0_at (x1 : Int32) (hM : Mem) : Option (Int32) := (if x1 < 0 then (some (-6 : Int32)) else (if (4096 : Int32) ≤ x1 then (some (-6 : Int32)) else (xgd x1 4096 (some ((hM 10) x1.toNatClampNeg)))))
def xt_X8_distanceNow (hM : Mem) : Option (Int32 × Mem) := (Option.bind (xt_X2_caught (hM 21) hM) (fun (o_1 : Int32) => (if o_1 = 0 then (Option.bind (xt_X0_prepare (hM 21) hM) (fun (o_2 : Mem) => (Option.bind (xt_X8_numberNow (hM 21) hM) (fun (o_3 : Int32) => (Option.bind (xt_X0_at o_3 (mgs hM [9, 10] o_2)) (fun (o_4 : Int32) => (some (o_4, (mgs hM [9, 10, 11, 12] o_2))))))))) else (some ((0 : Int32), hM)))))
def xt_X8_setUp (x1 : Int32) (x2 : Int32) (x3 : Int32) (x4 : Int32) (hM : Mem) : Option (Int32 × Mem) := (Option.bind (xt_X8_errorOf x1 x2 x3 x4 hM) (fun (o_1 : Int32) => (if o_1 = 0 then (Option.bind (xt_X4_record (hM 21) hM) (fun (o_2 : Mem) => (Option.bind (xt_X6_place x1 x2 x3 x4 (hM 21)) (fun (o_4 : (Nat → Int32)) => (Option.bind (xt_X8_distanceNow (mset hM 21 o_4)) (fun (o_5 : Int32 × Mem) => (some (o_5.1, (mgs (mgs (mset hM 21 o_4) [9, 10, 11, 12] o_5.2) [23, 60, 61, 62, 63, 64, 65] o_2))))))))) else (some (o_1, hM)))))
def xt_X9_whyNot (x1 : Int32) (x2 : Int32) (x3 : Int32) (x4 : Int32) (hM : Mem) : Option (Int32) := (Option.bind (xt_X9_isPlace x2) (fun (o_1 : Int32) => (if o_1 = 0 then (some (-1 : Int32)) else (Option.bind (xt_X9_isPlace x3) (fun (o_2 : Int32) => (if o_2 = 0 then (some (-1 : Int32)) else (Option.bind (xt_X9_isPlace x4) (fun (o_3 : Int32) => (if o_3 = 0 then (some (-1 : Int32)) else (Option.bind (xt_X9_in x1 (0 : Int32) (1 : Int32)) (fun (o_4 : Int32) => (if o_4 = 0 then (some (-2 : Int32)) else (if x2 = x3 then (some (-2 : Int32)) else (if x2 = x4 then (some (-2 : Int32)) else (if x3 = x4 then (some (-2 : Int32)) else (Option.bind (xt_X9_isFree x2 hM) (fun (o_5 : Int32) => (if o_5 = 0 then (some (-2 : Int32)) else (Option.bind (xt_X9_isFree x3 hM) (fun (o_6 : Int32) => (if o_6 = 0 then (some (-2 : Int32)) else (Option.bind (xt_X9_isFree x4 hM) (fun (o_7 : Int32) => (if o_7 = 0 then (some (-2 : Int32)) else (some (0 : Int32))))))))))))))))))))))))))
def xt_X9_lesser (x0 : Int32) (x1 : Int32) : Option (Int32) := (if x1 ≤ x0 then (some x1) else (some x0))
def xt_X9_greater (x0 : Int32) (x1 : Int32) : Option (Int32) := (if x0 ≤ x1 then (some x1) else (some x0))
def xt_X9_lay (x1 : Int32) (x2 : Int32) (x3 : Int32) (x4 : Int32) (hM : Mem) : Option (Mem) := (xgd (4 : Int32) 8 (xgd (5 : Int32) 8 (Option.bind (xt_X9_lesser x3 x4) (fun (o_1 : Int32) => (xgd (6 : Int32) 8 (Option.bind (xt_X9_greater x3 x4) (fun (o_2 : Int32) => (xgd (7 : Int32) 8 (some (mset hM 32 (upd (upd (upd (upd (hM 32) (4 : Int32).toNatClampNeg x1) (5 : Int32).toNatClampNeg x2) (6 : Int32).toNatClampNeg o_1) (7 : Int32).toNatClampNeg o_2)))))))))))
def xt_X9_isAsWorked_l7 (hM : Mem) (k : Int32 → Option (Int32)) : Nat → Int32 → Int32 → Option (Int32)
  | 0, _, _ => none
  | n + 1, v1, v2 => (if (4 : Int32) ≤ v2 then (k v1) else (xgd v2 4 (xgd v2 8 (if ((hM 44) v2.toNatClampNeg) = ((hM 32) v2.toNatClampNeg) then (xt_X9_isAsWorked_l7 hM k n (v1 &&& (1 : Int32)) (v2 + (1 : Int32))) else (xt_X9_isAsWorked_l7 hM k n (v1 &&& (0 : Int32)) (v2 + (1 : Int32)))))))
def xt_X9_isAsWorked (hM : Mem) : Option (Int32) := (xt_X9_isAsWorked_l7 hM (fun (v1_1 : Int32) => (xgb v1_1 (some v1_1))) 5000 ((hM 31) 16) (0 : Int32))
def xt_X9_isPosition (x1 : Int32) (hM : Mem) : Option (Int32) := (if (120 : Int32) ≤ (x1 - x1 / (128 : Int32) * (128 : Int32)) then (some (0 : Int32)) else (Option.bind (xt_X9_isFree ((x1 / (128 : Int32)) - (x1 / (128 : Int32)) / (16 : Int32) * (16 : Int32)) hM) (fun (o_1 : Int32) => (if o_1 = 0 then (some (0 : Int32)) else (xgd (x1 - x1 / (128 : Int32) * (128 : Int32)) 120 (xgd (x1 - x1 / (128 : Int32) * (128 : Int32)) 120 (if ((hM 36) (x1 - x1 / (128 : Int32) * (128 : Int32)).toNatClampNeg) = ((x1 / (128 : Int32)) - (x1 / (128 : Int32)) / (16 : Int32) * (16 : Int32)) then (some (0 : Int32)) else (if ((hM 37) (x1 - x1 / (128 : Int32) * (128 : Int32)).toNatClampNeg) = ((x1 / (128 : Int32)) - (x1 / (128 : Int32)) / (16 : Int32) * (16 : Int32)) then (some (0 : Int32)) else (Option.bind (xt_X9_isFree ((hM 36) (x1 - x1 / (128 : Int32) * (128 : Int32)).toNatClampNeg) hM) (fun (o_2 : Int32) => (if o_2 = 0 then (some (0 : Int32)) else (Option.bind (xt_X9_isFree ((hM 37) (x1 - x1 / (128 : Int32) * (128 : Int32)).toNatClampNeg) hM) (fun (o_3 : Int32) => (if o_3 = 0 then (some (0 : Int32)) else (some (1 : Int32))))))))))))))))
def xt_X9_size (x0 : Int32) : Option (Int32) := (if 0 ≤ x0 then (some x0) else (some (-x0)))
def xt_X9_rowsBetween (x0 : Int32) (x1 : Int32) : Option (Int32) := (Option.bind (xt_X9_size ((x0 / (4 : Int32)) - (x1 / (4 : Int32)))) (fun (o_1 : Int32) => (some o_1)))
def xt_X9_columnsBetween (x0 : Int32) (x1 : Int32) : Option (Int32) := (Option.bind (xt_X9_size ((x0 - x0 / (4 : Int32) * (4 : Int32)) - (x1 - x1 / (4 : Int32) * (4 : Int32)))) (fun (o_1 : Int32) => (some o_1)))
def xt_X9_between (x0 : Int32) (x1 : Int32) : Option (Int32) := (Option.bind (xt_X9_rowsBetween x0 x1) (fun (o_1 : Int32) => (Option.bind (xt_X9_columnsBetween x0 x1) (fun (o_2 : Int32) => (some (o_1 + o_2))))))
def xt_X9_isStep (x0 : Int32) (x1 : Int32) (x2 : Int32) : Option (Int32) := (Option.bind (xt_X9_between x0 x1) (fun (o_1 : Int32) => (if o_1 = (1 : Int32) then (some (1 : Int32)) else (if x2 = 0 then (some (0 : Int32)) else (Option.bind (xt_X9_rowsBetween x0 x1) (fun (o_2 : Int32) => (if o_2 = (1 : Int32) then (Option.bind (xt_X9_columnsBetween x0 x1) (fun (o_3 : Int32) => (if o_3 = (1 : Int32) then (some (1 : Int32)) else (some (0 : Int32))))) else (some (0 : Int32)))))))))
def xt_X9_canCatch (x1 : Int32) (x2 : Int32) (hM : Mem) : Option (Int32) := (xgd x2 120 (xgd (1 : Int32) 8 (if ((hM 32) (1 : Int32).toNatClampNeg) = (1 : Int32) then (Option.bind (xt_X9_isStep ((hM 36) x2.toNatClampNeg) x1 (1 : Int32)) (fun (o_4 : Int32) => (if o_4 = 0 then (xgd x2 120 (xgd (1 : Int32) 8 (if ((hM 32) (1 : Int32).toNatClampNeg) = (1 : Int32) then (Option.bind (xt_X9_isStep ((hM 37) x2.toNatClampNeg) x1 (1 : Int32)) (fun (o_6 : Int32) => (if o_6 = 0 then (some (0 : Int32)) else (some (1 : Int32))))) else (Option.bind (xt_X9_isStep ((hM 37) x2.toNatClampNeg) x1 (0 : Int32)) (fun (o_5 : Int32) => (if o_5 = 0 then (some (0 : Int32)) else (some (1 : Int32)))))))) else (some (1 : Int32))))) else (Option.bind (xt_X9_isStep ((hM 36) x2.toNatClampNeg) x1 (0 : Int32)) (fun (o_1 : Int32) => (if o_1 = 0 then (xgd x2 120 (xgd (1 : Int32) 8 (if ((hM 32) (1 : Int32).toNatClampNeg) = (1 : Int32) then (Option.bind (xt_X9_isStep ((hM 37) x2.toNatClampNeg) x1 (1 : Int32)) (fun (o_3 : Int32) => (if o_3 = 0 then (some (0 : Int32)) else (some (1 : Int32))))) else (Option.bind (xt_X9_isStep ((hM 37) x2.toNatClampNeg) x1 (0 : Int32)) (fun (o_2 : Int32) => (if o_2 = 0 then (some (0 : Int32)) else (some (1 : Int32)))))))) else (some (1 : Int32))))))))
def xt_X9_pair (x0 : Int32) (x1 : Int32) : Option (Int32) := (Option.bind (xt_X9_lesser x0 x1) (fun (o_1 : Int32) => (Option.bind (xt_X9_greater x0 x1) (fun (o_2 : Int32) => (some (((((o_1 * ((31 : Int32) - o_1)) / (2 : Int32)) + o_2) - o_1) - (1 : Int32)))))))
def xt_X9_numberOf (x0 : Int32) (x1 : Int32) (x2 : Int32) (x3 : Int32) : Option (Int32) := (Option.bind (xt_X9_pair x2 x3) (fun (o_1 : Int32) => (some ((((2048 : Int32) * x0) + ((128 : Int32) * x1)) + o_1))))
def xt_X9_nearer (x0 : Int32) (x1 : Int32) : Option (Int32) := (if 0 ≤ x0 then (if 0 ≤ x1 then (Option.bind (xt_X9_lesser x0 x1) (fun (o_1 : Int32) => (some o_1))) else (some x0)) else (some x1))
def xt_X9_ofHunter_l7 (x1 : Int32) (x2 : Int32) (x3 : Int32) (hM : Mem) (k : Int32 → Option (Int32)) : Nat → Int32 → Int32 → Option (Int32)
  | 0, _, _ => none
  | n + 1, v4, v5 => (if (16 : Int32) ≤ v5 then (k v4) else (Option.bind (xt_X9_isFree v5 hM) (fun (o_1 : Int32) => (if o_1 = 0 then (xt_X9_ofHunter_l7 x1 x2 x3 hM k n v4 (v5 + (1 : Int32))) else (if v5 = x3 then (xt_X9_ofHunter_l7 x1 x2 x3 hM k n v4 (v5 + (1 : Int32))) else (if v5 = x1 then (xt_X9_ofHunter_l7 x1 x2 x3 hM k n v4 (v5 + (1 : Int32))) else (xgd (1 : Int32) 8 (if ((hM 32) (1 : Int32).toNatClampNeg) = (1 : Int32) then (Option.bind (xt_X9_isStep x2 v5 (1 : Int32)) (fun (o_5 : Int32) => (if o_5 = 0 then (xt_X9_ofHunter_l7 x1 x2 x3 hM k n v4 (v5 + (1 : Int32))) else (Option.bind (xt_X9_numberOf (1 : Int32) x1 v5 x3) (fun (o_6 : Int32) => (xgd o_6 4096 (Option.bind (xt_X9_nearer v4 ((hM 38) o_6.toNatClampNeg)) (fun (o_7 : Int32) => (xt_X9_ofHunter_l7 x1 x2 x3 hM k n o_7 (v5 + (1 : Int32))))))))))) else (Option.bind (xt_X9_isStep x2 v5 (0 : Int32)) (fun (o_2 : Int32) => (if o_2 = 0 then (xt_X9_ofHunter_l7 x1 x2 x3 hM k n v4 (v5 + (1 : Int32))) else (Option.bind (xt_X9_numberOf (1 : Int32) x1 v5 x3) (fun (o_3 : Int32) => (xgd o_3 4096 (Option.bind (xt_X9_nearer v4 ((hM 38) o_3.toNatClampNeg)) (fun (o_4 : Int32) => (xt_X9_ofHunter_l7 x1 x2 x3 hM k n o_4 (v5 + (1 : Int32)))))))))))))))))))
def xt_X9_ofHunter (x1 : Int32) (x2 : Int32) (x3 : Int32) (hM : Mem) : Option (Int32) := (xt_X9_ofHunter_l7 x1 x2 x3 hM (fun (v4_8 : Int32) => (some v4_8)) 5000 (-6 : Int32) (0 : Int32))
def xt_X9_ofHunters (x1 : Int32) (x2 : Int32) (hM : Mem) : Option (Int32) := (Option.bind (xt_X9_canCatch x1 x2 hM) (fun (o_1 : Int32) => (if o_1 = 0 then (xgd x2 120 (xgd x2 120 (Option.bind (xt_X9_ofHunter x1 ((hM 36) x2.toNatClampNeg) ((hM 37) x2.toNatClampNeg) hM) (fun (o_2 : Int32) => (xgd x2 120 (xgd x2 120 (Option.bind (xt_X9_ofHunter x1 ((hM 37) x2.toNatClampNeg) ((hM 36) x2.toNatClampNeg) hM) (fun (o_3 : Int32) => (Option.bind (xt_X9_nearer o_2 o_3) (fun (o_4 : Int32) => (xgd (2 : Int32) 8 (if ((hM 32) (2 : Int32).toNatClampNeg) = (1 : Int32) then (xgd (((2048 : Int32) + ((128 : Int32) * x1)) + x2) 4096 (Option.bind (xt_X9_nearer o_4 ((hM 38) (((2048 : Int32) + ((128 : Int32) * x1)) + x2).toNatClampNeg)) (fun (o_5 : Int32) => (if 0 ≤ o_5 then (some (o_5 + (1 : Int32))) else (some (-6 : Int32)))))) else (if 0 ≤ o_4 then (some (o_4 + (1 : Int32))) else (some (-6 : Int32))))))))))))))) else (some (1 : Int32)))))
def xt_X9_ofFox_l5 (x1 : Int32) (x2 : Int32) (hM : Mem) (k : Int32 → Option (Int32)) : Nat → Int32 → Int32 → Option (Int32)
  | 0, _, _ => none
  | n + 1, v3, v4 => (if (16 : Int32) ≤ v4 then (k v3) else (Option.bind (xt_X9_isFree v4 hM) (fun (o_1 : Int32) => (if o_1 = 0 then (xt_X9_ofFox_l5 x1 x2 hM k n v3 (v4 + (1 : Int32))) else (xgd x2 120 (if v4 = ((hM 36) x2.toNatClampNeg) then (xt_X9_ofFox_l5 x1 x2 hM k n v3 (v4 + (1 : Int32))) else (xgd x2 120 (if v4 = ((hM 37) x2.toNatClampNeg) then (xt_X9_ofFox_l5 x1 x2 hM k n v3 (v4 + (1 : Int32))) else (xgd (0 : Int32) 8 (if ((hM 32) (0 : Int32).toNatClampNeg) = (1 : Int32) then (Option.bind (xt_X9_isStep x1 v4 (1 : Int32)) (fun (o_4 : Int32) => (if o_4 = 0 then (xt_X9_ofFox_l5 x1 x2 hM k n v3 (v4 + (1 : Int32))) else (xgd (((128 : Int32) * v4) + x2) 4096 (if 0 ≤ ((hM 38) (((128 : Int32) * v4) + x2).toNatClampNeg) then (Option.bind (xt_X9_greater v3 (((hM 38) (((128 : Int32) * v4) + x2).toNatClampNeg) + (1 : Int32))) (fun (o_5 : Int32) => (xt_X9_ofFox_l5 x1 x2 hM k n o_5 (v4 + (1 : Int32))))) else (some (-6 : Int32))))))) else (Option.bind (xt_X9_isStep x1 v4 (0 : Int32)) (fun (o_2 : Int32) => (if o_2 = 0 then (xt_X9_ofFox_l5 x1 x2 hM k n v3 (v4 + (1 : Int32))) else (xgd (((128 : Int32) * v4) + x2) 4096 (if 0 ≤ ((hM 38) (((128 : Int32) * v4) + x2).toNatClampNeg) then (Option.bind (xt_X9_greater v3 (((hM 38) (((128 : Int32) * v4) + x2).toNatClampNeg) + (1 : Int32))) (fun (o_3 : Int32) => (xt_X9_ofFox_l5 x1 x2 hM k n o_3 (v4 + (1 : Int32))))) else (some (-6 : Int32)))))))))))))))))
def xt_X9_ofFox (x1 : Int32) (x2 : Int32) (hM : Mem) : Option (Int32) := (xt_X9_ofFox_l5 x1 x2 hM (fun (v3_6 : Int32) => (some v3_6)) 5000 (0 : Int32) (0 : Int32))
def xt_X9_workOut_l4 (x1 : Int32) (hM : Mem) (k : Int32 → Mem → Option (Int32 × Mem)) : Nat → Int32 → Int32 → Mem → Option (Int32 × Mem)
  | 0, _, _, _ => none
  | n + 1, v2, v3, mM => (if (4096 : Int32) ≤ v3 then (k v2 (mgs hM [38] mM)) else (xgd v3 4096 (if 0 ≤ ((mM 38) v3.toNatClampNeg) then (xt_X9_workOut_l4 x1 hM k n v2 (v3 + (1 : Int32)) (mgs hM [38] mM)) else (Option.bind (xt_X9_isPosition v3 hM) (fun (o_1 : Int32) => (if o_1 = 0 then (xt_X9_workOut_l4 x1 hM k n v2 (v3 + (1 : Int32)) (mgs hM [38] mM)) else (if (2048 : Int32) ≤ v3 then (Option.bind (xt_X9_ofFox ((v3 / (128 : Int32)) - (v3 / (128 : Int32)) / (16 : Int32) * (16 : Int32)) (v3 - v3 / (128 : Int32) * (128 : Int32)) (mgs hM [38] mM)) (fun (o_2 : Int32) => (if o_2 = x1 then (xgd v3 4096 (xt_X9_workOut_l4 x1 hM k n (1 : Int32) (v3 + (1 : Int32)) (mset hM 38 (upd (mM 38) v3.toNatClampNeg o_2)))) else (xt_X9_workOut_l4 x1 hM k n v2 (v3 + (1 : Int32)) (mgs hM [38] mM))))) else (Option.bind (xt_X9_ofHunters ((v3 / (128 : Int32)) - (v3 / (128 : Int32)) / (16 : Int32) * (16 : Int32)) (v3 - v3 / (128 : Int32) * (128 : Int32)) (mgs hM [38] mM)) (fun (o_3 : Int32) => (if o_3 = x1 then (xgd v3 4096 (xt_X9_workOut_l4 x1 hM k n (1 : Int32) (v3 + (1 : Int32)) (mset hM 38 (upd (mM 38) v3.toNatClampNeg o_3)))) else (xt_X9_workOut_l4 x1 hM k n v2 (v3 + (1 : Int32)) (mgs hM [38] mM))))))))))))
def xt_X9_workOut (x1 : Int32) (hM : Mem) : Option (Int32 × Mem) := (xt_X9_workOut_l4 x1 hM (fun (v2_4 : Int32) (m_5 : Mem) => (xgb v2_4 (some (v2_4, (mgs hM [38] m_5))))) 5000 (0 : Int32) (0 : Int32) hM)
def xt_X9_workOutAll_l2 (hM : Mem) (k : Mem → Option (Mem)) : Nat → Int32 → Mem → Option (Mem)
  | 0, _, _ => none
  | n + 1, v1, mM => (if (4096 : Int32) ≤ v1 then (k (mgs hM [38] mM)) else (xgd v1 4096 (xt_X9_workOutAll_l2 hM k n (v1 + (1 : Int32)) (mset hM 38 (upd (mM 38) v1.toNatClampNeg (-6 : Int32))))))
def xt_X9_workOutAll_l27 (hM : Mem) (k : Mem → Option (Mem)) : Nat → Int32 → Int32 → Mem → Option (Mem)
  | 0, _, _, _ => none
  | n + 1, v1, v2, mM => (if (3 : Int32) ≤ v1 then (k (mgs hM [38] mM)) else (Option.bind (xt_X9_workOut v2 (mgs hM [38] mM)) (fun (o_2 : Int32 × Mem) => (if o_2.1 = 0 then (xt_X9_workOutAll_l27 hM k n (v1 + (1 : Int32)) (v2 + (1 : Int32)) (mgs hM [38] o_2.2)) else (xt_X9_workOutAll_l27 hM k n (0 : Int32) (v2 + (1 : Int32)) (mgs hM [38] o_2.2))))))
def xt_X9_workOutAll (hM : Mem) : Option (Mem) := (xt_X9_workOutAll_l2 hM (fun (m_1 : Mem) => (xt_X9_workOutAll_l27 (mgs hM [38] m_1) (fun (m_3 : Mem) => (some (mgs hM [38] m_3))) 5000 (0 : Int32) (0 : Int32) (mgs hM [38] m_1))) 5000 (0 : Int32) hM)
def xt_X9_turned (x0 : Int32) (x1 : Int32) : Option (Int32) := (if (x0 &&& (1 : Int32)) = (1 : Int32) then (if (x0 &&& (2 : Int32)) = (2 : Int32) then (if (x0 &&& (4 : Int32)) = (4 : Int32) then (some (((4 : Int32) * ((3 : Int32) - (x1 - x1 / (4 : Int32) * (4 : Int32)))) + ((3 : Int32) - (x1 / (4 : Int32))))) else (some (((4 : Int32) * ((3 : Int32) - (x1 / (4 : Int32)))) + ((3 : Int32) - (x1 - x1 / (4 : Int32) * (4 : Int32)))))) else (if (x0 &&& (4 : Int32)) = (4 : Int32) then (some (((4 : Int32) * (x1 - x1 / (4 : Int32) * (4 : Int32))) + ((3 : Int32) - (x1 / (4 : Int32))))) else (some (((4 : Int32) * ((3 : Int32) - (x1 / (4 : Int32)))) + (x1 - x1 / (4 : Int32) * (4 : Int32)))))) else (if (x0 &&& (2 : Int32)) = (2 : Int32) then (if (x0 &&& (4 : Int32)) = (4 : Int32) then (some (((4 : Int32) * ((3 : Int32) - (x1 - x1 / (4 : Int32) * (4 : Int32)))) + (x1 / (4 : Int32)))) else (some (((4 : Int32) * (x1 / (4 : Int32))) + ((3 : Int32) - (x1 - x1 / (4 : Int32) * (4 : Int32)))))) else (if (x0 &&& (4 : Int32)) = (4 : Int32) then (some (((4 : Int32) * (x1 - x1 / (4 : Int32) * (4 : Int32))) + (x1 / (4 : Int32)))) else (some (((4 : Int32) * (x1 / (4 : Int32))) + (x1 - x1 / (4 : Int32) * (4 : Int32)))))))
def xt_X9_findSymmetries_l17 (x1 : Int32) (hM : Mem) (k : Int32 → Mem → Option (Mem)) : Nat → Int32 → Int32 → Mem → Option (Mem)
  | 0, _, _, _ => none
  | n + 1, v2, v3, mM => (if (16 : Int32) ≤ v3 then (k v2 (mgs hM [41] mM)) else (Option.bind (xt_X9_turned x1 v3) (fun (o_1 : Int32) => (xgd (3 : Int32) 8 (Option.bind (xt_X9_has ((hM 32) (3 : Int32).toNatClampNeg) v3) (fun (o_2 : Int32) => (if o_2 = 0 then (xgd (((16 : Int32) * ((hM 31) 12)) + v3) 128 (xt_X9_findSymmetries_l17 x1 hM k n (v2 ||| (0 : Int32)) (v3 + (1 : Int32)) (mset hM 41 (upd (mM 41) (((16 : Int32) * ((hM 31) 12)) + v3).toNatClampNeg o_1)))) else (xgd (((16 : Int32) * ((hM 31) 12)) + v3) 128 (xt_X9_findSymmetries_l17 x1 hM k n (v2 ||| ((1 : Int32) <<< (o_1 &&& 31))) (v3 + (1 : Int32)) (mset hM 41 (upd (mM 41) (((16 : Int32) * ((hM 31) 12)) + v3).toNatClampNeg o_1)))))))))))
def xt_X9_findSymmetries_l7 (hM : Mem) (k : Mem → Option (Mem)) : Nat → Int32 → Mem → Option (Mem)
  | 0, _, _ => none
  | n + 1, v1, mM => (if (8 : Int32) ≤ v1 then (k (mgs hM [31, 41] mM)) else (xt_X9_findSymmetries_l17 v1 (mgs hM [31, 41] mM) (fun (v2_3 : Int32) (m_4 : Mem) => (xgd (3 : Int32) 8 (if v2_3 = ((hM 32) (3 : Int32).toNatClampNeg) then (xt_X9_findSymmetries_l7 hM k n (v1 + (1 : Int32)) (mgs (mset hM 31 (upd (mM 31) 12 (((mM 31) 12) + (1 : Int32)))) [41] m_4)) else (xt_X9_findSymmetries_l7 hM k n (v1 + (1 : Int32)) (mgs (mset hM 31 (upd (mM 31) 12 (((mM 31) 12) + (0 : Int32)))) [41] m_4))))) 5000 (0 : Int32) (0 : Int32) (mgs hM [41] mM)))
def xt_X9_findSymmetries (hM : Mem) : Option (Mem) := (xt_X9_findSymmetries_l7 (mset hM 31 (upd (hM 31) 12 (0 : Int32))) (fun (m_5 : Mem) => (some (mgs hM [31, 41] m_5))) 5000 (0 : Int32) (mset hM 31 (upd (hM 31) 12 (0 : Int32))))
def xt_X9_madeBy (x1 : Int32) (x2 : Int32) (hM : Mem) : Option (Int32) := (xgd (((16 : Int32) * x1) + ((x2 / (128 : Int32)) - (x2 / (128 : Int32)) / (16 : Int32) * (16 : Int32))) 128 (xgd (x2 - x2 / (128 : Int32) * (128 : Int32)) 120 (xgd (((16 : Int32) * x1) + ((hM 36) (x2 - x2 / (128 : Int32) * (128 : Int32)).toNatClampNeg)) 128 (xgd (x2 - x2 / (128 : Int32) * (128 : Int32)) 120 (xgd (((16 : Int32) * x1) + ((hM 37) (x2 - x2 / (128 : Int32) * (128 : Int32)).toNatClampNeg)) 128 (Option.bind (xt_X9_numberOf (x2 / (2048 : Int32)) ((hM 41) (((16 : Int32) * x1) + ((x2 / (128 : Int32)) - (x2 / (128 : Int32)) / (16 : Int32) * (16 : Int32))).toNatClampNeg) ((hM 41) (((16 : Int32) * x1) + ((hM 36) (x2 - x2 / (128 : Int32) * (128 : Int32)).toNatClampNeg)).toNatClampNeg) ((hM 41) (((16 : Int32) * x1) + ((hM 37) (x2 - x2 / (128 : Int32) * (128 : Int32)).toNatClampNeg)).toNatClampNeg)) (fun (o_1 : Int32) => (some o_1))))))))
def xt_X9_foldOne_l31 (x1 : Int32) (x2 : Int32) (x3 : Int32) (x4 : Int32) (x5 : Int32) (hM : Mem) (k : Int32 → Option (Mem)) : Nat → Int32 → Int32 → Option (Mem)
  | 0, _, _ => none
  | n + 1, v6, v7 => (if x4 ≤ v7 then (k v6) else (Option.bind (xt_X9_madeBy v7 x1 hM) (fun (o_2 : Int32) => (if o_2 = x5 then (xt_X9_foldOne_l31 x1 x2 x3 x4 x5 hM k n (v6 &&& (0 : Int32)) (v7 + (1 : Int32))) else (xt_X9_foldOne_l31 x1 x2 x3 x4 x5 hM k n (v6 &&& (1 : Int32)) (v7 + (1 : Int32)))))))
def xt_X9_foldOne_l7 (x1 : Int32) (hM : Mem) (k : Int32 → Int32 → Option (Mem)) : Nat → Int32 → Int32 → Int32 → Option (Mem)
  | 0, _, _, _ => none
  | n + 1, v2, v3, v4 => (if ((hM 31) 12) ≤ v4 then (k v2 v3) else (Option.bind (xt_X9_madeBy v4 x1 hM) (fun (o_1 : Int32) => (xt_X9_foldOne_l31 x1 v2 v3 v4 o_1 hM (fun (v6_3 : Int32) => (if v6_3 = 0 then (Option.bind (xt_X9_lesser v2 o_1) (fun (o_4 : Int32) => (xt_X9_foldOne_l7 x1 hM k n o_4 (v3 + (0 : Int32)) (v4 + (1 : Int32))))) else (Option.bind (xt_X9_lesser v2 o_1) (fun (o_5 : Int32) => (xt_X9_foldOne_l7 x1 hM k n o_5 (v3 + (1 : Int32)) (v4 + (1 : Int32))))))) 5000 (1 : Int32) (0 : Int32)))))
def xt_X9_foldOne (x1 : Int32) (hM : Mem) : Option (Mem) := (xt_X9_foldOne_l7 x1 hM (fun (v2_6 : Int32) (v3_7 : Int32) => (xgd x1 4096 (xgd x1 4096 (some (mset (mset hM 39 (upd (hM 39) x1.toNatClampNeg v2_6)) 40 (upd (hM 40) x1.toNatClampNeg v3_7)))))) 5000 x1 (0 : Int32) (0 : Int32))
def xt_X9_fold_l2 (hM : Mem) (k : Mem → Option (Mem)) : Nat → Int32 → Mem → Option (Mem)
  | 0, _, _ => none
  | n + 1, v1, mM => (if (4096 : Int32) ≤ v1 then (k (mgs hM [39, 40] mM)) else (xgd v1 4096 (xgd v1 4096 (Option.bind (xt_X9_isPosition v1 hM) (fun (o_1 : Int32) => (if o_1 = 0 then (xt_X9_fold_l2 hM k n (v1 + (1 : Int32)) (mset (mset hM 39 (upd (mM 39) v1.toNatClampNeg (-6 : Int32))) 40 (upd (mM 40) v1.toNatClampNeg (0 : Int32)))) else (Option.bind (xt_X9_foldOne v1 (mset (mset hM 39 (upd (mM 39) v1.toNatClampNeg (-6 : Int32))) 40 (upd (mM 40) v1.toNatClampNeg (0 : Int32)))) (fun (o_2 : Mem) => (xt_X9_fold_l2 hM k n (v1 + (1 : Int32)) (mgs hM [39, 40] o_2))))))))))
def xt_X9_fold (hM : Mem) : Option (Mem) := (xt_X9_fold_l2 hM (fun (m_3 : Mem) => (some (mgs hM [39, 40] m_3))) 5000 (0 : Int32) hM)
def xt_X9_key (x1 : Int32) (hM : Mem) : Option (Int32) := (xgd (x1 - x1 / (128 : Int32) * (128 : Int32)) 120 (Option.bind (xt_X9_between ((x1 / (128 : Int32)) - (x1 / (128 : Int32)) / (16 : Int32) * (16 : Int32)) ((hM 36) (x1 - x1 / (128 : Int32) * (128 : Int32)).toNatClampNeg)) (fun (o_1 : Int32) => (xgd (x1 - x1 / (128 : Int32) * (128 : Int32)) 120 (Option.bind (xt_X9_between ((x1 / (128 : Int32)) - (x1 / (128 : Int32)) / (16 : Int32) * (16 : Int32)) ((hM 37) (x1 - x1 / (128 : Int32) * (128 : Int32)).toNatClampNeg)) (fun (o_2 : Int32) => (Option.bind (xt_X9_lesser o_1 o_2) (fun (o_3 : Int32) => (Option.bind (xt_X9_greater o_1 o_2) (fun (o_4 : Int32) => (some ((((49 : Int32) * (x1 / (2048 : Int32))) + ((7 : Int32) * o_3)) + o_4))))))))))))
def xt_X9_ruleOf_l2 (x1 : Int32) (hM : Mem) (k : Mem → Option (Int32 × Mem)) : Nat → Int32 → Mem → Option (Int32 × Mem)
  | 0, _, _ => none
  | n + 1, v2, mM => (if (202 : Int32) ≤ v2 then (k (mgs hM [43] mM)) else (xgd v2 202 (xt_X9_ruleOf_l2 x1 hM k n (v2 + (1 : Int32)) (mset hM 43 (upd (mM 43) v2.toNatClampNeg (0 : Int32))))))
def xt_X9_ruleOf_l31 (x1 : Int32) (x2 : Int32) (hM : Mem) (k : Int32 → Mem → Option (Int32 × Mem)) : Nat → Int32 → Int32 → Mem → Option (Int32 × Mem)
  | 0, _, _, _ => none
  | n + 1, v3, v4, mM => (if (4096 : Int32) ≤ v4 then (k v3 (mgs hM [43] mM)) else (xgd v4 4096 (if ((hM 39) v4.toNatClampNeg) = v4 then (Option.bind (xt_X9_key v4 hM) (fun (o_2 : Int32) => (if o_2 = x1 then (xgd v4 4096 (if 0 ≤ ((hM 38) v4.toNatClampNeg) then (xgd v4 4096 (xgd ((hM 38) v4.toNatClampNeg) 202 (xgd ((hM 38) v4.toNatClampNeg) 202 (xt_X9_ruleOf_l31 x1 x2 hM k n (1 : Int32) (v4 + (1 : Int32)) (mset hM 43 (upd (mM 43) ((hM 38) v4.toNatClampNeg).toNatClampNeg (((mM 43) ((hM 38) v4.toNatClampNeg).toNatClampNeg) + (1 : Int32)))))))) else (xgd x2 202 (xgd x2 202 (xt_X9_ruleOf_l31 x1 x2 hM k n (1 : Int32) (v4 + (1 : Int32)) (mset hM 43 (upd (mM 43) x2.toNatClampNeg (((mM 43) x2.toNatClampNeg) + (1 : Int32))))))))) else (xt_X9_ruleOf_l31 x1 x2 hM k n v3 (v4 + (1 : Int32)) (mgs hM [43] mM))))) else (xt_X9_ruleOf_l31 x1 x2 hM k n v3 (v4 + (1 : Int32)) (mgs hM [43] mM)))))
def xt_X9_ruleOf_l105 (x2 : Int32) (x3 : Int32) (hM : Mem) (k : Int32 → Option (Int32 × Mem)) : Nat → Int32 → Int32 → Option (Int32 × Mem)
  | 0, _, _ => none
  | n + 1, v4, v5 => (if x2 < v5 then (k v4) else (xgd v5 202 (xgd v4 202 (if ((hM 43) v5.toNatClampNeg) ≤ ((hM 43) v4.toNatClampNeg) then (xt_X9_ruleOf_l105 x2 x3 hM k n v4 (v5 + (1 : Int32))) else (xt_X9_ruleOf_l105 x2 x3 hM k n v5 (v5 + (1 : Int32)))))))
def xt_X9_ruleOf (x1 : Int32) (hM : Mem) : Option (Int32 × Mem) := (xt_X9_ruleOf_l2 x1 hM (fun (m_1 : Mem) => (xt_X9_ruleOf_l31 x1 (201 : Int32) (mgs hM [43] m_1) (fun (v3_3 : Int32) (m_4 : Mem) => (xt_X9_ruleOf_l105 (201 : Int32) v3_3 (mgs hM [43] m_4) (fun (v4_5 : Int32) => (if v3_3 = 0 then (some ((-1 : Int32), (mgs hM [43] m_4))) else (if v4_5 = (201 : Int32) then (some ((-6 : Int32), (mgs hM [43] m_4))) else (some (v4_5, (mgs hM [43] m_4)))))) 5000 (0 : Int32) (1 : Int32))) 5000 (0 : Int32) (0 : Int32) (mgs hM [43] m_1))) 5000 (0 : Int32) hM)
def xt_X9_work_l10 (hM : Mem) (k : Mem → Option (Mem)) : Nat → Int32 → Mem → Option (Mem)
  | 0, _, _ => none
  | n + 1, v1, mM => (if (4 : Int32) ≤ v1 then (k (mgs hM [44] mM)) else (xgd v1 8 (xgd v1 4 (xt_X9_work_l10 hM k n (v1 + (1 : Int32)) (mset hM 44 (upd (mM 44) v1.toNatClampNeg ((hM 32) v1.toNatClampNeg)))))))
def xt_X9_work_l52 (hM : Mem) (k : Mem → Option (Mem)) : Nat → Int32 → Mem → Option (Mem)
  | 0, _, _ => none
  | n + 1, v1, mM => (if (98 : Int32) ≤ v1 then (k (mgs hM [42, 43] mM)) else (Option.bind (xt_X9_ruleOf v1 (mgs hM [43] mM)) (fun (o_6 : Int32 × Mem) => (xgd v1 98 (xt_X9_work_l52 hM k n (v1 + (1 : Int32)) (mgs (mset hM 42 (upd (mM 42) v1.toNatClampNeg o_6.1)) [43] o_6.2))))))
def xt_X9_work (hM : Mem) : Option (Mem) := (Option.bind (xt_X9_isAsWorked hM) (fun (o_1 : Int32) => (if o_1 = 0 then (xt_X9_work_l10 hM (fun (m_2 : Mem) => (Option.bind (xt_X9_workOutAll (mset hM 31 (upd (hM 31) 16 (1 : Int32)))) (fun (o_3 : Mem) => (Option.bind (xt_X9_findSymmetries (mset hM 31 (upd (hM 31) 16 (1 : Int32)))) (fun (o_4 : Mem) => (Option.bind (xt_X9_fold (mgs hM [31, 41] o_4)) (fun (o_5 : Mem) => (xt_X9_work_l52 (mgs (mgs (mgs (mgs hM [31, 41] o_4) [38] o_3) [39, 40] o_5) [44] m_2) (fun (m_7 : Mem) => (some (mgs (mgs (mgs (mgs (mgs hM [31, 41] o_4) [38] o_3) [39, 40] o_5) [42, 43] m_7) [44] m_2))) 5000 (0 : Int32) hM)))))))) 5000 (0 : Int32) hM) else (some hM))))
def xt_X9_isHit (hM : Mem) : Option (Int32) := (xgd (6 : Int32) 8 (xgd (5 : Int32) 8 (if ((hM 32) (6 : Int32).toNatClampNeg) = ((hM 32) (5 : Int32).toNatClampNeg) then (some (1 : Int32)) else (xgd (7 : Int32) 8 (xgd (5 : Int32) 8 (if ((hM 32) (7 : Int32).toNatClampNeg) = ((hM 32) (5 : Int32).toNatClampNeg) then (some (1 : Int32)) else (some (0 : Int32))))))))
def xt_X9_numberNow (hM : Mem) : Option (Int32) := (xgd (4 : Int32) 8 (xgd (5 : Int32) 8 (xgd (6 : Int32) 8 (xgd (7 : Int32) 8 (Option.bind (xt_X9_numberOf ((hM 32) (4 : Int32).toNatClampNeg) ((hM 32) (5 : Int32).toNatClampNeg) ((hM 32) (6 : Int32).toNatClampNeg) ((hM 32) (7 : Int32).toNatClampNeg)) (fun (o_1 : Int32) => (some o_1)))))))
def xt_X9_isCaught (hM : Mem) : Option (Int32 × Mem) := (Option.bind (xt_X9_work hM) (fun (o_1 : Mem) => (Option.bind (xt_X9_isHit (mgs hM [31] o_1)) (fun (o_2 : Int32) => (if o_2 = 0 then (xgd (4 : Int32) 8 (if ((hM 32) (4 : Int32).toNatClampNeg) = (1 : Int32) then (Option.bind (xt_X9_numberNow (mgs hM [31] o_1)) (fun (o_3 : Int32) => (xgd o_3 4096 (if ((o_1 38) o_3.toNatClampNeg) = 0 then (some ((1 : Int32), (mgs hM [31, 38, 39, 40, 41, 42, 43, 44] o_1))) else (some ((0 : Int32), (mgs hM [31, 38, 39, 40, 41, 42, 43, 44] o_1))))))) else (some ((0 : Int32), (mgs hM [31, 38, 39, 40, 41, 42, 43, 44] o_1))))) else (some ((1 : Int32), (mgs hM [31, 38, 39, 40, 41, 42, 43, 44] o_1))))))))
def xt_X9_distanceNow (hM : Mem) : Option (Int32 × Mem) := (Option.bind (xt_X9_isCaught hM) (fun (o_1 : Int32 × Mem) => (if o_1.1 = 0 then (Option.bind (xt_X9_numberNow (mgs hM [31] o_1.2)) (fun (o_2 : Int32) => (xgd o_2 4096 (some (((o_1.2 38) o_2.toNatClampNeg), (mgs hM [31, 38, 39, 40, 41, 42, 43, 44] o_1.2)))))) else (some ((0 : Int32), (mgs hM [31, 38, 39, 40, 41, 42, 43, 44] o_1.2))))))
def xt_X9_setUp (x1 : Int32) (x2 : Int32) (x3 : Int32) (x4 : Int32) (hM : Mem) : Option (Int32 × Mem) := (Option.bind (xt_X9_whyNot x1 x2 x3 x4 hM) (fun (o_1 : Int32) => (if 0 ≤ o_1 then (Option.bind (xt_X9_keep hM) (fun (o_2 : Mem) => (Option.bind (xt_X9_lay x1 x2 x3 x4 (mgs hM [31] o_2)) (fun (o_3 : Mem) => (Option.bind (xt_X9_distanceNow (mgs (mgs hM [31] o_2) [32] o_3)) (fun (o_4 : Int32 × Mem) => (some (o_4.1, (mgs (mgs (mgs hM [31, 38, 39, 40, 41, 42, 43, 44] o_4.2) [32] o_3) [33] o_2))))))))) else (some (o_1, hM)))))
def xt_X2_hunterSteps (x2 : Int32) (sp1 : Nat → Int32) (hM : Mem) : Option (Int32) := (Option.bind (xt_X6_setting (1 : Int32) sp1) (fun (o_1 : Int32) => (if o_1 = (1 : Int32) then (Option.bind (xt_X3_stepsFrom x2 (1 : Int32) hM) (fun (o_4 : Int32) => (Option.bind (xt_X6_hunters sp1) (fun (o_5 : Int32) => (some ((o_4 &&& ((sp1 1) ^^^ (-1 : Int32))) &&& (o_5 ^^^ (-1 : Int32)))))))) else (Option.bind (xt_X3_stepsFrom x2 (0 : Int32) hM) (fun (o_2 : Int32) => (Option.bind (xt_X6_hunters sp1) (fun (o_3 : Int32) => (some ((o_2 &&& ((sp1 1) ^^^ (-1 : Int32))) &&& (o_3 ^^^ (-1 : Int32)))))))))))
def xt_X2_allows (x2 : Int32) (x3 : Int32) (sp1 : Nat → Int32) (hM : Mem) : Option (Int32) := (Option.bind (xt_X2_caught sp1 hM) (fun (o_1 : Int32) => (if o_1 = 0 then (if (sp1 2) = (1 : Int32) then (if x2 = (sp1 3) then (Option.bind (xt_X2_foxSteps sp1 hM) (fun (o_6 : Int32) => (if ((o_6 >>> (x3 &&& 31)) &&& (1 : Int32)) = 0 then (some (0 : Int32)) else (some (1 : Int32))))) else (some (0 : Int32))) else (if x2 = (sp1 4) then (if x2 = x3 then (Option.bind (xt_X6_setting (2 : Int32) sp1) (fun (o_3 : Int32) => (if o_3 = (1 : Int32) then (some (1 : Int32)) else (some (0 : Int32))))) else (Option.bind (xt_X2_hunterSteps x2 sp1 hM) (fun (o_2 : Int32) => (if ((o_2 >>> (x3 &&& 31)) &&& (1 : Int32)) = 0 then (some (0 : Int32)) else (some (1 : Int32)))))) else (if x2 = (sp1 5) then (if x2 = x3 then (Option.bind (xt_X6_setting (2 : Int32) sp1) (fun (o_5 : Int32) => (if o_5 = (1 : Int32) then (some (1 : Int32)) else (some (0 : Int32))))) else (Option.bind (xt_X2_hunterSteps x2 sp1 hM) (fun (o_4 : Int32) => (if ((o_4 >>> (x3 &&& 31)) &&& (1 : Int32)) = 0 then (some (0 : Int32)) else (some (1 : Int32)))))) else (some (0 : Int32))))) else (some (0 : Int32)))))
def xt_X2_make (x2 : Int32) (x3 : Int32) (sp1 : Nat → Int32) : Option ((Nat → Int32)) := (if (sp1 2) = (1 : Int32) then (Option.bind (xt_X6_place (0 : Int32) x3 (sp1 4) (sp1 5) sp1) (fun (o_3 : (Nat → Int32)) => (some o_3))) else (if x2 = (sp1 4) then (Option.bind (xt_X6_place (1 : Int32) (sp1 3) x3 (sp1 5) sp1) (fun (o_2 : (Nat → Int32)) => (some o_2))) else (Option.bind (xt_X6_place (1 : Int32) (sp1 3) x3 (sp1 4) sp1) (fun (o_1 : (Nat → Int32)) => (some o_1)))))
def xt_X8_makeMove (x1 : Int32) (x2 : Int32) (hM : Mem) : Option (Int32 × Mem) := (Option.bind (xt_X4_record (hM 21) hM) (fun (o_1 : Mem) => (Option.bind (xt_X2_make x1 x2 (hM 21)) (fun (o_3 : (Nat → Int32)) => (Option.bind (xt_X2_caught o_3 hM) (fun (o_4 : Int32) => (if o_4 = 0 then (some ((0 : Int32), (mgs (mset hM 21 o_3) [23, 60, 61, 62, 63, 64, 65] o_1))) else (some ((1 : Int32), (mgs (mset hM 21 o_3) [23, 60, 61, 62, 63, 64, 65] o_1))))))))))
def xt_X8_move (x1 : Int32) (x2 : Int32) (hM : Mem) : Option (Int32 × Mem) := (Option.bind (xt_X3_isPlace x1) (fun (o_1 : Int32) => (if o_1 = 0 then (some ((-1 : Int32), hM)) else (Option.bind (xt_X3_isPlace x2) (fun (o_2 : Int32) => (if o_2 = 0 then (some ((-1 : Int32), hM)) else (Option.bind (xt_X2_allows x1 x2 (hM 21) hM) (fun (o_3 : Int32) => (if o_3 = 0 then (some ((-5 : Int32), hM)) else (Option.bind (xt_X8_makeMove x1 x2 hM) (fun (o_4 : Int32 × Mem) => (some (o_4.1, (mgs hM [21, 23, 60, 61, 62, 63, 64, 65] o_4.2))))))))))))))
def xt_X9_isHunterMove (x1 : Int32) (x2 : Int32) (hM : Mem) : Option (Int32) := (xgd (6 : Int32) 8 (if x1 = ((hM 32) (6 : Int32).toNatClampNeg) then (xgd (6 : Int32) 8 (if x1 = ((hM 32) (6 : Int32).toNatClampNeg) then (xgd (7 : Int32) 8 (if x1 = x2 then (xgd (2 : Int32) 8 (if ((hM 32) (2 : Int32).toNatClampNeg) = (1 : Int32) then (some (1 : Int32)) else (some (0 : Int32)))) else (Option.bind (xt_X9_isFree x2 hM) (fun (o_4 : Int32) => (if o_4 = 0 then (some (0 : Int32)) else (if x2 = ((hM 32) (7 : Int32).toNatClampNeg) then (some (0 : Int32)) else (xgd (1 : Int32) 8 (if ((hM 32) (1 : Int32).toNatClampNeg) = (1 : Int32) then (Option.bind (xt_X9_isStep x1 x2 (1 : Int32)) (fun (o_6 : Int32) => (if o_6 = 0 then (some (0 : Int32)) else (some (1 : Int32))))) else (Option.bind (xt_X9_isStep x1 x2 (0 : Int32)) (fun (o_5 : Int32) => (if o_5 = 0 then (some (0 : Int32)) else (some (1 : Int32))))))))))))) else (xgd (6 : Int32) 8 (if x1 = x2 then (xgd (2 : Int32) 8 (if ((hM 32) (2 : Int32).toNatClampNeg) = (1 : Int32) then (some (1 : Int32)) else (some (0 : Int32)))) else (Option.bind (xt_X9_isFree x2 hM) (fun (o_1 : Int32) => (if o_1 = 0 then (some (0 : Int32)) else (if x2 = ((hM 32) (6 : Int32).toNatClampNeg) then (some (0 : Int32)) else (xgd (1 : Int32) 8 (if ((hM 32) (1 : Int32).toNatClampNeg) = (1 : Int32) then (Option.bind (xt_X9_isStep x1 x2 (1 : Int32)) (fun (o_3 : Int32) => (if o_3 = 0 then (some (0 : Int32)) else (some (1 : Int32))))) else (Option.bind (xt_X9_isStep x1 x2 (0 : Int32)) (fun (o_2 : Int32) => (if o_2 = 0 then (some (0 : Int32)) else (some (1 : Int32))))))))))))))) else (xgd (7 : Int32) 8 (if x1 = ((hM 32) (7 : Int32).toNatClampNeg) then (xgd (6 : Int32) 8 (if x1 = ((hM 32) (6 : Int32).toNatClampNeg) then (xgd (7 : Int32) 8 (if x1 = x2 then (xgd (2 : Int32) 8 (if ((hM 32) (2 : Int32).toNatClampNeg) = (1 : Int32) then (some (1 : Int32)) else (some (0 : Int32)))) else (Option.bind (xt_X9_isFree x2 hM) (fun (o_10 : Int32) => (if o_10 = 0 then (some (0 : Int32)) else (if x2 = ((hM 32) (7 : Int32).toNatClampNeg) then (some (0 : Int32)) else (xgd (1 : Int32) 8 (if ((hM 32) (1 : Int32).toNatClampNeg) = (1 : Int32) then (Option.bind (xt_X9_isStep x1 x2 (1 : Int32)) (fun (o_12 : Int32) => (if o_12 = 0 then (some (0 : Int32)) else (some (1 : Int32))))) else (Option.bind (xt_X9_isStep x1 x2 (0 : Int32)) (fun (o_11 : Int32) => (if o_11 = 0 then (some (0 : Int32)) else (some (1 : Int32))))))))))))) else (xgd (6 : Int32) 8 (if x1 = x2 then (xgd (2 : Int32) 8 (if ((hM 32) (2 : Int32).toNatClampNeg) = (1 : Int32) then (some (1 : Int32)) else (some (0 : Int32)))) else (Option.bind (xt_X9_isFree x2 hM) (fun (o_7 : Int32) => (if o_7 = 0 then (some (0 : Int32)) else (if x2 = ((hM 32) (6 : Int32).toNatClampNeg) then (some (0 : Int32)) else (xgd (1 : Int32) 8 (if ((hM 32) (1 : Int32).toNatClampNeg) = (1 : Int32) then (Option.bind (xt_X9_isStep x1 x2 (1 : Int32)) (fun (o_9 : Int32) => (if o_9 = 0 then (some (0 : Int32)) else (some (1 : Int32))))) else (Option.bind (xt_X9_isStep x1 x2 (0 : Int32)) (fun (o_8 : Int32) => (if o_8 = 0 then (some (0 : Int32)) else (some (1 : Int32))))))))))))))) else (xgd (6 : Int32) 8 (if x1 = ((hM 32) (6 : Int32).toNatClampNeg) then (xgd (7 : Int32) 8 (some (0 : Int32))) else (xgd (6 : Int32) 8 (some (0 : Int32)))))))))
def xt_X9_isFoxMove (x1 : Int32) (x2 : Int32) (hM : Mem) : Option (Int32) := (xgd (5 : Int32) 8 (if x1 = ((hM 32) (5 : Int32).toNatClampNeg) then (Option.bind (xt_X9_isFree x2 hM) (fun (o_1 : Int32) => (if o_1 = 0 then (some (0 : Int32)) else (xgd (6 : Int32) 8 (if x2 = ((hM 32) (6 : Int32).toNatClampNeg) then (some (0 : Int32)) else (xgd (7 : Int32) 8 (if x2 = ((hM 32) (7 : Int32).toNatClampNeg) then (some (0 : Int32)) else (xgd (0 : Int32) 8 (if ((hM 32) (0 : Int32).toNatClampNeg) = (1 : Int32) then (Option.bind (xt_X9_isStep x1 x2 (1 : Int32)) (fun (o_3 : Int32) => (if o_3 = 0 then (some (0 : Int32)) else (some (1 : Int32))))) else (Option.bind (xt_X9_isStep x1 x2 (0 : Int32)) (fun (o_2 : Int32) => (if o_2 = 0 then (some (0 : Int32)) else (some (1 : Int32)))))))))))))) else (some (0 : Int32))))
def xt_X9_isMove (x1 : Int32) (x2 : Int32) (hM : Mem) : Option (Int32 × Mem) := (Option.bind (xt_X9_isCaught hM) (fun (o_1 : Int32 × Mem) => (if o_1.1 = 0 then (xgd (4 : Int32) 8 (if ((hM 32) (4 : Int32).toNatClampNeg) = 0 then (Option.bind (xt_X9_isHunterMove x1 x2 (mgs hM [31] o_1.2)) (fun (o_3 : Int32) => (if o_3 = 0 then (some ((0 : Int32), (mgs hM [31, 38, 39, 40, 41, 42, 43, 44] o_1.2))) else (some ((1 : Int32), (mgs hM [31, 38, 39, 40, 41, 42, 43, 44] o_1.2)))))) else (Option.bind (xt_X9_isFoxMove x1 x2 (mgs hM [31] o_1.2)) (fun (o_2 : Int32) => (if o_2 = 0 then (some ((0 : Int32), (mgs hM [31, 38, 39, 40, 41, 42, 43, 44] o_1.2))) else (some ((1 : Int32), (mgs hM [31, 38, 39, 40, 41, 42, 43, 44] o_1.2)))))))) else (some ((0 : Int32), (mgs hM [31, 38, 39, 40, 41, 42, 43, 44] o_1.2))))))
def xt_X9_make (x1 : Int32) (x2 : Int32) (hM : Mem) : Option (Int32 × Mem) := (xgd (4 : Int32) 8 (if ((hM 32) (4 : Int32).toNatClampNeg) = (1 : Int32) then (xgd (5 : Int32) 8 (xgd (4 : Int32) 8 (xgd (4 : Int32) 8 (Option.bind (xt_X9_isCaught (mset hM 32 (upd (upd (hM 32) (5 : Int32).toNatClampNeg x2) (4 : Int32).toNatClampNeg ((1 : Int32) - ((upd (hM 32) (5 : Int32).toNatClampNeg x2) (4 : Int32).toNatClampNeg))))) (fun (o_7 : Int32 × Mem) => (if o_7.1 = 0 then (some ((0 : Int32), (mgs (mset hM 32 (upd (upd (hM 32) (5 : Int32).toNatClampNeg x2) (4 : Int32).toNatClampNeg ((1 : Int32) - ((upd (hM 32) (5 : Int32).toNatClampNeg x2) (4 : Int32).toNatClampNeg)))) [31, 38, 39, 40, 41, 42, 43, 44] o_7.2))) else (some ((1 : Int32), (mgs (mset hM 32 (upd (upd (hM 32) (5 : Int32).toNatClampNeg x2) (4 : Int32).toNatClampNeg ((1 : Int32) - ((upd (hM 32) (5 : Int32).toNatClampNeg x2) (4 : Int32).toNatClampNeg)))) [31, 38, 39, 40, 41, 42, 43, 44] o_7.2))))))))) else (xgd (6 : Int32) 8 (if x1 = ((hM 32) (6 : Int32).toNatClampNeg) then (xgd (7 : Int32) 8 (Option.bind (xt_X9_lesser x2 ((hM 32) (7 : Int32).toNatClampNeg)) (fun (o_4 : Int32) => (xgd (6 : Int32) 8 (Option.bind (xt_X9_greater x2 ((hM 32) (7 : Int32).toNatClampNeg)) (fun (o_5 : Int32) => (xgd (7 : Int32) 8 (xgd (4 : Int32) 8 (xgd (4 : Int32) 8 (Option.bind (xt_X9_isCaught (mset hM 32 (upd (upd (upd (hM 32) (6 : Int32).toNatClampNeg o_4) (7 : Int32).toNatClampNeg o_5) (4 : Int32).toNatClampNeg ((1 : Int32) - ((upd (upd (hM 32) (6 : Int32).toNatClampNeg o_4) (7 : Int32).toNatClampNeg o_5) (4 : Int32).toNatClampNeg))))) (fun (o_6 : Int32 × Mem) => (if o_6.1 = 0 then (some ((0 : Int32), (mgs (mset hM 32 (upd (upd (upd (hM 32) (6 : Int32).toNatClampNeg o_4) (7 : Int32).toNatClampNeg o_5) (4 : Int32).toNatClampNeg ((1 : Int32) - ((upd (upd (hM 32) (6 : Int32).toNatClampNeg o_4) (7 : Int32).toNatClampNeg o_5) (4 : Int32).toNatClampNeg)))) [31, 38, 39, 40, 41, 42, 43, 44] o_6.2))) else (some ((1 : Int32), (mgs (mset hM 32 (upd (upd (upd (hM 32) (6 : Int32).toNatClampNeg o_4) (7 : Int32).toNatClampNeg o_5) (4 : Int32).toNatClampNeg ((1 : Int32) - ((upd (upd (hM 32) (6 : Int32).toNatClampNeg o_4) (7 : Int32).toNatClampNeg o_5) (4 : Int32).toNatClampNeg)))) [31, 38, 39, 40, 41, 42, 43, 44] o_6.2))))))))))))))) else (xgd (6 : Int32) 8 (Option.bind (xt_X9_lesser x2 ((hM 32) (6 : Int32).toNatClampNeg)) (fun (o_1 : Int32) => (xgd (6 : Int32) 8 (Option.bind (xt_X9_greater x2 ((hM 32) (6 : Int32).toNatClampNeg)) (fun (o_2 : Int32) => (xgd (7 : Int32) 8 (xgd (4 : Int32) 8 (xgd (4 : Int32) 8 (Option.bind (xt_X9_isCaught (mset hM 32 (upd (upd (upd (hM 32) (6 : Int32).toNatClampNeg o_1) (7 : Int32).toNatClampNeg o_2) (4 : Int32).toNatClampNeg ((1 : Int32) - ((upd (upd (hM 32) (6 : Int32).toNatClampNeg o_1) (7 : Int32).toNatClampNeg o_2) (4 : Int32).toNatClampNeg))))) (fun (o_3 : Int32 × Mem) => (if o_3.1 = 0 then (some ((0 : Int32), (mgs (mset hM 32 (upd (upd (upd (hM 32) (6 : Int32).toNatClampNeg o_1) (7 : Int32).toNatClampNeg o_2) (4 : Int32).toNatClampNeg ((1 : Int32) - ((upd (upd (hM 32) (6 : Int32).toNatClampNeg o_1) (7 : Int32).toNatClampNeg o_2) (4 : Int32).toNatClampNeg)))) [31, 38, 39, 40, 41, 42, 43, 44] o_3.2))) else (some ((1 : Int32), (mgs (mset hM 32 (upd (upd (upd (hM 32) (6 : Int32).toNatClampNeg o_1) (7 : Int32).toNatClampNeg o_2) (4 : Int32).toNatClampNeg ((1 : Int32) - ((upd (upd (hM 32) (6 : Int32).toNatClampNeg o_1) (7 : Int32).toNatClampNeg o_2) (4 : Int32).toNatClampNeg)))) [31, 38, 39, 40, 41, 42, 43, 44] o_3.2)))))))))))))))))))
def xt_X9_move (x1 : Int32) (x2 : Int32) (hM : Mem) : Option (Int32 × Mem) := (Option.bind (xt_X9_isPlace x1) (fun (o_1 : Int32) => (if o_1 = 0 then (some ((-1 : Int32), hM)) else (Option.bind (xt_X9_isPlace x2) (fun (o_2 : Int32) => (if o_2 = 0 then (some ((-1 : Int32), hM)) else (Option.bind (xt_X9_isMove x1 x2 hM) (fun (o_3 : Int32 × Mem) => (if o_3.1 = 0 then (some ((-5 : Int32), (mgs hM [31, 38, 39, 40, 41, 42, 43, 44] o_3.2))) else (Option.bind (xt_X9_keep (mgs hM [31] o_3.2)) (fun (o_4 : Mem) => (Option.bind (xt_X9_make x1 x2 (mgs (mgs hM [31] o_4) [38, 39, 40, 41, 42, 43, 44] o_3.2)) (fun (o_5 : Int32 × Mem) => (some (o_5.1, (mgs (mgs hM [31, 32, 38, 39, 40, 41, 42, 43, 44] o_5.2) [33] o_4))))))))))))))))
def xt_X2_lengthOf (x1 : Int32) (x2 : Int32) (x3 : Int32) (x4 : Int32) (hM : Mem) : Option (Int32) := (Option.bind (xt_X3_numberOf x1 x2 x3 x4 hM) (fun (o_1 : Int32) => (Option.bind (xt_X0_at o_1 hM) (fun (o_2 : Int32) => (if o_2 = (-6 : Int32) then (some (1000000 : Int32)) else (some o_2))))))
def xt_X2_bestOfFox_l15 (x2 : Int32) (sp1 : Nat → Int32) (hM : Mem) (k : Int32 → Option (Int32)) : Nat → Int32 → Int32 → Int32 → Option (Int32)
  | 0, _, _, _ => none
  | n + 1, v3, v4, v5 => (if (16 : Int32) ≤ v5 then (k v3) else (if ((x2 >>> (v5 &&& 31)) &&& (1 : Int32)) = 0 then (xt_X2_bestOfFox_l15 x2 sp1 hM k n v3 v4 (v5 + (1 : Int32))) else (Option.bind (xt_X2_lengthOf (0 : Int32) v5 (sp1 4) (sp1 5) hM) (fun (o_2 : Int32) => (if o_2 ≤ v4 then (xt_X2_bestOfFox_l15 x2 sp1 hM k n v3 v4 (v5 + (1 : Int32))) else (xt_X2_bestOfFox_l15 x2 sp1 hM k n (((16 : Int32) * (sp1 3)) + v5) o_2 (v5 + (1 : Int32))))))))
def xt_X2_bestOfFox (sp1 : Nat → Int32) (hM : Mem) : Option (Int32) := (Option.bind (xt_X2_foxSteps sp1 hM) (fun (o_1 : Int32) => (xt_X2_bestOfFox_l15 o_1 sp1 hM (fun (v3_3 : Int32) => (some v3_3)) 5000 (-6 : Int32) (-1 : Int32) (0 : Int32))))
def xt_X2_worthOf (x2 : Int32) (x3 : Int32) (sp1 : Nat → Int32) (hM : Mem) : Option (Int32) := (if x2 = (sp1 4) then (if x3 = (sp1 3) then (some (-1 : Int32)) else (Option.bind (xt_X2_lengthOf (1 : Int32) (sp1 3) x3 (sp1 5) hM) (fun (o_2 : Int32) => (some o_2)))) else (if x3 = (sp1 3) then (some (-1 : Int32)) else (Option.bind (xt_X2_lengthOf (1 : Int32) (sp1 3) x3 (sp1 4) hM) (fun (o_1 : Int32) => (some o_1)))))
def xt_X2_bestOfHunters_l45 (x4 : Int32) (x5 : Int32) (x6 : Int32) (sp1 : Nat → Int32) (hM : Mem) (k : Int32 → Int32 → Option (Int32)) : Nat → Int32 → Int32 → Int32 → Option (Int32)
  | 0, _, _, _ => none
  | n + 1, v2, v3, v7 => (if (16 : Int32) ≤ v7 then (k v2 v3) else (if ((x6 >>> (v7 &&& 31)) &&& (1 : Int32)) = 0 then (xt_X2_bestOfHunters_l45 x4 x5 x6 sp1 hM k n v2 v3 (v7 + (1 : Int32))) else (Option.bind (xt_X2_worthOf x5 v7 sp1 hM) (fun (o_2 : Int32) => (if v3 ≤ o_2 then (xt_X2_bestOfHunters_l45 x4 x5 x6 sp1 hM k n v2 v3 (v7 + (1 : Int32))) else (Option.bind (xt_X2_worthOf x5 v7 sp1 hM) (fun (o_3 : Int32) => (xt_X2_bestOfHunters_l45 x4 x5 x6 sp1 hM k n (((16 : Int32) * x5) + v7) o_3 (v7 + (1 : Int32))))))))))
def xt_X2_bestOfHunters_l9 (sp1 : Nat → Int32) (hM : Mem) (k : Int32 → Int32 → Option (Int32)) : Nat → Int32 → Int32 → Int32 → Option (Int32)
  | 0, _, _, _ => none
  | n + 1, v2, v3, v4 => (if (2 : Int32) ≤ v4 then (k v2 v3) else (if v4 = 0 then (Option.bind (xt_X2_hunterSteps (sp1 4) sp1 hM) (fun (o_6 : Int32) => (xt_X2_bestOfHunters_l45 v4 (sp1 4) o_6 sp1 hM (fun (v2_7 : Int32) (v3_8 : Int32) => (xt_X2_bestOfHunters_l9 sp1 hM k n v2_7 v3_8 (v4 + (1 : Int32)))) 5000 v2 v3 (0 : Int32)))) else (Option.bind (xt_X2_hunterSteps (sp1 5) sp1 hM) (fun (o_1 : Int32) => (xt_X2_bestOfHunters_l45 v4 (sp1 5) o_1 sp1 hM (fun (v2_4 : Int32) (v3_5 : Int32) => (xt_X2_bestOfHunters_l9 sp1 hM k n v2_4 v3_5 (v4 + (1 : Int32)))) 5000 v2 v3 (0 : Int32))))))
def xt_X2_bestOfHunters (sp1 : Nat → Int32) (hM : Mem) : Option (Int32) := (xt_X2_bestOfHunters_l9 sp1 hM (fun (v2_9 : Int32) (v3_10 : Int32) => (Option.bind (xt_X6_setting (2 : Int32) sp1) (fun (o_11 : Int32) => (if o_11 = (1 : Int32) then (Option.bind (xt_X2_worthOf (sp1 4) (sp1 4) sp1 hM) (fun (o_12 : Int32) => (if v3_10 ≤ o_12 then (some v2_9) else (some (((16 : Int32) * (sp1 4)) + (sp1 4)))))) else (some v2_9))))) 5000 (-6 : Int32) (1000001 : Int32) (0 : Int32))
def xt_X2_bestMove (sp1 : Nat → Int32) (hM : Mem) : Option (Int32 × Mem) := (Option.bind (xt_X2_caught sp1 hM) (fun (o_1 : Int32) => (if o_1 = 0 then (Option.bind (xt_X0_prepare sp1 hM) (fun (o_2 : Mem) => (if (sp1 2) = (1 : Int32) then (Option.bind (xt_X2_bestOfFox sp1 (mgs hM [9, 10] o_2)) (fun (o_4 : Int32) => (some (o_4, (mgs hM [9, 10, 11, 12] o_2))))) else (Option.bind (xt_X2_bestOfHunters sp1 (mgs hM [9, 10] o_2)) (fun (o_3 : Int32) => (some (o_3, (mgs hM [9, 10, 11, 12] o_2)))))))) else (some ((-6 : Int32), hM)))))
def xt_X2_fromOf (x0 : Int32) : Option (Int32) := (if 0 ≤ x0 then (some (x0 / (16 : Int32))) else (some (-6 : Int32)))
def xt_X2_toOf (x0 : Int32) : Option (Int32) := (if 0 ≤ x0 then (some (x0 - x0 / (16 : Int32) * (16 : Int32))) else (some (-6 : Int32)))
def xt_X8_play (hM : Mem) : Option (Int32 × Mem) := (Option.bind (xt_X2_bestMove (hM 21) hM) (fun (o_1 : Int32 × Mem) => (if o_1.1 = (-6 : Int32) then (some ((-5 : Int32), (mgs hM [9, 10, 11, 12] o_1.2))) else (Option.bind (xt_X2_fromOf o_1.1) (fun (o_2 : Int32) => (Option.bind (xt_X2_toOf o_1.1) (fun (o_3 : Int32) => (Option.bind (xt_X8_makeMove o_2 o_3 hM) (fun (o_4 : Int32 × Mem) => (some (o_4.1, (mgs (mgs hM [9, 10, 11, 12] o_1.2) [21, 23, 60, 61, 62, 63, 64, 65] o_4.2))))))))))))
def xt_X9_worth (x1 : Int32) (x2 : Int32) (hM : Mem) : Option (Int32) := (xgd (4 : Int32) 8 (if ((hM 32) (4 : Int32).toNatClampNeg) = (1 : Int32) then (xgd (6 : Int32) 8 (xgd (7 : Int32) 8 (Option.bind (xt_X9_numberOf (0 : Int32) x2 ((hM 32) (6 : Int32).toNatClampNeg) ((hM 32) (7 : Int32).toNatClampNeg)) (fun (o_3 : Int32) => (xgd o_3 4096 (if 0 ≤ ((hM 38) o_3.toNatClampNeg) then (some (-((hM 38) o_3.toNatClampNeg))) else (some (-(1000 : Int32))))))))) else (xgd (5 : Int32) 8 (if x2 = ((hM 32) (5 : Int32).toNatClampNeg) then (some (-1 : Int32)) else (xgd (6 : Int32) 8 (if x1 = ((hM 32) (6 : Int32).toNatClampNeg) then (xgd (7 : Int32) 8 (xgd (5 : Int32) 8 (Option.bind (xt_X9_numberOf (1 : Int32) ((hM 32) (5 : Int32).toNatClampNeg) x2 ((hM 32) (7 : Int32).toNatClampNeg)) (fun (o_2 : Int32) => (xgd o_2 4096 (if 0 ≤ ((hM 38) o_2.toNatClampNeg) then (some ((hM 38) o_2.toNatClampNeg)) else (some (1000 : Int32)))))))) else (xgd (6 : Int32) 8 (xgd (5 : Int32) 8 (Option.bind (xt_X9_numberOf (1 : Int32) ((hM 32) (5 : Int32).toNatClampNeg) x2 ((hM 32) (6 : Int32).toNatClampNeg)) (fun (o_1 : Int32) => (xgd o_1 4096 (if 0 ≤ ((hM 38) o_1.toNatClampNeg) then (some ((hM 38) o_1.toNatClampNeg)) else (some (1000 : Int32))))))))))))))
def xt_X9_findBest_l24 (x2 : Int32) (hM : Mem) (k : Int32 → Mem → Option (Int32 × Mem)) : Nat → Int32 → Int32 → Mem → Option (Int32 × Mem)
  | 0, _, _, _ => none
  | n + 1, v1, v3, mM => (if (16 : Int32) ≤ v3 then (k v1 (mgs hM [31, 38, 39, 40, 41, 42, 43, 44] mM)) else (if x2 = v3 then (xt_X9_findBest_l24 x2 hM k n v1 (v3 + (1 : Int32)) (mgs hM [31, 38, 39, 40, 41, 42, 43, 44] mM)) else (Option.bind (xt_X9_isMove x2 v3 (mgs hM [31, 38, 39, 40, 41, 42, 43, 44] mM)) (fun (o_1 : Int32 × Mem) => (if o_1.1 = 0 then (xt_X9_findBest_l24 x2 hM k n v1 (v3 + (1 : Int32)) (mgs hM [31, 38, 39, 40, 41, 42, 43, 44] o_1.2)) else (if ((o_1.2 31) 17) < 0 then (Option.bind (xt_X9_worth x2 v3 (mgs (mset hM 31 (upd (upd (o_1.2 31) 17 x2) 18 v3)) [38] o_1.2)) (fun (o_2 : Int32) => (xt_X9_findBest_l24 x2 hM k n o_2 (v3 + (1 : Int32)) (mgs (mset hM 31 (upd (upd (o_1.2 31) 17 x2) 18 v3)) [38, 39, 40, 41, 42, 43, 44] o_1.2)))) else (Option.bind (xt_X9_worth x2 v3 (mgs hM [31, 38] o_1.2)) (fun (o_3 : Int32) => (if v1 ≤ o_3 then (xt_X9_findBest_l24 x2 hM k n v1 (v3 + (1 : Int32)) (mgs hM [31, 38, 39, 40, 41, 42, 43, 44] o_1.2)) else (Option.bind (xt_X9_worth x2 v3 (mgs (mset hM 31 (upd (upd (o_1.2 31) 17 x2) 18 v3)) [38] o_1.2)) (fun (o_4 : Int32) => (xt_X9_findBest_l24 x2 hM k n o_4 (v3 + (1 : Int32)) (mgs (mset hM 31 (upd (upd (o_1.2 31) 17 x2) 18 v3)) [38, 39, 40, 41, 42, 43, 44] o_1.2)))))))))))))
def xt_X9_findBest_l16 (hM : Mem) (k : Int32 → Mem → Option (Int32 × Mem)) : Nat → Int32 → Int32 → Mem → Option (Int32 × Mem)
  | 0, _, _, _ => none
  | n + 1, v1, v2, mM => (if (16 : Int32) ≤ v2 then (k v1 (mgs hM [31, 38, 39, 40, 41, 42, 43, 44] mM)) else (xt_X9_findBest_l24 v2 (mgs hM [31, 38, 39, 40, 41, 42, 43, 44] mM) (fun (v1_5 : Int32) (m_6 : Mem) => (xt_X9_findBest_l16 hM k n v1_5 (v2 + (1 : Int32)) (mgs hM [31, 38, 39, 40, 41, 42, 43, 44] m_6))) 5000 v1 (0 : Int32) (mgs hM [31, 38, 39, 40, 41, 42, 43, 44] mM)))
def xt_X9_findBest (hM : Mem) : Option (Int32 × Mem) := (xt_X9_findBest_l16 (mset hM 31 (upd (upd (hM 31) 17 (-6 : Int32)) 18 (-6 : Int32))) (fun (v1_7 : Int32) (m_8 : Mem) => (xgd (6 : Int32) 8 (xgd (4 : Int32) 8 (if ((hM 32) (4 : Int32).toNatClampNeg) = 0 then (Option.bind (xt_X9_isMove ((hM 32) (6 : Int32).toNatClampNeg) ((hM 32) (6 : Int32).toNatClampNeg) (mgs hM [31, 38, 39, 40, 41, 42, 43, 44] m_8)) (fun (o_9 : Int32 × Mem) => (if o_9.1 = 0 then (if ((o_9.2 31) 17) < 0 then (some ((0 : Int32), (mgs hM [31, 38, 39, 40, 41, 42, 43, 44] o_9.2))) else (some ((1 : Int32), (mgs hM [31, 38, 39, 40, 41, 42, 43, 44] o_9.2)))) else (if ((o_9.2 31) 17) < 0 then (if ((hM 32) (6 : Int32).toNatClampNeg) < 0 then (some ((0 : Int32), (mgs (mset hM 31 (upd (upd (o_9.2 31) 17 ((hM 32) (6 : Int32).toNatClampNeg)) 18 ((hM 32) (6 : Int32).toNatClampNeg))) [38, 39, 40, 41, 42, 43, 44] o_9.2))) else (some ((1 : Int32), (mgs (mset hM 31 (upd (upd (o_9.2 31) 17 ((hM 32) (6 : Int32).toNatClampNeg)) 18 ((hM 32) (6 : Int32).toNatClampNeg))) [38, 39, 40, 41, 42, 43, 44] o_9.2)))) else (Option.bind (xt_X9_worth ((hM 32) (6 : Int32).toNatClampNeg) ((hM 32) (6 : Int32).toNatClampNeg) (mgs hM [31, 38] o_9.2)) (fun (o_10 : Int32) => (if v1_7 ≤ o_10 then (if ((o_9.2 31) 17) < 0 then (some ((0 : Int32), (mgs hM [31, 38, 39, 40, 41, 42, 43, 44] o_9.2))) else (some ((1 : Int32), (mgs hM [31, 38, 39, 40, 41, 42, 43, 44] o_9.2)))) else (if ((hM 32) (6 : Int32).toNatClampNeg) < 0 then (some ((0 : Int32), (mgs (mset hM 31 (upd (upd (o_9.2 31) 17 ((hM 32) (6 : Int32).toNatClampNeg)) 18 ((hM 32) (6 : Int32).toNatClampNeg))) [38, 39, 40, 41, 42, 43, 44] o_9.2))) else (some ((1 : Int32), (mgs (mset hM 31 (upd (upd (o_9.2 31) 17 ((hM 32) (6 : Int32).toNatClampNeg)) 18 ((hM 32) (6 : Int32).toNatClampNeg))) [38, 39, 40, 41, 42, 43, 44] o_9.2))))))))))) else (if ((m_8 31) 17) < 0 then (some ((0 : Int32), (mgs hM [31, 38, 39, 40, 41, 42, 43, 44] m_8))) else (some ((1 : Int32), (mgs hM [31, 38, 39, 40, 41, 42, 43, 44] m_8)))))))) 5000 (0 : Int32) (0 : Int32) (mset hM 31 (upd (upd (hM 31) 17 (-6 : Int32)) 18 (-6 : Int32))))
def xt_X9_play (hM : Mem) : Option (Int32 × Mem) := (Option.bind (xt_X9_findBest hM) (fun (o_1 : Int32 × Mem) => (if o_1.1 = 0 then (some ((-5 : Int32), (mgs hM [31, 38, 39, 40, 41, 42, 43, 44] o_1.2))) else (Option.bind (xt_X9_keep (mgs hM [31] o_1.2)) (fun (o_2 : Mem) => (Option.bind (xt_X9_make ((o_2 31) 17) ((o_2 31) 18) (mgs (mgs hM [31] o_2) [38, 39, 40, 41, 42, 43, 44] o_1.2)) (fun (o_3 : Int32 × Mem) => (some (o_3.1, (mgs (mgs hM [31, 32, 38, 39, 40, 41, 42, 43, 44] o_3.2) [33] o_2))))))))))
def xt_X5_canStand (x0 : Int32) (x1 : Int32) : Option (Int32) := (if x1 < (20 : Int32) then (if x1 = (19 : Int32) then (if x0 = (104 : Int32) then (some (1 : Int32)) else (if x0 = (102 : Int32) then (some (1 : Int32)) else (some (0 : Int32)))) else (if (x1 - x1 / (5 : Int32) * (5 : Int32)) = (4 : Int32) then (if x0 = (47 : Int32) then (some (1 : Int32)) else (some (0 : Int32))) else (if x0 = (46 : Int32) then (some (1 : Int32)) else (if x0 = (35 : Int32) then (some (1 : Int32)) else (if x0 = (70 : Int32) then (some (1 : Int32)) else (if x0 = (72 : Int32) then (some (1 : Int32)) else (some (0 : Int32)))))))) else (some (0 : Int32)))
def xt_X5_firstFault_l2 (hM : Mem) (k : Unit → Option (Int32)) : Nat → Int32 → Option (Int32)
  | 0, _ => none
  | n + 1, v1 => (if ((hM 25) 1) ≤ v1 then (k ()) else (xgd v1 24 (Option.bind (xt_X5_canStand ((hM 26) v1.toNatClampNeg) v1) (fun (o_1 : Int32) => (if o_1 = 0 then (some v1) else (xt_X5_firstFault_l2 hM k n (v1 + (1 : Int32))))))))
def xt_X5_firstFault (hM : Mem) : Option (Int32) := (xt_X5_firstFault_l2 hM (fun (_ : Unit) => (if (20 : Int32) ≤ ((hM 25) 1) then (some (-6 : Int32)) else (some ((hM 25) 1)))) 5000 (0 : Int32))
def xt_X5_placesOf_l4 (x1 : Int32) (hM : Mem) (k : Int32 → Option (Int32)) : Nat → Int32 → Int32 → Option (Int32)
  | 0, _, _ => none
  | n + 1, v2, v3 => (if (16 : Int32) ≤ v3 then (k v2) else (xgd (v3 + (v3 / (4 : Int32))) 24 (if ((hM 26) (v3 + (v3 / (4 : Int32))).toNatClampNeg) = x1 then (xt_X5_placesOf_l4 x1 hM k n (v2 ||| ((1 : Int32) <<< (v3 &&& 31))) (v3 + (1 : Int32))) else (xt_X5_placesOf_l4 x1 hM k n v2 (v3 + (1 : Int32))))))
def xt_X5_placesOf (x1 : Int32) (hM : Mem) : Option (Int32) := (xt_X5_placesOf_l4 x1 hM (fun (v2_1 : Int32) => (some v2_1)) 5000 (0 : Int32) (0 : Int32))
def xt_X5_foxMoves (hM : Mem) : Option (Int32) := (xgd (19 : Int32) 24 (if ((hM 26) (19 : Int32).toNatClampNeg) = (102 : Int32) then (some (1 : Int32)) else (some (0 : Int32))))
def xt_X3_lowest_l2 (x0 : Int32) (k : Unit → Option (Int32)) : Nat → Int32 → Option (Int32)
  | 0, _ => none
  | n + 1, v1 => (if (16 : Int32) ≤ v1 then (k ()) else (if ((x0 >>> (v1 &&& 31)) &&& (1 : Int32)) = 0 then (xt_X3_lowest_l2 x0 k n (v1 + (1 : Int32))) else (some v1)))
def xt_X3_lowest (x0 : Int32) : Option (Int32) := (xt_X3_lowest_l2 x0 (fun (_ : Unit) => (some (0 : Int32))) 5000 (0 : Int32))
def xt_X3_highest_l3 (x0 : Int32) (k : Unit → Option (Int32)) : Nat → Int32 → Option (Int32)
  | 0, _ => none
  | n + 1, v1 => (if v1 ≤ 0 then (k ()) else (if ((x0 >>> (v1 &&& 31)) &&& (1 : Int32)) = 0 then (xt_X3_highest_l3 x0 k n (v1 + (-1 : Int32))) else (some v1)))
def xt_X3_highest (x0 : Int32) : Option (Int32) := (xt_X3_highest_l3 x0 (fun (_ : Unit) => (some (0 : Int32))) 5000 (15 : Int32))
def xt_X5_empty (hM : Mem) : Option (Mem) := (some (mset hM 25 (upd (hM 25) 1 (0 : Int32))))
def xt_X8_readPad (hM : Mem) : Option (Int32 × Mem) := (Option.bind (xt_X5_firstFault hM) (fun (o_1 : Int32) => (if o_1 = (-6 : Int32) then (Option.bind (xt_X5_placesOf (70 : Int32) hM) (fun (o_2 : Int32) => (Option.bind (xt_X5_placesOf (72 : Int32) hM) (fun (o_3 : Int32) => (Option.bind (xt_X5_placesOf (35 : Int32) hM) (fun (o_4 : Int32) => (Option.bind (xt_J6_bitCount_0f7a4 o_2) (fun (o_5 : Int32) => (if o_5 = (1 : Int32) then (Option.bind (xt_J6_bitCount_0f7a4 o_3) (fun (o_6 : Int32) => (if o_6 = (2 : Int32) then (Option.bind (xt_J6_bitCount_0f7a4 o_4) (fun (o_7 : Int32) => (if o_7 ≤ (6 : Int32) then (Option.bind (xt_X4_record (hM 21) hM) (fun (o_8 : Mem) => (Option.bind (xt_X5_foxMoves hM) (fun (o_10 : Int32) => (if o_10 = 0 then (Option.bind (xt_X3_lowest o_2) (fun (o_11 : Int32) => (Option.bind (xt_X3_lowest o_3) (fun (o_12 : Int32) => (Option.bind (xt_X3_highest o_3) (fun (o_13 : Int32) => (Option.bind (xt_X6_place (0 : Int32) o_11 o_12 o_13 (upd (hM 21) 1 o_4)) (fun (o_14 : (Nat → Int32)) => (Option.bind (xt_X5_empty hM) (fun (o_15 : Mem) => (Option.bind (xt_X8_distanceNow (mset hM 21 o_14)) (fun (o_16 : Int32 × Mem) => (some (o_16.1, (mgs (mgs (mgs (mset hM 21 o_14) [9, 10, 11, 12] o_16.2) [23, 60, 61, 62, 63, 64, 65] o_8) [25] o_15))))))))))))))) else (Option.bind (xt_X3_lowest o_2) (fun (o_17 : Int32) => (Option.bind (xt_X3_lowest o_3) (fun (o_18 : Int32) => (Option.bind (xt_X3_highest o_3) (fun (o_19 : Int32) => (Option.bind (xt_X6_place (1 : Int32) o_17 o_18 o_19 (upd (hM 21) 1 o_4)) (fun (o_20 : (Nat → Int32)) => (Option.bind (xt_X5_empty hM) (fun (o_21 : Mem) => (Option.bind (xt_X8_distanceNow (mset hM 21 o_20)) (fun (o_22 : Int32 × Mem) => (some (o_22.1, (mgs (mgs (mgs (mset hM 21 o_20) [9, 10, 11, 12] o_22.2) [23, 60, 61, 62, 63, 64, 65] o_8) [25] o_21)))))))))))))))))))) else (some ((-4 : Int32), hM))))) else (some ((-5 : Int32), hM))))) else (some ((-5 : Int32), hM))))))))))) else (some ((-3 : Int32), hM)))))
def xt_X9_canStand (x0 : Int32) (x1 : Int32) : Option (Int32) := (if x1 < (19 : Int32) then (if (x1 - x1 / (5 : Int32) * (5 : Int32)) = (4 : Int32) then (if x0 = (47 : Int32) then (some (1 : Int32)) else (some (0 : Int32))) else (if x0 = (46 : Int32) then (some (1 : Int32)) else (if x0 = (35 : Int32) then (some (1 : Int32)) else (if x0 = (70 : Int32) then (some (1 : Int32)) else (if x0 = (72 : Int32) then (some (1 : Int32)) else (some (0 : Int32))))))) else (if x1 = (19 : Int32) then (if x0 = (104 : Int32) then (some (1 : Int32)) else (if x0 = (102 : Int32) then (some (1 : Int32)) else (some (0 : Int32)))) else (some (0 : Int32))))
def xt_X9_fault_l2 (hM : Mem) (k : Int32 → Option (Int32)) : Nat → Int32 → Option (Int32)
  | 0, _ => none
  | n + 1, v1 => (if ((hM 31) 20) ≤ v1 then (k v1) else (xgd v1 24 (Option.bind (xt_X9_canStand ((hM 45) v1.toNatClampNeg) v1) (fun (o_1 : Int32) => (if o_1 = 0 then (k v1) else (xt_X9_fault_l2 hM k n (v1 + (1 : Int32))))))))
def xt_X9_fault (hM : Mem) : Option (Int32) := (xt_X9_fault_l2 hM (fun (v1_2 : Int32) => (if v1_2 < ((hM 31) 20) then (some v1_2) else (if (20 : Int32) ≤ v1_2 then (some (-6 : Int32)) else (some v1_2)))) 5000 (0 : Int32))
def xt_X9_placesOf_l4 (x1 : Int32) (hM : Mem) (k : Int32 → Option (Int32)) : Nat → Int32 → Int32 → Option (Int32)
  | 0, _, _ => none
  | n + 1, v2, v3 => (if (16 : Int32) ≤ v3 then (k v2) else (xgd (((v3 / (4 : Int32)) * (5 : Int32)) + (v3 - v3 / (4 : Int32) * (4 : Int32))) 24 (if ((hM 45) (((v3 / (4 : Int32)) * (5 : Int32)) + (v3 - v3 / (4 : Int32) * (4 : Int32))).toNatClampNeg) = x1 then (xt_X9_placesOf_l4 x1 hM k n (v2 ||| ((1 : Int32) <<< (v3 &&& 31))) (v3 + (1 : Int32))) else (xt_X9_placesOf_l4 x1 hM k n (v2 ||| (0 : Int32)) (v3 + (1 : Int32))))))
def xt_X9_placesOf (x1 : Int32) (hM : Mem) : Option (Int32) := (xt_X9_placesOf_l4 x1 hM (fun (v2_1 : Int32) => (some v2_1)) 5000 (0 : Int32) (0 : Int32))
def xt_X9_lowest_l2 (x0 : Int32) (k : Int32 → Option (Int32)) : Nat → Int32 → Option (Int32)
  | 0, _ => none
  | n + 1, v1 => (Option.bind (xt_X9_has x0 v1) (fun (o_1 : Int32) => (if o_1 = 0 then (xt_X9_lowest_l2 x0 k n (v1 + (1 : Int32))) else (k v1))))
def xt_X9_lowest (x0 : Int32) : Option (Int32) := (xt_X9_lowest_l2 x0 (fun (v1_2 : Int32) => (some v1_2)) 5000 (0 : Int32))
def xt_X9_readPad (hM : Mem) : Option (Int32 × Mem) := (Option.bind (xt_X9_fault hM) (fun (o_1 : Int32) => (if o_1 < 0 then (Option.bind (xt_X9_placesOf (72 : Int32) hM) (fun (o_2 : Int32) => (Option.bind (xt_X9_placesOf (70 : Int32) hM) (fun (o_3 : Int32) => (Option.bind (xt_X9_many o_2) (fun (o_4 : Int32) => (if o_4 = (2 : Int32) then (Option.bind (xt_X9_many o_3) (fun (o_5 : Int32) => (if o_5 = (1 : Int32) then (Option.bind (xt_X9_placesOf (35 : Int32) hM) (fun (o_6 : Int32) => (Option.bind (xt_X9_many o_6) (fun (o_7 : Int32) => (if o_7 ≤ (6 : Int32) then (Option.bind (xt_X9_keep hM) (fun (o_8 : Mem) => (Option.bind (xt_X9_lowest o_2) (fun (o_9 : Int32) => (Option.bind (xt_X9_placesOf (35 : Int32) (mgs hM [31] o_8)) (fun (o_10 : Int32) => (xgd (3 : Int32) 8 (xgd (19 : Int32) 24 (if ((hM 45) (19 : Int32).toNatClampNeg) = (102 : Int32) then (Option.bind (xt_X9_lowest o_3) (fun (o_15 : Int32) => (Option.bind (xt_X9_lowest (o_2 &&& (((1 : Int32) <<< (o_9 &&& 31)) ^^^ (-1 : Int32)))) (fun (o_16 : Int32) => (Option.bind (xt_X9_lay (1 : Int32) o_15 o_9 o_16 (mgs (mset hM 32 (upd (hM 32) (3 : Int32).toNatClampNeg o_10)) [31] o_8)) (fun (o_17 : Mem) => (Option.bind (xt_X9_distanceNow (mgs (mset hM 31 (upd (o_8 31) 20 (0 : Int32))) [32] o_17)) (fun (o_18 : Int32 × Mem) => (some (o_18.1, (mgs (mgs (mgs hM [31, 38, 39, 40, 41, 42, 43, 44] o_18.2) [32] o_17) [33] o_8))))))))))) else (Option.bind (xt_X9_lowest o_3) (fun (o_11 : Int32) => (Option.bind (xt_X9_lowest (o_2 &&& (((1 : Int32) <<< (o_9 &&& 31)) ^^^ (-1 : Int32)))) (fun (o_12 : Int32) => (Option.bind (xt_X9_lay (0 : Int32) o_11 o_9 o_12 (mgs (mset hM 32 (upd (hM 32) (3 : Int32).toNatClampNeg o_10)) [31] o_8)) (fun (o_13 : Mem) => (Option.bind (xt_X9_distanceNow (mgs (mset hM 31 (upd (o_8 31) 20 (0 : Int32))) [32] o_13)) (fun (o_14 : Int32 × Mem) => (some (o_14.1, (mgs (mgs (mgs hM [31, 38, 39, 40, 41, 42, 43, 44] o_14.2) [32] o_13) [33] o_8)))))))))))))))))))) else (some ((-4 : Int32), hM))))))) else (some ((-5 : Int32), hM))))) else (some ((-5 : Int32), hM))))))))) else (some ((-3 : Int32), hM)))))
def xt_X3_image (x1 : Int32) (x2 : Int32) (hM : Mem) : Option (Int32) := (xgd (((x1 &&& (7 : Int32)) * (16 : Int32)) + (x2 &&& (15 : Int32))) 128 (some ((hM 8) (((x1 &&& (7 : Int32)) * (16 : Int32)) + (x2 &&& (15 : Int32))).toNatClampNeg)))
def xt_X1_imageOf_l5 (x1 : Int32) (x2 : Int32) (hM : Mem) (k : Int32 → Option (Int32)) : Nat → Int32 → Int32 → Option (Int32)
  | 0, _, _ => none
  | n + 1, v3, v4 => (if (16 : Int32) ≤ v4 then (k v3) else (if ((x2 >>> (v4 &&& 31)) &&& (1 : Int32)) = 0 then (xt_X1_imageOf_l5 x1 x2 hM k n v3 (v4 + (1 : Int32))) else (Option.bind (xt_X3_image x1 v4 hM) (fun (o_1 : Int32) => (xt_X1_imageOf_l5 x1 x2 hM k n (v3 ||| ((1 : Int32) <<< (o_1 &&& 31))) (v4 + (1 : Int32)))))))
def xt_X1_imageOf (x1 : Int32) (x2 : Int32) (hM : Mem) : Option (Int32) := (xt_X1_imageOf_l5 x1 x2 hM (fun (v3_2 : Int32) => (some v3_2)) 5000 (0 : Int32) (0 : Int32))
def xt_X1_prepare_l21 (x1 : Int32) (hM : Mem) (k : Mem → Option (Mem)) : Nat → Int32 → Mem → Option (Mem)
  | 0, _, _ => none
  | n + 1, v2, mM => (if (8 : Int32) ≤ v2 then (k (mgs hM [13, 14] mM)) else (Option.bind (xt_X1_imageOf v2 x1 (mgs hM [13] mM)) (fun (o_1 : Int32) => (if o_1 = x1 then (xgd (((mM 13) 2) &&& (7 : Int32)) 8 (xt_X1_prepare_l21 x1 hM k n (v2 + (1 : Int32)) (mset (mset hM 13 (upd (mM 13) 2 (((mM 13) 2) + (1 : Int32)))) 14 (upd (mM 14) (((mM 13) 2) &&& (7 : Int32)).toNatClampNeg v2)))) else (xt_X1_prepare_l21 x1 hM k n (v2 + (1 : Int32)) (mgs hM [13, 14] mM))))))
def xt_X1_prepare (x1 : Int32) (hM : Mem) : Option (Mem) := (if ((hM 13) 3) = x1 then (some hM) else (xt_X1_prepare_l21 x1 (mset hM 13 (upd (upd (hM 13) 2 (0 : Int32)) 3 x1)) (fun (m_2 : Mem) => (some (mgs hM [13, 14] m_2))) 5000 (1 : Int32) (mset hM 13 (upd (upd (hM 13) 2 (0 : Int32)) 3 x1))))
def xt_X3_pairIn (x0 : Int32) : Option (Int32) := (some (x0 &&& (127 : Int32)))
def xt_X3_foxOf (x0 : Int32) : Option (Int32) := (some ((x0 >>> ((7 : Int32) &&& 31)) &&& (15 : Int32)))
def xt_X3_whoOf (x0 : Int32) : Option (Int32) := (some ((x0 >>> ((11 : Int32) &&& 31)) &&& (1 : Int32)))
def xt_X1_imageOfNumber (x1 : Int32) (x2 : Int32) (hM : Mem) : Option (Int32) := (Option.bind (xt_X3_pairIn x2) (fun (o_1 : Int32) => (Option.bind (xt_X3_foxOf x2) (fun (o_2 : Int32) => (Option.bind (xt_X3_image x1 o_2 hM) (fun (o_3 : Int32) => (Option.bind (xt_X3_lowerOf o_1 hM) (fun (o_4 : Int32) => (Option.bind (xt_X3_image x1 o_4 hM) (fun (o_5 : Int32) => (Option.bind (xt_X3_higherOf o_1 hM) (fun (o_6 : Int32) => (Option.bind (xt_X3_image x1 o_6 hM) (fun (o_7 : Int32) => (Option.bind (xt_X3_whoOf x2) (fun (o_8 : Int32) => (Option.bind (xt_X3_numberOf o_8 o_3 o_5 o_7 hM) (fun (o_9 : Int32) => (some o_9)))))))))))))))))))
def xt_X1_lowestAlike_l4 (x1 : Int32) (hM : Mem) (k : Int32 → Option (Int32)) : Nat → Int32 → Int32 → Option (Int32)
  | 0, _, _ => none
  | n + 1, v2, v3 => (if ((hM 13) 2) ≤ v3 then (k v2) else (if (Int32.ofNat 8) ≤ v3 then (k v2) else (xgd v3 8 (Option.bind (xt_X1_imageOfNumber ((hM 14) v3.toNatClampNeg) x1 hM) (fun (o_1 : Int32) => (Option.bind (xt_J9_min_7cf53 v2 o_1) (fun (o_2 : Int32) => (xt_X1_lowestAlike_l4 x1 hM k n o_2 (v3 + (1 : Int32))))))))))
def xt_X1_lowestAlike (x1 : Int32) (hM : Mem) : Option (Int32) := (xt_X1_lowestAlike_l4 x1 hM (fun (v2_3 : Int32) => (some v2_3)) 5000 x1 (0 : Int32))
def xt_X8_foldedNumber (x1 : Int32) (hM : Mem) : Option (Int32 × Mem) := (Option.bind (xt_X1_prepare ((hM 21) 1) hM) (fun (o_1 : Mem) => (Option.bind (xt_X1_lowestAlike x1 (mgs hM [13, 14] o_1)) (fun (o_2 : Int32) => (some (o_2, (mgs hM [13, 14] o_1)))))))
def xt_X5_length (hM : Mem) : Option (Int32) := (some ((hM 25) 1))
def xt_X4_length (hM : Mem) : Option (Int32) := (some ((hM 23) 1))
def xt_X8_now (x1 : Int32) (hM : Mem) : Option (Int32 × Mem) := (if x1 < 0 then (some ((-2 : Int32), hM)) else (if x1 ≤ (15 : Int32) then (if (x1).toInt < 0 ∨ 15 < (x1).toInt then (Option.bind (xt_X6_setting (x1 - (11 : Int32)) (hM 21)) (fun (o_1 : Int32) => (some (o_1, hM)))) else (if x1 = (0 : Int32) then (some (((hM 21) 2), hM)) else (if x1 = (1 : Int32) then (some (((hM 21) 3), hM)) else (if x1 = (2 : Int32) then (some (((hM 21) 4), hM)) else (if x1 = (3 : Int32) then (some (((hM 21) 5), hM)) else (if x1 = (4 : Int32) then (Option.bind (xt_X2_caught (hM 21) hM) (fun (o_2 : Int32) => (if o_2 = 0 then (some ((0 : Int32), hM)) else (some ((1 : Int32), hM))))) else (if x1 = (5 : Int32) then (Option.bind (xt_X8_distanceNow hM) (fun (o_3 : Int32 × Mem) => (some (o_3.1, (mgs hM [9, 10, 11, 12] o_3.2))))) else (if x1 = (6 : Int32) then (Option.bind (xt_X2_bestMove (hM 21) hM) (fun (o_4 : Int32 × Mem) => (Option.bind (xt_X2_fromOf o_4.1) (fun (o_5 : Int32) => (some (o_5, (mgs hM [9, 10, 11, 12] o_4.2))))))) else (if x1 = (7 : Int32) then (Option.bind (xt_X2_bestMove (hM 21) hM) (fun (o_6 : Int32 × Mem) => (Option.bind (xt_X2_toOf o_6.1) (fun (o_7 : Int32) => (some (o_7, (mgs hM [9, 10, 11, 12] o_6.2))))))) else (if x1 = (8 : Int32) then (Option.bind (xt_X6_hunterOnFox (hM 21)) (fun (o_8 : Int32) => (if o_8 = 0 then (Option.bind (xt_X8_numberNow (hM 21) hM) (fun (o_9 : Int32) => (some (o_9, hM)))) else (some ((-6 : Int32), hM))))) else (if x1 = (9 : Int32) then (Option.bind (xt_X6_hunterOnFox (hM 21)) (fun (o_10 : Int32) => (if o_10 = 0 then (Option.bind (xt_X8_numberNow (hM 21) hM) (fun (o_11 : Int32) => (Option.bind (xt_X8_foldedNumber o_11 hM) (fun (o_12 : Int32 × Mem) => (some (o_12.1, (mgs hM [13, 14] o_12.2))))))) else (some ((-6 : Int32), hM))))) else (if x1 = (10 : Int32) then (some (((hM 21) 1), hM)) else (if x1 = (11 : Int32) then (Option.bind (xt_X6_setting (x1 - (11 : Int32)) (hM 21)) (fun (o_13 : Int32) => (some (o_13, hM)))) else (if x1 = (12 : Int32) then (Option.bind (xt_X6_setting (x1 - (11 : Int32)) (hM 21)) (fun (o_14 : Int32) => (some (o_14, hM)))) else (if x1 = (13 : Int32) then (Option.bind (xt_X6_setting (x1 - (11 : Int32)) (hM 21)) (fun (o_15 : Int32) => (some (o_15, hM)))) else (if x1 = (14 : Int32) then (Option.bind (xt_X5_length hM) (fun (o_16 : Int32) => (some (o_16, hM)))) else (if x1 = (15 : Int32) then (Option.bind (xt_X4_length hM) (fun (o_17 : Int32) => (some (o_17, hM)))) else none))))))))))))))))) else (some ((-2 : Int32), hM))))
def xt_X9_best (x1 : Int32) (hM : Mem) : Option (Int32 × Mem) := (Option.bind (xt_X9_findBest hM) (fun (o_1 : Int32 × Mem) => (if x1 = (6 : Int32) then (some (((o_1.2 31) 17), (mgs hM [31, 38, 39, 40, 41, 42, 43, 44] o_1.2))) else (some (((o_1.2 31) 18), (mgs hM [31, 38, 39, 40, 41, 42, 43, 44] o_1.2))))))
def xt_X9_standsNow (hM : Mem) : Option (Int32 × Mem) := (Option.bind (xt_X9_work hM) (fun (o_1 : Mem) => (Option.bind (xt_X9_numberNow (mgs hM [31] o_1)) (fun (o_2 : Int32) => (xgd o_2 4096 (some (((o_1 39) o_2.toNatClampNeg), (mgs hM [31, 38, 39, 40, 41, 42, 43, 44] o_1))))))))
def xt_X9_now (x1 : Int32) (hM : Mem) : Option (Int32 × Mem) := (if (x1).toInt < 0 ∨ 15 < (x1).toInt then (some ((-2 : Int32), hM)) else (if x1 = (0 : Int32) then (xgd ((4 : Int32) + x1) 8 (some (((hM 32) ((4 : Int32) + x1).toNatClampNeg), hM))) else (if x1 = (1 : Int32) then (xgd ((4 : Int32) + x1) 8 (some (((hM 32) ((4 : Int32) + x1).toNatClampNeg), hM))) else (if x1 = (2 : Int32) then (xgd ((4 : Int32) + x1) 8 (some (((hM 32) ((4 : Int32) + x1).toNatClampNeg), hM))) else (if x1 = (3 : Int32) then (xgd ((4 : Int32) + x1) 8 (some (((hM 32) ((4 : Int32) + x1).toNatClampNeg), hM))) else (if x1 = (4 : Int32) then (Option.bind (xt_X9_isCaught hM) (fun (o_1 : Int32 × Mem) => (if o_1.1 = 0 then (some ((0 : Int32), (mgs hM [31, 38, 39, 40, 41, 42, 43, 44] o_1.2))) else (some ((1 : Int32), (mgs hM [31, 38, 39, 40, 41, 42, 43, 44] o_1.2)))))) else (if x1 = (5 : Int32) then (Option.bind (xt_X9_distanceNow hM) (fun (o_2 : Int32 × Mem) => (some (o_2.1, (mgs hM [31, 38, 39, 40, 41, 42, 43, 44] o_2.2))))) else (if x1 = (6 : Int32) then (Option.bind (xt_X9_best x1 hM) (fun (o_3 : Int32 × Mem) => (some (o_3.1, (mgs hM [31, 38, 39, 40, 41, 42, 43, 44] o_3.2))))) else (if x1 = (7 : Int32) then (Option.bind (xt_X9_best x1 hM) (fun (o_4 : Int32 × Mem) => (some (o_4.1, (mgs hM [31, 38, 39, 40, 41, 42, 43, 44] o_4.2))))) else (if x1 = (8 : Int32) then (Option.bind (xt_X9_isHit hM) (fun (o_5 : Int32) => (if o_5 = 0 then (Option.bind (xt_X9_numberNow hM) (fun (o_6 : Int32) => (some (o_6, hM)))) else (some ((-6 : Int32), hM))))) else (if x1 = (9 : Int32) then (Option.bind (xt_X9_isHit hM) (fun (o_7 : Int32) => (if o_7 = 0 then (Option.bind (xt_X9_standsNow hM) (fun (o_8 : Int32 × Mem) => (some (o_8.1, (mgs hM [31, 38, 39, 40, 41, 42, 43, 44] o_8.2))))) else (some ((-6 : Int32), hM))))) else (if x1 = (10 : Int32) then (xgd (3 : Int32) 8 (some (((hM 32) (3 : Int32).toNatClampNeg), hM))) else (if x1 = (11 : Int32) then (xgd (x1 - (11 : Int32)) 8 (some (((hM 32) (x1 - (11 : Int32)).toNatClampNeg), hM))) else (if x1 = (12 : Int32) then (xgd (x1 - (11 : Int32)) 8 (some (((hM 32) (x1 - (11 : Int32)).toNatClampNeg), hM))) else (if x1 = (13 : Int32) then (xgd (x1 - (11 : Int32)) 8 (some (((hM 32) (x1 - (11 : Int32)).toNatClampNeg), hM))) else (if x1 = (14 : Int32) then (some (((hM 31) 20), hM)) else (if x1 = (15 : Int32) then (some (((hM 31) 3), hM)) else none)))))))))))))))))
def xt_X8_distance (x1 : Int32) (x2 : Int32) (x3 : Int32) (x4 : Int32) (hM : Mem) : Option (Int32 × Mem) := (Option.bind (xt_X8_errorOf x1 x2 x3 x4 hM) (fun (o_1 : Int32) => (if o_1 = 0 then (Option.bind (xt_X0_prepare (hM 21) hM) (fun (o_2 : Mem) => (Option.bind (xt_X3_numberOf x1 x2 x3 x4 hM) (fun (o_3 : Int32) => (Option.bind (xt_X0_at o_3 (mgs hM [9, 10] o_2)) (fun (o_4 : Int32) => (some (o_4, (mgs hM [9, 10, 11, 12] o_2))))))))) else (some (o_1, hM)))))
def xt_X9_distance (x1 : Int32) (x2 : Int32) (x3 : Int32) (x4 : Int32) (hM : Mem) : Option (Int32 × Mem) := (Option.bind (xt_X9_whyNot x1 x2 x3 x4 hM) (fun (o_1 : Int32) => (if 0 ≤ o_1 then (Option.bind (xt_X9_work hM) (fun (o_2 : Mem) => (Option.bind (xt_X9_numberOf x1 x2 x3 x4) (fun (o_3 : Int32) => (xgd o_3 4096 (some (((o_2 38) o_3.toNatClampNeg), (mgs hM [31, 38, 39, 40, 41, 42, 43, 44] o_2)))))))) else (some (o_1, hM)))))
def xt_X8_number (x1 : Int32) (x2 : Int32) (x3 : Int32) (x4 : Int32) (hM : Mem) : Option (Int32) := (Option.bind (xt_X8_errorOf x1 x2 x3 x4 hM) (fun (o_1 : Int32) => (if o_1 = 0 then (Option.bind (xt_X3_numberOf x1 x2 x3 x4 hM) (fun (o_2 : Int32) => (some o_2))) else (some o_1))))
def xt_X9_number (x1 : Int32) (x2 : Int32) (x3 : Int32) (x4 : Int32) (hM : Mem) : Option (Int32) := (Option.bind (xt_X9_whyNot x1 x2 x3 x4 hM) (fun (o_1 : Int32) => (if 0 ≤ o_1 then (Option.bind (xt_X9_numberOf x1 x2 x3 x4) (fun (o_2 : Int32) => (some o_2))) else (some o_1))))
def xt_X8_folded (x1 : Int32) (x2 : Int32) (x3 : Int32) (x4 : Int32) (hM : Mem) : Option (Int32 × Mem) := (Option.bind (xt_X8_errorOf x1 x2 x3 x4 hM) (fun (o_1 : Int32) => (if o_1 = 0 then (Option.bind (xt_X3_numberOf x1 x2 x3 x4 hM) (fun (o_2 : Int32) => (Option.bind (xt_X8_foldedNumber o_2 hM) (fun (o_3 : Int32 × Mem) => (some (o_3.1, (mgs hM [13, 14] o_3.2))))))) else (some (o_1, hM)))))
def xt_X9_folded (x1 : Int32) (x2 : Int32) (x3 : Int32) (x4 : Int32) (hM : Mem) : Option (Int32 × Mem) := (Option.bind (xt_X9_whyNot x1 x2 x3 x4 hM) (fun (o_1 : Int32) => (if 0 ≤ o_1 then (Option.bind (xt_X9_work hM) (fun (o_2 : Mem) => (Option.bind (xt_X9_numberOf x1 x2 x3 x4) (fun (o_3 : Int32) => (xgd o_3 4096 (some (((o_2 39) o_3.toNatClampNeg), (mgs hM [31, 38, 39, 40, 41, 42, 43, 44] o_2)))))))) else (some (o_1, hM)))))
def xt_X3_isPosition (x1 : Int32) (x2 : Int32) (hM : Mem) : Option (Int32) := (Option.bind (xt_X3_pairIn x1) (fun (o_1 : Int32) => (Option.bind (xt_X3_foxOf x1) (fun (o_2 : Int32) => (Option.bind (xt_X3_placesOf o_1 hM) (fun (o_3 : Int32) => (if (120 : Int32) ≤ o_1 then (some (0 : Int32)) else (if (((1 : Int32) <<< (o_2 &&& 31)) &&& o_3) = 0 then (if ((((1 : Int32) <<< (o_2 &&& 31)) ||| o_3) &&& x2) = 0 then (some (1 : Int32)) else (some (0 : Int32))) else (some (0 : Int32))))))))))
def xt_X1_symmetries (hM : Mem) : Option (Int32) := (some (((hM 13) 2) + (1 : Int32)))
def xt_X1_standsForItself_l2 (x1 : Int32) (hM : Mem) (k : Unit → Option (Int32)) : Nat → Int32 → Option (Int32)
  | 0, _ => none
  | n + 1, v2 => (if ((hM 13) 2) ≤ v2 then (k ()) else (if (Int32.ofNat 8) ≤ v2 then (k ()) else (xgd v2 8 (Option.bind (xt_X1_imageOfNumber ((hM 14) v2.toNatClampNeg) x1 hM) (fun (o_1 : Int32) => (if x1 ≤ o_1 then (xt_X1_standsForItself_l2 x1 hM k n (v2 + (1 : Int32))) else (some (0 : Int32))))))))
def xt_X1_standsForItself (x1 : Int32) (hM : Mem) : Option (Int32) := (xt_X1_standsForItself_l2 x1 hM (fun (_ : Unit) => (some (1 : Int32))) 5000 (0 : Int32))
def xt_X3_keyOf (x1 : Int32) (hM : Mem) : Option (Int32) := (Option.bind (xt_X3_foxOf x1) (fun (o_1 : Int32) => (Option.bind (xt_X3_pairIn x1) (fun (o_2 : Int32) => (Option.bind (xt_X3_lowerOf o_2 hM) (fun (o_3 : Int32) => (Option.bind (xt_X3_far o_1 o_3) (fun (o_4 : Int32) => (Option.bind (xt_X3_higherOf o_2 hM) (fun (o_5 : Int32) => (Option.bind (xt_X3_far o_1 o_5) (fun (o_6 : Int32) => (Option.bind (xt_X3_whoOf x1) (fun (o_7 : Int32) => (Option.bind (xt_J9_min_7cf53 o_4 o_6) (fun (o_8 : Int32) => (Option.bind (xt_J9_max_7cf53 o_4 o_6) (fun (o_9 : Int32) => (some ((((49 : Int32) * o_7) + ((7 : Int32) * o_8)) + o_9))))))))))))))))))))
def xt_X7_collect (x1 : Int32) (hM : Mem) : Option (Mem) := (Option.bind (xt_X0_at x1 hM) (fun (o_1 : Int32) => (if o_1 = (-6 : Int32) then (Option.bind (xt_X3_keyOf x1 hM) (fun (o_3 : Int32) => (if ((o_3 * (64 : Int32)) + (63 : Int32)) < 0 then (some hM) else (if (Int32.ofNat 6272) ≤ ((o_3 * (64 : Int32)) + (63 : Int32)) then (some hM) else (xgd (1 : Int32) 11 (if (Int32.ofNat 4096) ≤ ((hM 16) (1 : Int32).toNatClampNeg) then (some hM) else (xgd ((o_3 * (64 : Int32)) + (63 : Int32)) 6272 (xgd ((o_3 * (64 : Int32)) + (63 : Int32)) 6272 (xgd (1 : Int32) 11 (xgd ((hM 16) (1 : Int32).toNatClampNeg) 4096 (xgd (1 : Int32) 11 (xgd (1 : Int32) 11 (some (mset (mset (mset hM 16 (upd (hM 16) (1 : Int32).toNatClampNeg (((hM 16) (1 : Int32).toNatClampNeg) + (1 : Int32)))) 17 (upd (hM 17) ((hM 16) (1 : Int32).toNatClampNeg).toNatClampNeg x1)) 18 (upd (hM 18) ((o_3 * (64 : Int32)) + (63 : Int32)).toNatClampNeg (((hM 18) ((o_3 * (64 : Int32)) + (63 : Int32)).toNatClampNeg) + (1 : Int32))))))))))))))))) else (Option.bind (xt_X3_keyOf x1 hM) (fun (o_2 : Int32) => (if ((o_2 * (64 : Int32)) + o_1) < 0 then (some hM) else (if (Int32.ofNat 6272) ≤ ((o_2 * (64 : Int32)) + o_1) then (some hM) else (xgd (1 : Int32) 11 (if (Int32.ofNat 4096) ≤ ((hM 16) (1 : Int32).toNatClampNeg) then (some hM) else (xgd ((o_2 * (64 : Int32)) + o_1) 6272 (xgd ((o_2 * (64 : Int32)) + o_1) 6272 (xgd (1 : Int32) 11 (xgd ((hM 16) (1 : Int32).toNatClampNeg) 4096 (xgd (1 : Int32) 11 (xgd (1 : Int32) 11 (some (mset (mset (mset hM 16 (upd (hM 16) (1 : Int32).toNatClampNeg (((hM 16) (1 : Int32).toNatClampNeg) + (1 : Int32)))) 17 (upd (hM 17) ((hM 16) (1 : Int32).toNatClampNeg).toNatClampNeg x1)) 18 (upd (hM 18) ((o_2 * (64 : Int32)) + o_1).toNatClampNeg (((hM 18) ((o_2 * (64 : Int32)) + o_1).toNatClampNeg) + (1 : Int32))))))))))))))))))))
def xt_X7_goThrough_l18 (x1 : Int32) (hM : Mem) (k : Mem → Option (Mem)) : Nat → Int32 → Mem → Option (Mem)
  | 0, _, _ => none
  | n + 1, v2, mM => (if (4096 : Int32) ≤ v2 then (k (mgs hM [16, 17, 18] mM)) else (Option.bind (xt_X3_isPosition v2 x1 hM) (fun (o_1 : Int32) => (if o_1 = 0 then (xt_X7_goThrough_l18 x1 hM k n (v2 + (1 : Int32)) (mgs hM [16, 17, 18] mM)) else (xgd (0 : Int32) 11 (xgd (0 : Int32) 11 (Option.bind (xt_X0_at v2 hM) (fun (o_2 : Int32) => (xgd (3 : Int32) 11 (if o_2 ≤ ((upd (mM 16) (0 : Int32).toNatClampNeg (((mM 16) (0 : Int32).toNatClampNeg) + (1 : Int32))) (3 : Int32).toNatClampNeg) then (Option.bind (xt_X1_standsForItself v2 hM) (fun (o_3 : Int32) => (if o_3 = 0 then (xt_X7_goThrough_l18 x1 hM k n (v2 + (1 : Int32)) (mgs (mset hM 16 (upd (mM 16) (0 : Int32).toNatClampNeg (((mM 16) (0 : Int32).toNatClampNeg) + (1 : Int32)))) [17, 18] mM)) else (Option.bind (xt_X7_collect v2 (mgs (mset hM 16 (upd (mM 16) (0 : Int32).toNatClampNeg (((mM 16) (0 : Int32).toNatClampNeg) + (1 : Int32)))) [17, 18] mM)) (fun (o_4 : Mem) => (xt_X7_goThrough_l18 x1 hM k n (v2 + (1 : Int32)) (mgs hM [16, 17, 18] o_4))))))) else (Option.bind (xt_X0_at v2 hM) (fun (o_5 : Int32) => (xgd (3 : Int32) 11 (xgd (4 : Int32) 11 (Option.bind (xt_X1_standsForItself v2 hM) (fun (o_6 : Int32) => (if o_6 = 0 then (xt_X7_goThrough_l18 x1 hM k n (v2 + (1 : Int32)) (mgs (mset hM 16 (upd (upd (upd (mM 16) (0 : Int32).toNatClampNeg (((mM 16) (0 : Int32).toNatClampNeg) + (1 : Int32))) (3 : Int32).toNatClampNeg o_5) (4 : Int32).toNatClampNeg v2)) [17, 18] mM)) else (Option.bind (xt_X7_collect v2 (mgs (mset hM 16 (upd (upd (upd (mM 16) (0 : Int32).toNatClampNeg (((mM 16) (0 : Int32).toNatClampNeg) + (1 : Int32))) (3 : Int32).toNatClampNeg o_5) (4 : Int32).toNatClampNeg v2)) [17, 18] mM)) (fun (o_7 : Mem) => (xt_X7_goThrough_l18 x1 hM k n (v2 + (1 : Int32)) (mgs hM [16, 17, 18] o_7)))))))))))))))))))))
def xt_X7_goThrough (x1 : Int32) (hM : Mem) : Option (Mem) := (xgd (3 : Int32) 11 (xgd (4 : Int32) 11 (xt_X7_goThrough_l18 x1 (mset hM 16 (upd (upd (hM 16) (3 : Int32).toNatClampNeg (-6 : Int32)) (4 : Int32).toNatClampNeg (-6 : Int32))) (fun (m_8 : Mem) => (some (mgs hM [16, 17, 18] m_8))) 5000 (0 : Int32) (mset hM 16 (upd (upd (hM 16) (3 : Int32).toNatClampNeg (-6 : Int32)) (4 : Int32).toNatClampNeg (-6 : Int32))))))
def xt_X7_distanceOf (x0 : Int32) : Option (Int32) := (if x0 = (63 : Int32) then (some (-6 : Int32)) else (some x0))
def xt_X7_commonest_l7 (x1 : Int32) (hM : Mem) (k : Int32 → Option (Int32)) : Nat → Int32 → Int32 → Int32 → Option (Int32)
  | 0, _, _, _ => none
  | n + 1, v2, v3, v4 => (if (64 : Int32) ≤ v4 then (k v3) else (xgd ((x1 * (64 : Int32)) + v4) 6272 (if ((hM 18) ((x1 * (64 : Int32)) + v4).toNatClampNeg) ≤ v2 then (xt_X7_commonest_l7 x1 hM k n v2 v3 (v4 + (1 : Int32))) else (Option.bind (xt_X7_distanceOf v4) (fun (o_1 : Int32) => (xt_X7_commonest_l7 x1 hM k n ((hM 18) ((x1 * (64 : Int32)) + v4).toNatClampNeg) o_1 (v4 + (1 : Int32))))))))
def xt_X7_commonest (x1 : Int32) (hM : Mem) : Option (Int32) := (xt_X7_commonest_l7 x1 hM (fun (v3_2 : Int32) => (some v3_2)) 5000 (0 : Int32) (-1 : Int32) (0 : Int32))
def xt_X7_makeRule_l2 (hM : Mem) (k : Mem → Option (Mem)) : Nat → Int32 → Mem → Option (Mem)
  | 0, _, _ => none
  | n + 1, v1, mM => (if (98 : Int32) ≤ v1 then (k (mgs hM [16, 19] mM)) else (Option.bind (xt_X7_commonest v1 hM) (fun (o_1 : Int32) => (xgd v1 98 (xgd v1 98 (if ((upd (mM 19) v1.toNatClampNeg o_1) v1.toNatClampNeg) = (-1 : Int32) then (xt_X7_makeRule_l2 hM k n (v1 + (1 : Int32)) (mgs (mset hM 19 (upd (mM 19) v1.toNatClampNeg o_1)) [16] mM)) else (xgd (10 : Int32) 11 (xgd (10 : Int32) 11 (xt_X7_makeRule_l2 hM k n (v1 + (1 : Int32)) (mset (mset hM 16 (upd (mM 16) (10 : Int32).toNatClampNeg (((mM 16) (10 : Int32).toNatClampNeg) + (1 : Int32)))) 19 (upd (mM 19) v1.toNatClampNeg o_1)))))))))))
def xt_X7_makeRule (hM : Mem) : Option (Mem) := (xt_X7_makeRule_l2 hM (fun (m_2 : Mem) => (some (mgs hM [16, 19] m_2))) 5000 (0 : Int32) hM)
def xt_X7_told (x1 : Int32) (hM : Mem) : Option (Int32) := (if x1 < 0 then (some (-1 : Int32)) else (if (98 : Int32) ≤ x1 then (some (-1 : Int32)) else (xgd x1 98 (some ((hM 19) x1.toNatClampNeg)))))
def xt_X7_countException (x1 : Int32) (x2 : Int32) (hM : Mem) : Option (Mem) := (xgd (6 : Int32) 11 (xgd (6 : Int32) 11 (if x1 = (1 : Int32) then (xgd (7 : Int32) 11 (xgd (7 : Int32) 11 (if x2 = 0 then (xgd (9 : Int32) 11 (Option.bind (xt_J9_max_7cf53 ((upd (upd (hM 16) (6 : Int32).toNatClampNeg (((hM 16) (6 : Int32).toNatClampNeg) + (1 : Int32))) (7 : Int32).toNatClampNeg (((upd (hM 16) (6 : Int32).toNatClampNeg (((hM 16) (6 : Int32).toNatClampNeg) + (1 : Int32))) (7 : Int32).toNatClampNeg) + (1 : Int32))) (9 : Int32).toNatClampNeg) x1) (fun (o_3 : Int32) => (xgd (9 : Int32) 11 (some (mset hM 16 (upd (upd (upd (hM 16) (6 : Int32).toNatClampNeg (((hM 16) (6 : Int32).toNatClampNeg) + (1 : Int32))) (7 : Int32).toNatClampNeg (((upd (hM 16) (6 : Int32).toNatClampNeg (((hM 16) (6 : Int32).toNatClampNeg) + (1 : Int32))) (7 : Int32).toNatClampNeg) + (1 : Int32))) (9 : Int32).toNatClampNeg o_3))))))) else (xgd (8 : Int32) 11 (xgd (8 : Int32) 11 (xgd (9 : Int32) 11 (Option.bind (xt_J9_max_7cf53 ((upd (upd (upd (hM 16) (6 : Int32).toNatClampNeg (((hM 16) (6 : Int32).toNatClampNeg) + (1 : Int32))) (7 : Int32).toNatClampNeg (((upd (hM 16) (6 : Int32).toNatClampNeg (((hM 16) (6 : Int32).toNatClampNeg) + (1 : Int32))) (7 : Int32).toNatClampNeg) + (1 : Int32))) (8 : Int32).toNatClampNeg (((upd (upd (hM 16) (6 : Int32).toNatClampNeg (((hM 16) (6 : Int32).toNatClampNeg) + (1 : Int32))) (7 : Int32).toNatClampNeg (((upd (hM 16) (6 : Int32).toNatClampNeg (((hM 16) (6 : Int32).toNatClampNeg) + (1 : Int32))) (7 : Int32).toNatClampNeg) + (1 : Int32))) (8 : Int32).toNatClampNeg) + (1 : Int32))) (9 : Int32).toNatClampNeg) x1) (fun (o_4 : Int32) => (xgd (9 : Int32) 11 (some (mset hM 16 (upd (upd (upd (upd (hM 16) (6 : Int32).toNatClampNeg (((hM 16) (6 : Int32).toNatClampNeg) + (1 : Int32))) (7 : Int32).toNatClampNeg (((upd (hM 16) (6 : Int32).toNatClampNeg (((hM 16) (6 : Int32).toNatClampNeg) + (1 : Int32))) (7 : Int32).toNatClampNeg) + (1 : Int32))) (8 : Int32).toNatClampNeg (((upd (upd (hM 16) (6 : Int32).toNatClampNeg (((hM 16) (6 : Int32).toNatClampNeg) + (1 : Int32))) (7 : Int32).toNatClampNeg (((upd (hM 16) (6 : Int32).toNatClampNeg (((hM 16) (6 : Int32).toNatClampNeg) + (1 : Int32))) (7 : Int32).toNatClampNeg) + (1 : Int32))) (8 : Int32).toNatClampNeg) + (1 : Int32))) (9 : Int32).toNatClampNeg o_4)))))))))))) else (if x2 = 0 then (xgd (9 : Int32) 11 (Option.bind (xt_J9_max_7cf53 ((upd (hM 16) (6 : Int32).toNatClampNeg (((hM 16) (6 : Int32).toNatClampNeg) + (1 : Int32))) (9 : Int32).toNatClampNeg) x1) (fun (o_1 : Int32) => (xgd (9 : Int32) 11 (some (mset hM 16 (upd (upd (hM 16) (6 : Int32).toNatClampNeg (((hM 16) (6 : Int32).toNatClampNeg) + (1 : Int32))) (9 : Int32).toNatClampNeg o_1))))))) else (xgd (8 : Int32) 11 (xgd (8 : Int32) 11 (xgd (9 : Int32) 11 (Option.bind (xt_J9_max_7cf53 ((upd (upd (hM 16) (6 : Int32).toNatClampNeg (((hM 16) (6 : Int32).toNatClampNeg) + (1 : Int32))) (8 : Int32).toNatClampNeg (((upd (hM 16) (6 : Int32).toNatClampNeg (((hM 16) (6 : Int32).toNatClampNeg) + (1 : Int32))) (8 : Int32).toNatClampNeg) + (1 : Int32))) (9 : Int32).toNatClampNeg) x1) (fun (o_2 : Int32) => (xgd (9 : Int32) 11 (some (mset hM 16 (upd (upd (upd (hM 16) (6 : Int32).toNatClampNeg (((hM 16) (6 : Int32).toNatClampNeg) + (1 : Int32))) (8 : Int32).toNatClampNeg (((upd (hM 16) (6 : Int32).toNatClampNeg (((hM 16) (6 : Int32).toNatClampNeg) + (1 : Int32))) (8 : Int32).toNatClampNeg) + (1 : Int32))) (9 : Int32).toNatClampNeg o_2)))))))))))))
def xt_X7_countExceptions_l6 (hM : Mem) (k : Mem → Option (Mem)) : Nat → Int32 → Int32 → Int32 → Mem → Option (Mem)
  | 0, _, _, _, _ => none
  | n + 1, v1, v2, v3, mM => (xgd (1 : Int32) 11 (if ((mM 16) (1 : Int32).toNatClampNeg) ≤ v3 then (k (mgs hM [16] mM)) else (if (Int32.ofNat 4096) ≤ v3 then (k (mgs hM [16] mM)) else (xgd v3 4096 (Option.bind (xt_X0_at ((hM 17) v3.toNatClampNeg) hM) (fun (o_1 : Int32) => (Option.bind (xt_X3_keyOf ((hM 17) v3.toNatClampNeg) hM) (fun (o_2 : Int32) => (Option.bind (xt_X7_told o_2 hM) (fun (o_3 : Int32) => (if o_1 = o_3 then (xt_X7_countExceptions_l6 hM k n (0 : Int32) v2 (v3 + (1 : Int32)) (mgs hM [16] mM)) else (if v2 = (((hM 17) v3.toNatClampNeg) / (64 : Int32)) then (Option.bind (xt_X7_countException (v1 + (1 : Int32)) (0 : Int32) (mgs hM [16] mM)) (fun (o_4 : Mem) => (xt_X7_countExceptions_l6 hM k n (v1 + (1 : Int32)) (((hM 17) v3.toNatClampNeg) / (64 : Int32)) (v3 + (1 : Int32)) (mgs hM [16] o_4)))) else (Option.bind (xt_X7_countException (v1 + (1 : Int32)) (1 : Int32) (mgs hM [16] mM)) (fun (o_5 : Mem) => (xt_X7_countExceptions_l6 hM k n (v1 + (1 : Int32)) (((hM 17) v3.toNatClampNeg) / (64 : Int32)) (v3 + (1 : Int32)) (mgs hM [16] o_5))))))))))))))))
def xt_X7_countExceptions (hM : Mem) : Option (Mem) := (xt_X7_countExceptions_l6 hM (fun (m_6 : Mem) => (some (mgs hM [16] m_6))) 5000 (0 : Int32) (-1 : Int32) (0 : Int32) hM)
def xt_X7_countWith_l18 (x1 : Int32) (x2 : Int32) (hM : Mem) (k : Int32 → Option (Int32)) : Nat → Int32 → Int32 → Option (Int32)
  | 0, _, _ => none
  | n + 1, v3, v4 => (if (98 : Int32) ≤ v4 then (k v3) else (if x2 < 0 then (k v3) else (if (64 : Int32) ≤ x2 then (k v3) else (Option.bind (xt_X7_distanceOf x2) (fun (o_1 : Int32) => (if o_1 = x1 then (xgd ((v4 * (64 : Int32)) + x2) 6272 (xt_X7_countWith_l18 x1 x2 hM k n (v3 + ((hM 18) ((v4 * (64 : Int32)) + x2).toNatClampNeg)) (v4 + (1 : Int32)))) else (xt_X7_countWith_l18 x1 x2 hM k n (v3 + (0 : Int32)) (v4 + (1 : Int32)))))))))
def xt_X7_countWith (x1 : Int32) (hM : Mem) : Option (Int32) := (if x1 = (-6 : Int32) then (xt_X7_countWith_l18 x1 (63 : Int32) hM (fun (v3_3 : Int32) => (some v3_3)) 5000 (0 : Int32) (0 : Int32)) else (xt_X7_countWith_l18 x1 x1 hM (fun (v3_2 : Int32) => (some v3_2)) 5000 (0 : Int32) (0 : Int32)))
def xt_X7_prepare (sp1 : Nat → Int32) (hM : Mem) : Option (Mem) := (Option.bind (xt_X0_signOf sp1) (fun (o_1 : Int32) => (if ((hM 15) 7) = o_1 then (some hM) else (Option.bind (xt_X0_signOf sp1) (fun (o_2 : Int32) => (Option.bind (xt_X0_prepare sp1 hM) (fun (o_3 : Mem) => (Option.bind (xt_X1_prepare (sp1 1) hM) (fun (o_4 : Mem) => (Option.bind (xt_J7_fill_53178 11 (0 : Int32) (hM 16)) (fun (o_5 : (Nat → Int32)) => (Option.bind (xt_J7_fill_53178 6272 (0 : Int32) (hM 18)) (fun (o_6 : (Nat → Int32)) => (Option.bind (xt_X1_symmetries (mgs hM [13] o_4)) (fun (o_7 : Int32) => (xgd (2 : Int32) 11 (Option.bind (xt_X7_goThrough (sp1 1) (mgs (mgs (mset (mset (mset hM 15 (upd (hM 15) 7 o_2)) 16 (upd o_5 (2 : Int32).toNatClampNeg o_7)) 18 o_6) [9, 10] o_3) [13, 14] o_4)) (fun (o_8 : Mem) => (Option.bind (xt_X7_makeRule (mgs (mset hM 15 (upd (hM 15) 7 o_2)) [16, 18] o_8)) (fun (o_9 : Mem) => (Option.bind (xt_X7_countExceptions (mgs (mgs (mgs (mset hM 15 (upd (hM 15) 7 o_2)) [9, 10] o_3) [16, 19] o_9) [17] o_8)) (fun (o_10 : Mem) => (Option.bind (xt_X7_countWith (-6 : Int32) (mgs (mset hM 15 (upd (hM 15) 7 o_2)) [18] o_8)) (fun (o_11 : Int32) => (xgd (5 : Int32) 11 (some (mgs (mgs (mgs (mgs (mset (mset hM 15 (upd (hM 15) 7 o_2)) 16 (upd (o_10 16) (5 : Int32).toNatClampNeg o_11)) [9, 10, 11, 12] o_3) [13, 14] o_4) [17, 18] o_8) [19] o_9)))))))))))))))))))))))))))
def xt_X1_alike_l4 (x1 : Int32) (hM : Mem) (k : Int32 → Option (Int32)) : Nat → Int32 → Int32 → Option (Int32)
  | 0, _, _ => none
  | n + 1, v2, v3 => (if ((hM 13) 2) ≤ v3 then (k v2) else (if (Int32.ofNat 8) ≤ v3 then (k v2) else (xgd v3 8 (Option.bind (xt_X1_imageOfNumber ((hM 14) v3.toNatClampNeg) x1 hM) (fun (o_1 : Int32) => (if o_1 = x1 then (xt_X1_alike_l4 x1 hM k n (v2 + (1 : Int32)) (v3 + (1 : Int32))) else (xt_X1_alike_l4 x1 hM k n v2 (v3 + (1 : Int32)))))))))
def xt_X1_alike (x1 : Int32) (hM : Mem) : Option (Int32) := (xt_X1_alike_l4 x1 hM (fun (v2_2 : Int32) => (if v2_2 ≤ 0 then (some (1 : Int32)) else (Option.bind (xt_X1_symmetries hM) (fun (o_3 : Int32) => (xgz v2_2 (some (o_3 / v2_2))))))) 5000 (1 : Int32) (0 : Int32))
def xt_X8_of (x1 : Int32) (x2 : Int32) (hM : Mem) : Option (Int32 × Mem) := (if x1 < 0 then (some ((-2 : Int32), hM)) else (if (4096 : Int32) ≤ x1 then (some ((-2 : Int32), hM)) else (if x2 < 0 then (some ((-2 : Int32), hM)) else (if x2 ≤ (6 : Int32) then (Option.bind (xt_X3_isPosition x1 ((hM 21) 1) hM) (fun (o_1 : Int32) => (if o_1 = 0 then (some ((-1 : Int32), hM)) else (if (x2).toInt < 0 ∨ 5 < (x2).toInt then (Option.bind (xt_X1_prepare ((hM 21) 1) hM) (fun (o_2 : Mem) => (Option.bind (xt_X1_alike x1 (mgs hM [13, 14] o_2)) (fun (o_3 : Int32) => (some (o_3, (mgs hM [13, 14] o_2))))))) else (if x2 = (0 : Int32) then (Option.bind (xt_X3_whoOf x1) (fun (o_4 : Int32) => (some (o_4, hM)))) else (if x2 = (1 : Int32) then (Option.bind (xt_X3_foxOf x1) (fun (o_5 : Int32) => (some (o_5, hM)))) else (if x2 = (2 : Int32) then (Option.bind (xt_X3_pairIn x1) (fun (o_6 : Int32) => (Option.bind (xt_X3_lowerOf o_6 hM) (fun (o_7 : Int32) => (some (o_7, hM)))))) else (if x2 = (3 : Int32) then (Option.bind (xt_X3_pairIn x1) (fun (o_8 : Int32) => (Option.bind (xt_X3_higherOf o_8 hM) (fun (o_9 : Int32) => (some (o_9, hM)))))) else (if x2 = (4 : Int32) then (Option.bind (xt_X0_prepare (hM 21) hM) (fun (o_10 : Mem) => (Option.bind (xt_X0_at x1 (mgs hM [9, 10] o_10)) (fun (o_11 : Int32) => (some (o_11, (mgs hM [9, 10, 11, 12] o_10))))))) else (if x2 = (5 : Int32) then (Option.bind (xt_X7_prepare (hM 21) hM) (fun (o_12 : Mem) => (Option.bind (xt_X3_keyOf x1 hM) (fun (o_13 : Int32) => (Option.bind (xt_X7_told o_13 (mgs hM [15, 19] o_12)) (fun (o_14 : Int32) => (some (o_14, (mgs hM [9, 10, 11, 12, 13, 14, 15, 16, 17, 18, 19] o_12))))))))) else none)))))))))) else (some ((-2 : Int32), hM))))))
def xt_X9_of (x1 : Int32) (x2 : Int32) (hM : Mem) : Option (Int32 × Mem) := (Option.bind (xt_X9_in x1 (0 : Int32) (4095 : Int32)) (fun (o_1 : Int32) => (if o_1 = 0 then (some ((-2 : Int32), hM)) else (Option.bind (xt_X9_in x2 (0 : Int32) (6 : Int32)) (fun (o_2 : Int32) => (if o_2 = 0 then (some ((-2 : Int32), hM)) else (Option.bind (xt_X9_isPosition x1 hM) (fun (o_3 : Int32) => (if o_3 = 0 then (some ((-1 : Int32), hM)) else (Option.bind (xt_X9_work hM) (fun (o_4 : Mem) => (if (x2).toInt < 0 ∨ 5 < (x2).toInt then (xgd x1 4096 (some (((o_4 40) x1.toNatClampNeg), (mgs hM [31, 38, 39, 40, 41, 42, 43, 44] o_4)))) else (if x2 = (0 : Int32) then (some ((x1 / (2048 : Int32)), (mgs hM [31, 38, 39, 40, 41, 42, 43, 44] o_4))) else (if x2 = (1 : Int32) then (some (((x1 / (128 : Int32)) - (x1 / (128 : Int32)) / (16 : Int32) * (16 : Int32)), (mgs hM [31, 38, 39, 40, 41, 42, 43, 44] o_4))) else (if x2 = (2 : Int32) then (xgd (x1 - x1 / (128 : Int32) * (128 : Int32)) 120 (some (((hM 36) (x1 - x1 / (128 : Int32) * (128 : Int32)).toNatClampNeg), (mgs hM [31, 38, 39, 40, 41, 42, 43, 44] o_4)))) else (if x2 = (3 : Int32) then (xgd (x1 - x1 / (128 : Int32) * (128 : Int32)) 120 (some (((hM 37) (x1 - x1 / (128 : Int32) * (128 : Int32)).toNatClampNeg), (mgs hM [31, 38, 39, 40, 41, 42, 43, 44] o_4)))) else (if x2 = (4 : Int32) then (xgd x1 4096 (some (((o_4 38) x1.toNatClampNeg), (mgs hM [31, 38, 39, 40, 41, 42, 43, 44] o_4)))) else (if x2 = (5 : Int32) then (Option.bind (xt_X9_key x1 (mgs hM [31] o_4)) (fun (o_5 : Int32) => (xgd o_5 98 (some (((o_4 42) o_5.toNatClampNeg), (mgs hM [31, 38, 39, 40, 41, 42, 43, 44] o_4)))))) else none))))))))))))))))))
def xt_X8_line_l27 (x1 : Int32) (hM : Mem) (k : Mem → Option (Int32 × Mem)) : Nat → Int32 → Mem → Option (Int32 × Mem)
  | 0, _, _ => none
  | n + 1, v2, mM => (if x1 ≤ v2 then (k (mgs hM [9, 10, 11, 12, 22] mM)) else (Option.bind (xt_X2_bestMove (mM 22) (mgs hM [9, 10, 11, 12] mM)) (fun (o_2 : Int32 × Mem) => (if o_2.1 = (-6 : Int32) then (some ((-6 : Int32), (mgs (mgs hM [9, 10, 11, 12] o_2.2) [22] mM))) else (Option.bind (xt_X2_fromOf o_2.1) (fun (o_3 : Int32) => (Option.bind (xt_X2_toOf o_2.1) (fun (o_4 : Int32) => (Option.bind (xt_X2_make o_3 o_4 (mM 22)) (fun (o_5 : (Nat → Int32)) => (xt_X8_line_l27 x1 hM k n (v2 + (1 : Int32)) (mgs (mset hM 22 o_5) [9, 10, 11, 12] o_2.2))))))))))))
def xt_X8_line (x1 : Int32) (hM : Mem) : Option (Int32 × Mem) := (if x1 < (1 : Int32) then (some ((-2 : Int32), hM)) else (if x1 ≤ (60 : Int32) then (Option.bind (xt_X6_take (hM 22) (hM 21)) (fun (o_1 : (Nat → Int32)) => (xt_X8_line_l27 x1 (mset hM 22 o_1) (fun (m_6 : Mem) => (Option.bind (xt_X2_caught (m_6 22) hM) (fun (o_7 : Int32) => (if o_7 = 0 then (Option.bind (xt_X8_numberNow (m_6 22) hM) (fun (o_8 : Int32) => (some (o_8, (mgs hM [9, 10, 11, 12, 22] m_6))))) else (some ((-6 : Int32), (mgs hM [9, 10, 11, 12, 22] m_6))))))) 5000 (0 : Int32) (mset hM 22 o_1)))) else (some ((-2 : Int32), hM))))
def xt_X9_line_l48 (x1 : Int32) (x2 : Int32) (x3 : Int32) (x4 : Int32) (x5 : Int32) (hM : Mem) (k : Int32 → Mem → Option (Int32 × Mem)) : Nat → Int32 → Mem → Option (Int32 × Mem)
  | 0, _, _ => none
  | n + 1, v6, mM => (if x1 ≤ v6 then (k v6 (mgs hM [31, 32, 38, 39, 40, 41, 42, 43, 44] mM)) else (Option.bind (xt_X9_findBest (mgs hM [31, 32, 38, 39, 40, 41, 42, 43, 44] mM)) (fun (o_2 : Int32 × Mem) => (if o_2.1 = 0 then (k v6 (mgs (mgs hM [31, 38, 39, 40, 41, 42, 43, 44] o_2.2) [32] mM)) else (Option.bind (xt_X9_make ((o_2.2 31) 17) ((o_2.2 31) 18) (mgs (mgs hM [31, 38, 39, 40, 41, 42, 43, 44] o_2.2) [32] mM)) (fun (o_3 : Int32 × Mem) => (xt_X9_line_l48 x1 x2 x3 x4 x5 hM k n (v6 + (1 : Int32)) (mgs hM [31, 32, 38, 39, 40, 41, 42, 43, 44] o_3.2))))))))
def xt_X9_line (x1 : Int32) (hM : Mem) : Option (Int32 × Mem) := (Option.bind (xt_X9_in x1 (1 : Int32) (60 : Int32)) (fun (o_1 : Int32) => (if o_1 = 0 then (some ((-2 : Int32), hM)) else (xgd (4 : Int32) 8 (xgd (5 : Int32) 8 (xgd (6 : Int32) 8 (xgd (7 : Int32) 8 (xt_X9_line_l48 x1 ((hM 32) (4 : Int32).toNatClampNeg) ((hM 32) (5 : Int32).toNatClampNeg) ((hM 32) (6 : Int32).toNatClampNeg) ((hM 32) (7 : Int32).toNatClampNeg) hM (fun (v6_4 : Int32) (m_5 : Mem) => (if v6_4 < x1 then (Option.bind (xt_X9_lay ((hM 32) (4 : Int32).toNatClampNeg) ((hM 32) (5 : Int32).toNatClampNeg) ((hM 32) (6 : Int32).toNatClampNeg) ((hM 32) (7 : Int32).toNatClampNeg) (mgs hM [31, 32] m_5)) (fun (o_6 : Mem) => (some ((-6 : Int32), (mgs (mgs hM [31, 38, 39, 40, 41, 42, 43, 44] m_5) [32] o_6))))) else (Option.bind (xt_X9_isCaught (mgs hM [31, 32, 38, 39, 40, 41, 42, 43, 44] m_5)) (fun (o_7 : Int32 × Mem) => (if o_7.1 = 0 then (Option.bind (xt_X9_numberNow (mgs (mgs hM [31] o_7.2) [32] m_5)) (fun (o_8 : Int32) => (Option.bind (xt_X9_lay ((hM 32) (4 : Int32).toNatClampNeg) ((hM 32) (5 : Int32).toNatClampNeg) ((hM 32) (6 : Int32).toNatClampNeg) ((hM 32) (7 : Int32).toNatClampNeg) (mgs (mgs hM [31] o_7.2) [32] m_5)) (fun (o_9 : Mem) => (some (o_8, (mgs (mgs hM [31, 38, 39, 40, 41, 42, 43, 44] o_7.2) [32] o_9))))))) else (Option.bind (xt_X9_lay ((hM 32) (4 : Int32).toNatClampNeg) ((hM 32) (5 : Int32).toNatClampNeg) ((hM 32) (6 : Int32).toNatClampNeg) ((hM 32) (7 : Int32).toNatClampNeg) (mgs (mgs hM [31] o_7.2) [32] m_5)) (fun (o_10 : Mem) => (some ((-6 : Int32), (mgs (mgs hM [31, 38, 39, 40, 41, 42, 43, 44] o_7.2) [32] o_10)))))))))) 5000 (0 : Int32) hM))))))))
def xt_X7_total (x1 : Int32) (hM : Mem) : Option (Int32) := (if x1 < 0 then (some (0 : Int32)) else (if (11 : Int32) ≤ x1 then (some (0 : Int32)) else (xgd x1 11 (some ((hM 16) x1.toNatClampNeg)))))
def xt_X8_all (x1 : Int32) (hM : Mem) : Option (Int32 × Mem) := (if x1 < 0 then (some ((-2 : Int32), hM)) else (if x1 < (11 : Int32) then (Option.bind (xt_X7_prepare (hM 21) hM) (fun (o_1 : Mem) => (Option.bind (xt_X7_total x1 (mgs hM [15, 16] o_1)) (fun (o_2 : Int32) => (some (o_2, (mgs hM [9, 10, 11, 12, 13, 14, 15, 16, 17, 18, 19] o_1))))))) else (some ((-2 : Int32), hM))))
def xt_X9_positions_l4 (x1 : Int32) (hM : Mem) (k : Int32 → Option (Int32)) : Nat → Int32 → Int32 → Option (Int32)
  | 0, _, _ => none
  | n + 1, v2, v3 => (if (4096 : Int32) ≤ v3 then (k v2) else (if x1 = 0 then (xgd v3 4096 (if ((hM 39) v3.toNatClampNeg) < 0 then (xt_X9_positions_l4 x1 hM k n (v2 + (0 : Int32)) (v3 + (1 : Int32))) else (xt_X9_positions_l4 x1 hM k n (v2 + (1 : Int32)) (v3 + (1 : Int32))))) else (xgd v3 4096 (if ((hM 39) v3.toNatClampNeg) = v3 then (xt_X9_positions_l4 x1 hM k n (v2 + (1 : Int32)) (v3 + (1 : Int32))) else (xt_X9_positions_l4 x1 hM k n (v2 + (0 : Int32)) (v3 + (1 : Int32)))))))
def xt_X9_positions (x1 : Int32) (hM : Mem) : Option (Int32) := (xt_X9_positions_l4 x1 hM (fun (v2_1 : Int32) => (some v2_1)) 5000 (0 : Int32) (0 : Int32))
def xt_X9_greatest_l5 (hM : Mem) (k : Int32 → Option (Int32)) : Nat → Int32 → Int32 → Option (Int32)
  | 0, _, _ => none
  | n + 1, v1, v2 => (if (4096 : Int32) ≤ v2 then (k v1) else (xgd v2 4096 (Option.bind (xt_X9_greater v1 ((hM 38) v2.toNatClampNeg)) (fun (o_1 : Int32) => (xt_X9_greatest_l5 hM k n o_1 (v2 + (1 : Int32)))))))
def xt_X9_greatest (hM : Mem) : Option (Int32) := (xt_X9_greatest_l5 hM (fun (v1_2 : Int32) => (some v1_2)) 5000 (-6 : Int32) (0 : Int32))
def xt_X9_lowestWith_l2 (x1 : Int32) (hM : Mem) (k : Int32 → Option (Int32)) : Nat → Int32 → Option (Int32)
  | 0, _ => none
  | n + 1, v2 => (if x1 < 0 then (k v2) else (xgd v2 4096 (if ((hM 38) v2.toNatClampNeg) = x1 then (k v2) else (xt_X9_lowestWith_l2 x1 hM k n (v2 + (1 : Int32))))))
def xt_X9_lowestWith (x1 : Int32) (hM : Mem) : Option (Int32) := (xt_X9_lowestWith_l2 x1 hM (fun (v2_1 : Int32) => (if 0 ≤ x1 then (some v2_1) else (some (-6 : Int32)))) 5000 (0 : Int32))
def xt_X9_standingWith_l4 (x1 : Int32) (hM : Mem) (k : Int32 → Option (Int32)) : Nat → Int32 → Int32 → Option (Int32)
  | 0, _, _ => none
  | n + 1, v2, v3 => (if (4096 : Int32) ≤ v3 then (k v2) else (xgd v3 4096 (if ((hM 39) v3.toNatClampNeg) = v3 then (xgd v3 4096 (if ((hM 38) v3.toNatClampNeg) = x1 then (xt_X9_standingWith_l4 x1 hM k n (v2 + (1 : Int32)) (v3 + (1 : Int32))) else (xt_X9_standingWith_l4 x1 hM k n (v2 + (0 : Int32)) (v3 + (1 : Int32))))) else (xt_X9_standingWith_l4 x1 hM k n (v2 + (0 : Int32)) (v3 + (1 : Int32))))))
def xt_X9_standingWith (x1 : Int32) (hM : Mem) : Option (Int32) := (xt_X9_standingWith_l4 x1 hM (fun (v2_1 : Int32) => (some v2_1)) 5000 (0 : Int32) (0 : Int32))
def xt_X9_isException (x1 : Int32) (hM : Mem) : Option (Int32) := (xgd x1 4096 (if ((hM 39) x1.toNatClampNeg) = x1 then (xgd x1 4096 (Option.bind (xt_X9_key x1 hM) (fun (o_1 : Int32) => (xgd o_1 98 (if ((hM 38) x1.toNatClampNeg) = ((hM 42) o_1.toNatClampNeg) then (some (0 : Int32)) else (some (1 : Int32))))))) else (some (0 : Int32))))
def xt_X9_exceptions_l4 (hM : Mem) (k : Int32 → Option (Int32)) : Nat → Int32 → Int32 → Option (Int32)
  | 0, _, _ => none
  | n + 1, v1, v2 => (if (4096 : Int32) ≤ v2 then (k v1) else (Option.bind (xt_X9_isException v2 hM) (fun (o_1 : Int32) => (if o_1 = 0 then (xt_X9_exceptions_l4 hM k n (v1 + (0 : Int32)) (v2 + (1 : Int32))) else (xt_X9_exceptions_l4 hM k n (v1 + (1 : Int32)) (v2 + (1 : Int32)))))))
def xt_X9_exceptions (hM : Mem) : Option (Int32) := (xt_X9_exceptions_l4 hM (fun (v1_2 : Int32) => (some v1_2)) 5000 (0 : Int32) (0 : Int32))
def xt_X9_runs_l10 (x1 : Int32) (hM : Mem) (k : Int32 → Int32 → Option (Int32)) : Nat → Int32 → Int32 → Int32 → Int32 → Option (Int32)
  | 0, _, _, _, _ => none
  | n + 1, v2, v3, v4, v5 => (if (4096 : Int32) ≤ v5 then (k v2 v4) else (xgd v5 4096 (if ((hM 39) v5.toNatClampNeg) = v5 then (Option.bind (xt_X9_isException v5 hM) (fun (o_1 : Int32) => (if o_1 = 0 then (Option.bind (xt_X9_greater v4 (0 : Int32)) (fun (o_2 : Int32) => (xt_X9_runs_l10 x1 hM k n (v2 + (0 : Int32)) (0 : Int32) o_2 (v5 + (1 : Int32))))) else (if (v3 + (1 : Int32)) = (1 : Int32) then (Option.bind (xt_X9_greater v4 (v3 + (1 : Int32))) (fun (o_4 : Int32) => (xt_X9_runs_l10 x1 hM k n (v2 + (1 : Int32)) (v3 + (1 : Int32)) o_4 (v5 + (1 : Int32))))) else (Option.bind (xt_X9_greater v4 (v3 + (1 : Int32))) (fun (o_3 : Int32) => (xt_X9_runs_l10 x1 hM k n (v2 + (0 : Int32)) (v3 + (1 : Int32)) o_3 (v5 + (1 : Int32))))))))) else (xt_X9_runs_l10 x1 hM k n v2 v3 v4 (v5 + (1 : Int32))))))
def xt_X9_runs (x1 : Int32) (hM : Mem) : Option (Int32) := (xt_X9_runs_l10 x1 hM (fun (v2_5 : Int32) (v4_6 : Int32) => (if x1 = 0 then (some v2_5) else (some v4_6))) 5000 (0 : Int32) (0 : Int32) (0 : Int32) (0 : Int32))
def xt_X9_blocks_l15 (x1 : Int32) (x2 : Int32) (hM : Mem) (k : Int32 → Option (Int32)) : Nat → Int32 → Int32 → Option (Int32)
  | 0, _, _ => none
  | n + 1, v3, v4 => (if (64 : Int32) ≤ v4 then (k v3) else (Option.bind (xt_X9_isException (((64 : Int32) * x2) + v4) hM) (fun (o_1 : Int32) => (xt_X9_blocks_l15 x1 x2 hM k n (v3 ||| o_1) (v4 + (1 : Int32))))))
def xt_X9_blocks_l4 (hM : Mem) (k : Int32 → Option (Int32)) : Nat → Int32 → Int32 → Option (Int32)
  | 0, _, _ => none
  | n + 1, v1, v2 => (if (64 : Int32) ≤ v2 then (k v1) else (xt_X9_blocks_l15 v1 v2 hM (fun (v3_2 : Int32) => (if v3_2 = 0 then (xt_X9_blocks_l4 hM k n (v1 + (0 : Int32)) (v2 + (1 : Int32))) else (xt_X9_blocks_l4 hM k n (v1 + (1 : Int32)) (v2 + (1 : Int32))))) 5000 (0 : Int32) (0 : Int32)))
def xt_X9_blocks (hM : Mem) : Option (Int32) := (xt_X9_blocks_l4 hM (fun (v1_3 : Int32) => (some v1_3)) 5000 (0 : Int32) (0 : Int32))
def xt_X9_keys_l4 (hM : Mem) (k : Int32 → Option (Int32)) : Nat → Int32 → Int32 → Option (Int32)
  | 0, _, _ => none
  | n + 1, v1, v2 => (if (98 : Int32) ≤ v2 then (k v1) else (xgd v2 98 (if ((hM 42) v2.toNatClampNeg) = (-1 : Int32) then (xt_X9_keys_l4 hM k n (v1 + (0 : Int32)) (v2 + (1 : Int32))) else (xt_X9_keys_l4 hM k n (v1 + (1 : Int32)) (v2 + (1 : Int32))))))
def xt_X9_keys (hM : Mem) : Option (Int32) := (xt_X9_keys_l4 hM (fun (v1_1 : Int32) => (some v1_1)) 5000 (0 : Int32) (0 : Int32))
def xt_X9_all (x1 : Int32) (hM : Mem) : Option (Int32 × Mem) := (Option.bind (xt_X9_in x1 (0 : Int32) (10 : Int32)) (fun (o_1 : Int32) => (if o_1 = 0 then (some ((-2 : Int32), hM)) else (Option.bind (xt_X9_work hM) (fun (o_2 : Mem) => (if (x1).toInt < 0 ∨ 9 < (x1).toInt then (Option.bind (xt_X9_keys (mgs hM [31, 42] o_2)) (fun (o_3 : Int32) => (some (o_3, (mgs hM [31, 38, 39, 40, 41, 42, 43, 44] o_2))))) else (if x1 = (0 : Int32) then (if x1 = (1 : Int32) then (Option.bind (xt_X9_positions (1 : Int32) (mgs hM [31, 39] o_2)) (fun (o_5 : Int32) => (some (o_5, (mgs hM [31, 38, 39, 40, 41, 42, 43, 44] o_2))))) else (Option.bind (xt_X9_positions (0 : Int32) (mgs hM [31, 39] o_2)) (fun (o_4 : Int32) => (some (o_4, (mgs hM [31, 38, 39, 40, 41, 42, 43, 44] o_2)))))) else (if x1 = (1 : Int32) then (if x1 = (1 : Int32) then (Option.bind (xt_X9_positions (1 : Int32) (mgs hM [31, 39] o_2)) (fun (o_7 : Int32) => (some (o_7, (mgs hM [31, 38, 39, 40, 41, 42, 43, 44] o_2))))) else (Option.bind (xt_X9_positions (0 : Int32) (mgs hM [31, 39] o_2)) (fun (o_6 : Int32) => (some (o_6, (mgs hM [31, 38, 39, 40, 41, 42, 43, 44] o_2)))))) else (if x1 = (2 : Int32) then (some (((o_2 31) 12), (mgs hM [31, 38, 39, 40, 41, 42, 43, 44] o_2))) else (if x1 = (3 : Int32) then (Option.bind (xt_X9_greatest (mgs hM [31, 38] o_2)) (fun (o_8 : Int32) => (some (o_8, (mgs hM [31, 38, 39, 40, 41, 42, 43, 44] o_2))))) else (if x1 = (4 : Int32) then (Option.bind (xt_X9_greatest (mgs hM [31, 38] o_2)) (fun (o_9 : Int32) => (Option.bind (xt_X9_lowestWith o_9 (mgs hM [31, 38] o_2)) (fun (o_10 : Int32) => (some (o_10, (mgs hM [31, 38, 39, 40, 41, 42, 43, 44] o_2))))))) else (if x1 = (5 : Int32) then (Option.bind (xt_X9_standingWith (-6 : Int32) (mgs hM [31, 38, 39] o_2)) (fun (o_11 : Int32) => (some (o_11, (mgs hM [31, 38, 39, 40, 41, 42, 43, 44] o_2))))) else (if x1 = (6 : Int32) then (Option.bind (xt_X9_exceptions (mgs hM [31, 38, 39, 42] o_2)) (fun (o_12 : Int32) => (some (o_12, (mgs hM [31, 38, 39, 40, 41, 42, 43, 44] o_2))))) else (if x1 = (7 : Int32) then (Option.bind (xt_X9_runs (0 : Int32) (mgs hM [31, 38, 39, 42] o_2)) (fun (o_13 : Int32) => (some (o_13, (mgs hM [31, 38, 39, 40, 41, 42, 43, 44] o_2))))) else (if x1 = (8 : Int32) then (Option.bind (xt_X9_blocks (mgs hM [31, 38, 39, 42] o_2)) (fun (o_14 : Int32) => (some (o_14, (mgs hM [31, 38, 39, 40, 41, 42, 43, 44] o_2))))) else (if x1 = (9 : Int32) then (Option.bind (xt_X9_runs (1 : Int32) (mgs hM [31, 38, 39, 42] o_2)) (fun (o_15 : Int32) => (some (o_15, (mgs hM [31, 38, 39, 40, 41, 42, 43, 44] o_2))))) else none))))))))))))))))
def xt_X8_withDistance (x1 : Int32) (hM : Mem) : Option (Int32 × Mem) := (if x1 = (-6 : Int32) then (Option.bind (xt_X7_prepare (hM 21) hM) (fun (o_1 : Mem) => (Option.bind (xt_X7_countWith x1 (mgs hM [15, 18] o_1)) (fun (o_2 : Int32) => (some (o_2, (mgs hM [9, 10, 11, 12, 13, 14, 15, 16, 17, 18, 19] o_1))))))) else (if x1 < 0 then (some ((-2 : Int32), hM)) else (if x1 ≤ (200 : Int32) then (Option.bind (xt_X7_prepare (hM 21) hM) (fun (o_3 : Mem) => (Option.bind (xt_X7_countWith x1 (mgs hM [15, 18] o_3)) (fun (o_4 : Int32) => (some (o_4, (mgs hM [9, 10, 11, 12, 13, 14, 15, 16, 17, 18, 19] o_3))))))) else (some ((-2 : Int32), hM)))))
def xt_X9_withDistance (x1 : Int32) (hM : Mem) : Option (Int32 × Mem) := (if x1 = (-6 : Int32) then (Option.bind (xt_X9_work hM) (fun (o_1 : Mem) => (Option.bind (xt_X9_standingWith x1 (mgs hM [31, 38, 39] o_1)) (fun (o_2 : Int32) => (some (o_2, (mgs hM [31, 38, 39, 40, 41, 42, 43, 44] o_1))))))) else (Option.bind (xt_X9_in x1 (0 : Int32) (200 : Int32)) (fun (o_3 : Int32) => (if o_3 = 0 then (some ((-2 : Int32), hM)) else (Option.bind (xt_X9_work hM) (fun (o_4 : Mem) => (Option.bind (xt_X9_standingWith x1 (mgs hM [31, 38, 39] o_4)) (fun (o_5 : Int32) => (some (o_5, (mgs hM [31, 38, 39, 40, 41, 42, 43, 44] o_4)))))))))))
def xt_X8_rule (x1 : Int32) (hM : Mem) : Option (Int32 × Mem) := (if x1 < 0 then (some ((-2 : Int32), hM)) else (if x1 < (98 : Int32) then (Option.bind (xt_X7_prepare (hM 21) hM) (fun (o_1 : Mem) => (Option.bind (xt_X7_told x1 (mgs hM [15, 19] o_1)) (fun (o_2 : Int32) => (some (o_2, (mgs hM [9, 10, 11, 12, 13, 14, 15, 16, 17, 18, 19] o_1))))))) else (some ((-2 : Int32), hM))))
def xt_X9_rule (x1 : Int32) (hM : Mem) : Option (Int32 × Mem) := (Option.bind (xt_X9_in x1 (0 : Int32) (97 : Int32)) (fun (o_1 : Int32) => (if o_1 = 0 then (some ((-2 : Int32), hM)) else (Option.bind (xt_X9_work hM) (fun (o_2 : Mem) => (xgd x1 98 (some (((o_2 42) x1.toNatClampNeg), (mgs hM [31, 38, 39, 40, 41, 42, 43, 44] o_2)))))))))
def xt_X5_countIn_l8 (k : Int32 → Option (Int32)) : Nat → Int64 → Int32 → Int32 → Option (Int32)
  | 0, _, _, _ => none
  | n + 1, v2, v4, v5 => (if (8 : Int32) ≤ v5 then (k v4) else (if (lg_cmp v2 (0 : Int64)) = 0 then (k v4) else (if (v2 &&& (255 : Int64)).toInt32 < (33 : Int32) then (some (-2 : Int32)) else (if (v2 &&& (255 : Int64)).toInt32 ≤ (126 : Int32) then (xt_X5_countIn_l8 k n ((v2.toUInt64 >>> ((8 : Int32).toInt64.toUInt64 &&& Int64.toUInt64 63)).toInt64) (v4 + (1 : Int32)) (v5 + (1 : Int32))) else (some (-2 : Int32))))))
def xt_X5_countIn (x0 : Int64) : Option (Int32) := (xt_X5_countIn_l8  (fun (v4_1 : Int32) => (some v4_1)) 5000 x0 (0 : Int32) (0 : Int32))
def xt_X5_append_l5 (x1 : Int64) (hM : Mem) (k : Mem → Option (Mem)) : Nat → Int32 → Mem → Option (Mem)
  | 0, _, _ => none
  | n + 1, v4, mM => (if v4 < 0 then (k (mgs hM [25, 26] mM)) else (if (24 : Int32) ≤ ((mM 25) 1) then (k (mgs hM [25, 26] mM)) else (xgd ((mM 25) 1) 24 (xt_X5_append_l5 x1 hM k n (v4 + (-1 : Int32)) (mset (mset hM 25 (upd (mM 25) 1 (((mM 25) 1) + (1 : Int32)))) 26 (upd (mM 26) ((mM 25) 1).toNatClampNeg (vp_nar .char ((((x1.toUInt64 >>> (((8 : Int32) * v4).toInt64.toUInt64 &&& Int64.toUInt64 63)).toInt64) &&& (255 : Int64)).toInt32.toUInt32 % 65536).toInt32)))))))
def xt_X5_append (x1 : Int64) (x3 : Int32) (hM : Mem) : Option (Mem) := (xt_X5_append_l5 x1 hM (fun (m_1 : Mem) => (some (mgs hM [25, 26] m_1))) 5000 (x3 - (1 : Int32)) hM)
def xt_X8_put (x1 : Int64) (hM : Mem) : Option (Int32 × Mem) := (Option.bind (xt_X5_countIn x1) (fun (o_1 : Int32) => (if (1 : Int32) ≤ o_1 then (Option.bind (xt_X5_length hM) (fun (o_2 : Int32) => (if (o_2 + o_1) ≤ (24 : Int32) then (Option.bind (xt_X5_append x1 o_1 hM) (fun (o_3 : Mem) => (Option.bind (xt_X5_length (mgs hM [25] o_3)) (fun (o_4 : Int32) => (some (o_4, (mgs hM [25, 26] o_3))))))) else (some ((-4 : Int32), hM))))) else (some ((-2 : Int32), hM)))))
def xt_X9_put_l5 (x1 : Int64) (hM : Mem) (k : Int32 → Int64 → Option (Int32 × Mem)) : Nat → Int32 → Int64 → Option (Int32 × Mem)
  | 0, _, _ => none
  | n + 1, v3, v4 => (if (8 : Int32) ≤ v3 then (k v3 v4) else (if (lg_cmp (v4 &&& (255 : Int64)) (0 : Int64)) = 0 then (k v3 v4) else (Option.bind (xt_X9_in (v4 &&& (255 : Int64)).toInt32 (33 : Int32) (126 : Int32)) (fun (o_1 : Int32) => (if o_1 = 0 then (some ((-2 : Int32), hM)) else (xt_X9_put_l5 x1 hM k n (v3 + (1 : Int32)) ((v4.toUInt64 >>> ((8 : Int32).toInt64.toUInt64 &&& Int64.toUInt64 63)).toInt64)))))))
def xt_X9_put_l86 (x1 : Int64) (x3 : Int32) (hM : Mem) (k : Mem → Option (Int32 × Mem)) : Nat → Int32 → Mem → Option (Int32 × Mem)
  | 0, _, _ => none
  | n + 1, v6, mM => (if x3 ≤ v6 then (k (mgs hM [45] mM)) else (xgd (((hM 31) 20) + v6) 24 (xt_X9_put_l86 x1 x3 hM k n (v6 + (1 : Int32)) (mset hM 45 (upd (mM 45) (((hM 31) 20) + v6).toNatClampNeg ((x1 >>> (((8 : Int32) * ((x3 - (1 : Int32)) - v6)).toInt64 &&& 63)) &&& (255 : Int64)).toInt32)))))
def xt_X9_put (x1 : Int64) (hM : Mem) : Option (Int32 × Mem) := (xt_X9_put_l5 x1 hM (fun (v3_2 : Int32) (v4_3 : Int64) => (if v3_2 = 0 then (some ((-2 : Int32), hM)) else (if (lg_cmp v4_3 (0 : Int64)) = 0 then (if (((hM 31) 20) + v3_2) ≤ (24 : Int32) then (xt_X9_put_l86 x1 v3_2 hM (fun (m_4 : Mem) => (some ((((hM 31) 20) + v3_2), (mgs (mset hM 31 (upd (hM 31) 20 (((hM 31) 20) + v3_2))) [45] m_4)))) 5000 (0 : Int32) hM) else (some ((-4 : Int32), hM))) else (some ((-2 : Int32), hM))))) 5000 (0 : Int32) x1)
def xt_X8_wipe (hM : Mem) : Option (Int32 × Mem) := (Option.bind (xt_X5_length hM) (fun (o_1 : Int32) => (Option.bind (xt_X5_empty hM) (fun (o_2 : Mem) => (some (o_1, (mgs hM [25] o_2)))))))
def xt_X9_wipe (hM : Mem) : Option (Int32 × Mem) := (some (((hM 31) 20), (mset hM 31 (upd (hM 31) 20 (0 : Int32)))))
def xt_X8_fault (hM : Mem) : Option (Int32) := (Option.bind (xt_X5_firstFault hM) (fun (o_1 : Int32) => (some o_1)))
def xt_X8_undo (hM : Mem) : Option (Int32 × Mem) := (Option.bind (xt_X4_length hM) (fun (o_1 : Int32) => (if o_1 = 0 then (some ((-5 : Int32), hM)) else (Option.bind (xt_X4_takeBack (hM 21) hM) (fun (o_2 : (Nat → Int32) × Mem) => (Option.bind (xt_X4_length (mgs hM [23] o_2.2)) (fun (o_3 : Int32) => (some (o_3, (mgs (mset hM 21 o_2.1) [23] o_2.2))))))))))
def xt_X9_undo_l35 (x1 : Int32) (hM : Mem) (k : Mem → Option (Int32 × Mem)) : Nat → Int32 → Mem → Option (Int32 × Mem)
  | 0, _, _ => none
  | n + 1, v2, mM => (if (8 : Int32) ≤ v2 then (k (mgs hM [32] mM)) else (xgd (((8 : Int32) * x1) + v2) 48 (xgd v2 8 (xt_X9_undo_l35 x1 hM k n (v2 + (1 : Int32)) (mset hM 32 (upd (mM 32) v2.toNatClampNeg ((hM 33) (((8 : Int32) * x1) + v2).toNatClampNeg)))))))
def xt_X9_undo (hM : Mem) : Option (Int32 × Mem) := (if ((hM 31) 3) = 0 then (some ((-5 : Int32), hM)) else (xt_X9_undo_l35 ((((hM 31) 2) + (((hM 31) 3) - (1 : Int32))) - (((hM 31) 2) + (((hM 31) 3) - (1 : Int32))) / (6 : Int32) * (6 : Int32)) (mset hM 31 (upd (hM 31) 3 (((hM 31) 3) - (1 : Int32)))) (fun (m_1 : Mem) => (some ((((hM 31) 3) - (1 : Int32)), (mgs (mset hM 31 (upd (hM 31) 3 (((hM 31) 3) - (1 : Int32)))) [32] m_1)))) 5000 (0 : Int32) hM))
def xt_X8_save (x1 : Int32) (hM : Mem) : Option (Int32 × Mem) := (if x1 < 0 then (some ((-2 : Int32), hM)) else (if x1 < (2 : Int32) then (if x1 = (0 : Int32) then (Option.bind (xt_X6_take (hM 28) (hM 21)) (fun (o_1 : (Nat → Int32)) => (xgd x1 2 (Option.bind (xt_J6_bitCount_0f7a4 ((hM 21) 1)) (fun (o_2 : Int32) => (some (o_2, (mset (mset hM 28 o_1) 30 (upd (hM 30) x1.toNatClampNeg (vp_nar .boolean (1 : Int32))))))))))) else (if x1 = (1 : Int32) then (Option.bind (xt_X6_take (hM 29) (hM 21)) (fun (o_3 : (Nat → Int32)) => (xgd x1 2 (Option.bind (xt_J6_bitCount_0f7a4 ((hM 21) 1)) (fun (o_4 : Int32) => (some (o_4, (mset (mset hM 29 o_3) 30 (upd (hM 30) x1.toNatClampNeg (vp_nar .boolean (1 : Int32))))))))))) else none)) else (some ((-2 : Int32), hM))))
def xt_X9_save_l14 (x1 : Int32) (hM : Mem) (k : Mem → Option (Int32 × Mem)) : Nat → Int32 → Mem → Option (Int32 × Mem)
  | 0, _, _ => none
  | n + 1, v2, mM => (if (8 : Int32) ≤ v2 then (k (mgs hM [34] mM)) else (xgd v2 8 (xgd (((8 : Int32) * x1) + v2) 16 (xt_X9_save_l14 x1 hM k n (v2 + (1 : Int32)) (mset hM 34 (upd (mM 34) (((8 : Int32) * x1) + v2).toNatClampNeg ((hM 32) v2.toNatClampNeg)))))))
def xt_X9_save (x1 : Int32) (hM : Mem) : Option (Int32 × Mem) := (Option.bind (xt_X9_in x1 (0 : Int32) (1 : Int32)) (fun (o_1 : Int32) => (if o_1 = 0 then (some ((-2 : Int32), hM)) else (xt_X9_save_l14 x1 hM (fun (m_2 : Mem) => (xgd x1 2 (xgd (3 : Int32) 8 (Option.bind (xt_X9_many ((hM 32) (3 : Int32).toNatClampNeg)) (fun (o_3 : Int32) => (some (o_3, (mgs (mset hM 35 (upd (hM 35) x1.toNatClampNeg (vp_nar .boolean (1 : Int32)))) [34] m_2)))))))) 5000 (0 : Int32) hM))))
def xt_X8_restore (x1 : Int32) (hM : Mem) : Option (Int32 × Mem) := (if x1 < 0 then (some ((-2 : Int32), hM)) else (if x1 < (2 : Int32) then (xgd x1 2 (if ((hM 30) x1.toNatClampNeg) = 0 then (some ((-5 : Int32), hM)) else (Option.bind (xt_X4_record (hM 21) hM) (fun (o_1 : Mem) => (if x1 = (0 : Int32) then (Option.bind (xt_X6_take (hM 21) (hM 28)) (fun (o_3 : (Nat → Int32)) => (Option.bind (xt_J6_bitCount_0f7a4 (o_3 1)) (fun (o_4 : Int32) => (some (o_4, (mgs (mset hM 21 o_3) [23, 60, 61, 62, 63, 64, 65] o_1))))))) else (if x1 = (1 : Int32) then (Option.bind (xt_X6_take (hM 21) (hM 29)) (fun (o_5 : (Nat → Int32)) => (Option.bind (xt_J6_bitCount_0f7a4 (o_5 1)) (fun (o_6 : Int32) => (some (o_6, (mgs (mset hM 21 o_5) [23, 60, 61, 62, 63, 64, 65] o_1))))))) else none)))))) else (some ((-2 : Int32), hM))))
def xt_X9_restore_l30 (x1 : Int32) (hM : Mem) (k : Mem → Option (Int32 × Mem)) : Nat → Int32 → Mem → Option (Int32 × Mem)
  | 0, _, _ => none
  | n + 1, v2, mM => (if (8 : Int32) ≤ v2 then (k (mgs hM [32] mM)) else (xgd (((8 : Int32) * x1) + v2) 16 (xgd v2 8 (xt_X9_restore_l30 x1 hM k n (v2 + (1 : Int32)) (mset hM 32 (upd (mM 32) v2.toNatClampNeg ((hM 34) (((8 : Int32) * x1) + v2).toNatClampNeg)))))))
def xt_X9_restore (x1 : Int32) (hM : Mem) : Option (Int32 × Mem) := (Option.bind (xt_X9_in x1 (0 : Int32) (1 : Int32)) (fun (o_1 : Int32) => (if o_1 = 0 then (some ((-2 : Int32), hM)) else (xgd x1 2 (if ((hM 35) x1.toNatClampNeg) = 0 then (some ((-5 : Int32), hM)) else (Option.bind (xt_X9_keep hM) (fun (o_2 : Mem) => (xt_X9_restore_l30 x1 (mgs hM [31, 33] o_2) (fun (m_3 : Mem) => (xgd (3 : Int32) 8 (Option.bind (xt_X9_many ((m_3 32) (3 : Int32).toNatClampNeg)) (fun (o_4 : Int32) => (some (o_4, (mgs (mgs hM [31, 33] o_2) [32] m_3))))))) 5000 (0 : Int32) hM))))))))
def xt_X3_init : Option Mem := (Option.bind (xt_X3_fillSteps xz0) (fun (o_1 : Mem) => (Option.bind (xt_X3_fillPairs xz0) (fun (o_2 : Mem) => (Option.bind (xt_X3_fillImages xz0) (fun (o_3 : Mem) => (some (mgs (mgs (mgs xz0 [2, 3] o_1) [4, 5, 6, 7] o_2) [8] o_3))))))))
def xt_X9_init_l157 (x2 : Int32) (hM : Mem) (k : Int32 → Mem → Option (Mem)) : Nat → Int32 → Int32 → Mem → Option (Mem)
  | 0, _, _, _ => none
  | n + 1, v1, v3, mM => (if (16 : Int32) ≤ v3 then (k v1 (mgs hM [36, 37] mM)) else (xgd v1 120 (xgd v1 120 (xt_X9_init_l157 x2 hM k n (v1 + (1 : Int32)) (v3 + (1 : Int32)) (mset (mset hM 36 (upd (mM 36) v1.toNatClampNeg x2)) 37 (upd (mM 37) v1.toNatClampNeg v3))))))
def xt_X9_init_l147 (hM : Mem) (k : Mem → Option (Mem)) : Nat → Int32 → Int32 → Mem → Option (Mem)
  | 0, _, _, _ => none
  | n + 1, v1, v2, mM => (if (16 : Int32) ≤ v2 then (k (mgs hM [36, 37] mM)) else (xt_X9_init_l157 v2 (mgs hM [36, 37] mM) (fun (v1_1 : Int32) (m_2 : Mem) => (xt_X9_init_l147 hM k n v1_1 (v2 + (1 : Int32)) (mgs hM [36, 37] m_2))) 5000 v1 (v2 + (1 : Int32)) (mgs hM [36, 37] mM)))
def xt_X9_init : Option Mem := (xgd (5 : Int32) 8 (xgd (6 : Int32) 8 (xgd (7 : Int32) 8 (xt_X9_init_l147 (mset xz0 32 (upd (upd (upd (xz0 32) (5 : Int32).toNatClampNeg (5 : Int32)) (6 : Int32).toNatClampNeg (0 : Int32)) (7 : Int32).toNatClampNeg (15 : Int32))) (fun (m_3 : Mem) => (some (mgs (mset xz0 32 (upd (upd (upd (xz0 32) (5 : Int32).toNatClampNeg (5 : Int32)) (6 : Int32).toNatClampNeg (0 : Int32)) (7 : Int32).toNatClampNeg (15 : Int32))) [36, 37] m_3))) 5000 (0 : Int32) (0 : Int32) xz0))))
end
section
set_option maxRecDepth 100000 in
set_option maxHeartbeats 4000000 in
theorem t_J9_abs_0f7a4 (E : xE) (x0 : Int32) {o : Int32} (hxt : xt_J9_abs_0f7a4 x0 = some o) : xMI (S := Unit) E yJ9_abs_0f7a4 cJ9_abs_0f7a4 1 .int 0 0 0 [.int x0] [] (fun _ => o) (fun _ => []) := by
  refine xMI.of (own := RJ9) (lo0 := [(0, .int x0)]) (by decide +kernel) rfl rfl (Nat.le_of_ble_eq_true rfl) (fun V r hret => ?_)
  unfold xt_J9_abs_0f7a4 at hxt
  refine r.iload_n 0 (DJ9_abs_0f7a4 0 rfl) rfl ?_
  refine r.if_ge 9 (DJ9_abs_0f7a4 1 rfl) rfl hxt (fun _ hxt => ?_) (fun _ hxt => ?_)
  · refine r.iload_n 0 (DJ9_abs_0f7a4 5 rfl) rfl ?_
    cases hxt
    exact hret _ _ _ _ (DJ9_abs_0f7a4 6 rfl) rfl ⟨(), rfl, rfl⟩
  refine r.iload_n 0 (DJ9_abs_0f7a4 2 rfl) rfl ?_
  refine r.ineg (DJ9_abs_0f7a4 3 rfl) ?_
  refine r.goto 10 (DJ9_abs_0f7a4 4 rfl) rfl ?_
  cases hxt
  exact hret _ _ _ _ (DJ9_abs_0f7a4 6 rfl) rfl ⟨(), rfl, rfl⟩
set_option maxRecDepth 100000 in
set_option maxHeartbeats 4000000 in
theorem t_X3_far (E : xE) (x0 : Int32) (x1 : Int32) {o : Int32} (hxt : xt_X3_far x0 x1 = some o) : xMI (S := Unit) E yX3_far cX3_far 2 .int 1 0 0 [.int x0, .int x1] [] (fun _ => o) (fun _ => []) := by
  refine xMI.of (own := RX3) (lo0 := [(0, .int x0), (1, .int x1)]) (by decide +kernel) rfl rfl (Nat.le_of_ble_eq_true rfl) (fun V r hret => ?_)
  unfold xt_X3_far at hxt
  refine r.iload_n 0 (DX3_far 0 rfl) rfl ?_
  refine r.iconst (v := (4 : Int32)) (DX3_far 1 rfl) rfl ?_
  refine r.idiv (DX3_far 2 rfl) (by decide) ?_
  refine r.iload_n 1 (DX3_far 3 rfl) rfl ?_
  refine r.iconst (v := (4 : Int32)) (DX3_far 4 rfl) rfl ?_
  refine r.idiv (DX3_far 5 rfl) (by decide) ?_
  refine r.isub (DX3_far 6 rfl) ?_
  obtain ⟨o_1, ho_1, hxt⟩ := xbd hxt
  refine r.callSI0 (t_J9_abs_0f7a4 E ((x0 / (4 : Int32)) - (x1 / (4 : Int32))) ho_1) g_X3_44 rfl (DX3_far 7 rfl) rfl ⟨(Nat.le_of_ble_eq_true rfl), (Nat.le_of_ble_eq_true rfl)⟩ (Nat.le_of_ble_eq_true rfl) ?_
  refine r.iload_n 0 (DX3_far 8 rfl) rfl ?_
  refine r.iconst (v := (4 : Int32)) (DX3_far 9 rfl) rfl ?_
  refine r.irem (DX3_far 10 rfl) (by decide) ?_
  refine r.iload_n 1 (DX3_far 11 rfl) rfl ?_
  refine r.iconst (v := (4 : Int32)) (DX3_far 12 rfl) rfl ?_
  refine r.irem (DX3_far 13 rfl) (by decide) ?_
  refine r.isub (DX3_far 14 rfl) ?_
  obtain ⟨o_2, ho_2, hxt⟩ := xbd hxt
  refine r.callSI0 (t_J9_abs_0f7a4 E ((x0 - x0 / (4 : Int32) * (4 : Int32)) - (x1 - x1 / (4 : Int32) * (4 : Int32))) ho_2) g_X3_44 rfl (DX3_far 15 rfl) rfl ⟨(Nat.le_of_ble_eq_true rfl), (Nat.le_of_ble_eq_true rfl)⟩ (Nat.le_of_ble_eq_true rfl) ?_
  refine r.iadd (DX3_far 16 rfl) ?_
  cases hxt
  exact hret _ _ _ _ (DX3_far 17 rfl) rfl ⟨(), rfl, rfl⟩
set_option maxRecDepth 100000 in
set_option maxHeartbeats 4000000 in
theorem l_X3_fillSteps_10 (E : xE) (a : Nat → Nat) (x1 : Int32) (hM : Mem) {V : xVT} (r : Rl E RX3 cX3_fillSteps (xR 2 0 0) 4 false V) {o : Mem} {k : Mem → Option (Mem)} (hk : ∀ (mM : Mem), k mM = some o → V 0 0 83 [(0, .ref (a 1)), (1, .int x1)] [] [(a 1, oX3 a), (a 2, aI E 16 (mM 2)), (a 3, aI E 16 (mM 3))]) : ∀ (n : Nat) (v2 : Int32) (mM : Mem), xt_X3_fillSteps_l10 x1 hM k n v2 mM = some o → V 0 0 10 [(0, .ref (a 1)), (1, .int x1), (2, .int v2)] [] [(a 1, oX3 a), (a 2, aI E 16 (mM 2)), (a 3, aI E 16 (mM 3))] := by
  intro n
  induction n with
  | zero => intro v2 mM hxt; exact xno hxt
  | succ n ih =>
    intro v2 mM hxt
    rw [xt_X3_fillSteps_l10] at hxt
    refine r.iload_n 2 (DX3_fillSteps 7 rfl) rfl ?_
    refine r.bipush (v := (16 : Int32)) (DX3_fillSteps 8 rfl) rfl ?_
    refine r.icmp_ge 83 (DX3_fillSteps 9 rfl) rfl hxt (fun _ hxt => ?_) (fun _ hxt => ?_)
    · refine r.rel (lo' := [(0, .ref (a 1)), (1, .int x1)]) [0, 1] rfl ?_
      exact hk (mgs hM [2, 3] mM) hxt
    refine r.iload_n 1 (DX3_fillSteps 10 rfl) rfl ?_
    refine r.iload_n 2 (DX3_fillSteps 11 rfl) rfl ?_
    obtain ⟨o_1, ho_1, hxt⟩ := xbd hxt
    refine r.callSI0 (t_X3_far E x1 v2 ho_1) g_X3_40 rfl (DX3_fillSteps 12 rfl) rfl ⟨(Nat.le_of_ble_eq_true rfl), (Nat.le_of_ble_eq_true rfl)⟩ (Nat.le_of_ble_eq_true rfl) ?_
    refine r.istore_n (lo' := [(3, .int o_1), (0, .ref (a 1)), (1, .int x1), (2, .int v2)]) (DX3_fillSteps 13 rfl) (Nat.le_of_ble_eq_true rfl) rfl ?_
    refine r.iload_n 0 (DX3_fillSteps 14 rfl) rfl ?_
    refine r.iconst (v := (1 : Int32)) (DX3_fillSteps 15 rfl) rfl ?_
    refine r.icmp_ne 42 (DX3_fillSteps 16 rfl) rfl hxt (fun _ hxt => ?_) (fun _ hxt => ?_)
    · refine r.iload_n 0 (DX3_fillSteps 28 rfl) rfl ?_
      refine r.iconst (v := (2 : Int32)) (DX3_fillSteps 29 rfl) rfl ?_
      refine r.icmp_ne 77 (DX3_fillSteps 30 rfl) rfl hxt (fun _ hxt => ?_) (fun _ hxt => ?_)
      · refine r.iinc (v := (v2 + (1 : Int32))) (lo' := [(2, .int (v2 + (1 : Int32))), (3, .int o_1), (0, .ref (a 1)), (1, .int x1)]) 3 (DX3_fillSteps 55 rfl) rfl rfl (Nat.le_of_ble_eq_true rfl) rfl ?_
        refine r.goto 10 (DX3_fillSteps 56 rfl) rfl ?_
        refine r.rel (lo' := [(0, .ref (a 1)), (1, .int x1), (2, .int (v2 + (1 : Int32)))]) [2, 3, 0] rfl ?_
        exact ih (v2 + (1 : Int32)) (mgs hM [2, 3] mM) hxt
      refine r.iload_n 2 (DX3_fillSteps 31 rfl) rfl ?_
      refine r.iconst (v := (4 : Int32)) (DX3_fillSteps 32 rfl) rfl ?_
      refine r.idiv (DX3_fillSteps 33 rfl) (by decide) ?_
      refine r.iload_n 3 (DX3_fillSteps 34 rfl) rfl ?_
      refine r.iconst (v := (4 : Int32)) (DX3_fillSteps 35 rfl) rfl ?_
      refine r.idiv (DX3_fillSteps 36 rfl) (by decide) ?_
      refine r.icmp_eq 77 (DX3_fillSteps 37 rfl) rfl hxt (fun _ hxt => ?_) (fun _ hxt => ?_)
      · refine r.iinc (v := (v2 + (1 : Int32))) (lo' := [(2, .int (v2 + (1 : Int32))), (3, .int o_1), (0, .ref (a 1)), (1, .int x1)]) 3 (DX3_fillSteps 55 rfl) rfl rfl (Nat.le_of_ble_eq_true rfl) rfl ?_
        refine r.goto 10 (DX3_fillSteps 56 rfl) rfl ?_
        refine r.rel (lo' := [(0, .ref (a 1)), (1, .int x1), (2, .int (v2 + (1 : Int32)))]) [2, 3, 0] rfl ?_
        exact ih (v2 + (1 : Int32)) (mgs hM [2, 3] mM) hxt
      refine r.iload_n 2 (DX3_fillSteps 38 rfl) rfl ?_
      refine r.iconst (v := (4 : Int32)) (DX3_fillSteps 39 rfl) rfl ?_
      refine r.irem (DX3_fillSteps 40 rfl) (by decide) ?_
      refine r.iload_n 3 (DX3_fillSteps 41 rfl) rfl ?_
      refine r.iconst (v := (4 : Int32)) (DX3_fillSteps 42 rfl) rfl ?_
      refine r.irem (DX3_fillSteps 43 rfl) (by decide) ?_
      refine r.icmp_eq 77 (DX3_fillSteps 44 rfl) rfl hxt (fun _ hxt => ?_) (fun _ hxt => ?_)
      · refine r.iinc (v := (v2 + (1 : Int32))) (lo' := [(2, .int (v2 + (1 : Int32))), (3, .int o_1), (0, .ref (a 1)), (1, .int x1)]) 3 (DX3_fillSteps 55 rfl) rfl rfl (Nat.le_of_ble_eq_true rfl) rfl ?_
        refine r.goto 10 (DX3_fillSteps 56 rfl) rfl ?_
        refine r.rel (lo' := [(0, .ref (a 1)), (1, .int x1), (2, .int (v2 + (1 : Int32)))]) [2, 3, 0] rfl ?_
        exact ih (v2 + (1 : Int32)) (mgs hM [2, 3] mM) hxt
      refine r.aload_n 1 (DX3_fillSteps 45 rfl) rfl ?_
      refine r.get (v := .ref (a 3)) kX3 f_X3_13 rfl 0 rfl rfl (DX3_fillSteps 46 rfl) ?_
      refine r.iload_n 2 (DX3_fillSteps 47 rfl) rfl ?_
      refine r.dup2 (DX3_fillSteps 48 rfl) rfl rfl ?_
      obtain ⟨hin, hxt⟩ := xgd_some hxt
      refine r.iald 2 rfl hin (DX3_fillSteps 49 rfl) ?_
      refine r.iconst (v := (1 : Int32)) (DX3_fillSteps 50 rfl) rfl ?_
      refine r.iload_n 3 (DX3_fillSteps 51 rfl) rfl ?_
      refine r.ishl (DX3_fillSteps 52 rfl) ?_
      refine r.ior (DX3_fillSteps 53 rfl) ?_
      obtain ⟨hin, hxt⟩ := xgd_some hxt
      refine r.iast (ws' := [(a 1, oX3 a), (a 2, aI E 16 (mM 2)), (a 3, aI E 16 (upd (mM 3) x1.toNatClampNeg (((mM 3) x1.toNatClampNeg) ||| ((1 : Int32) <<< (v2 &&& 31)))))]) 2 rfl hin rfl (DX3_fillSteps 54 rfl) ?_
      refine r.iinc (v := (v2 + (1 : Int32))) (lo' := [(2, .int (v2 + (1 : Int32))), (3, .int o_1), (0, .ref (a 1)), (1, .int x1)]) 3 (DX3_fillSteps 55 rfl) rfl rfl (Nat.le_of_ble_eq_true rfl) rfl ?_
      refine r.goto 10 (DX3_fillSteps 56 rfl) rfl ?_
      refine r.rel (lo' := [(0, .ref (a 1)), (1, .int x1), (2, .int (v2 + (1 : Int32)))]) [2, 3, 0] rfl ?_
      exact ih (v2 + (1 : Int32)) (mgs (mset hM 3 (upd (mM 3) x1.toNatClampNeg (((mM 3) x1.toNatClampNeg) ||| ((1 : Int32) <<< (v2 &&& 31))))) [2] mM) hxt
    refine r.aload_n 1 (DX3_fillSteps 17 rfl) rfl ?_
    refine r.get (v := .ref (a 2)) kX3 f_X3_9 rfl 0 rfl rfl (DX3_fillSteps 18 rfl) ?_
    refine r.iload_n 2 (DX3_fillSteps 19 rfl) rfl ?_
    refine r.dup2 (DX3_fillSteps 20 rfl) rfl rfl ?_
    obtain ⟨hin, hxt⟩ := xgd_some hxt
    refine r.iald 1 rfl hin (DX3_fillSteps 21 rfl) ?_
    refine r.iconst (v := (1 : Int32)) (DX3_fillSteps 22 rfl) rfl ?_
    refine r.iload_n 3 (DX3_fillSteps 23 rfl) rfl ?_
    refine r.ishl (DX3_fillSteps 24 rfl) ?_
    refine r.ior (DX3_fillSteps 25 rfl) ?_
    obtain ⟨hin, hxt⟩ := xgd_some hxt
    refine r.iast (ws' := [(a 1, oX3 a), (a 2, aI E 16 (upd (mM 2) x1.toNatClampNeg (((mM 2) x1.toNatClampNeg) ||| ((1 : Int32) <<< (v2 &&& 31))))), (a 3, aI E 16 (mM 3))]) 1 rfl hin rfl (DX3_fillSteps 26 rfl) ?_
    refine r.goto 77 (DX3_fillSteps 27 rfl) rfl ?_
    refine r.iinc (v := (v2 + (1 : Int32))) (lo' := [(2, .int (v2 + (1 : Int32))), (3, .int o_1), (0, .ref (a 1)), (1, .int x1)]) 3 (DX3_fillSteps 55 rfl) rfl rfl (Nat.le_of_ble_eq_true rfl) rfl ?_
    refine r.goto 10 (DX3_fillSteps 56 rfl) rfl ?_
    refine r.rel (lo' := [(0, .ref (a 1)), (1, .int x1), (2, .int (v2 + (1 : Int32)))]) [2, 3, 0] rfl ?_
    exact ih (v2 + (1 : Int32)) (mgs (mset hM 2 (upd (mM 2) x1.toNatClampNeg (((mM 2) x1.toNatClampNeg) ||| ((1 : Int32) <<< (v2 &&& 31))))) [3] mM) hxt
set_option maxRecDepth 100000 in
set_option maxHeartbeats 4000000 in
theorem l_X3_fillSteps_2 (E : xE) (a : Nat → Nat) (hM : Mem) {V : xVT} (r : Rl E RX3 cX3_fillSteps (xR 2 0 0) 4 false V) {o : Mem} {k : Mem → Option (Mem)} (hk : ∀ (mM : Mem), k mM = some o → V 0 0 89 [] [] [(a 1, oX3 a), (a 2, aI E 16 (mM 2)), (a 3, aI E 16 (mM 3))]) : ∀ (n : Nat) (v1 : Int32) (mM : Mem), xt_X3_fillSteps_l2 hM k n v1 mM = some o → V 0 0 2 [(0, .ref (a 1)), (1, .int v1)] [] [(a 1, oX3 a), (a 2, aI E 16 (mM 2)), (a 3, aI E 16 (mM 3))] := by
  intro n
  induction n with
  | zero => intro v1 mM hxt; exact xno hxt
  | succ n ih =>
    intro v1 mM hxt
    rw [xt_X3_fillSteps_l2] at hxt
    refine r.iload_n 1 (DX3_fillSteps 2 rfl) rfl ?_
    refine r.bipush (v := (16 : Int32)) (DX3_fillSteps 3 rfl) rfl ?_
    refine r.icmp_ge 89 (DX3_fillSteps 4 rfl) rfl hxt (fun _ hxt => ?_) (fun _ hxt => ?_)
    · refine r.rel (lo' := []) [] rfl ?_
      exact hk (mgs hM [2, 3] mM) hxt
    refine r.iconst (v := (0 : Int32)) (DX3_fillSteps 5 rfl) rfl ?_
    refine r.istore_n (lo' := [(2, .int (0 : Int32)), (0, .ref (a 1)), (1, .int v1)]) (DX3_fillSteps 6 rfl) (Nat.le_of_ble_eq_true rfl) rfl ?_
    refine r.rel (lo' := [(0, .ref (a 1)), (1, .int v1), (2, .int (0 : Int32))]) [1, 2, 0] rfl ?_
    refine l_X3_fillSteps_10 E a v1 (mgs hM [2, 3] mM) r (fun m_2 hxt => ?_) 5000 (0 : Int32) (mgs hM [2, 3] mM) hxt
    refine r.iinc (v := (v1 + (1 : Int32))) (lo' := [(1, .int (v1 + (1 : Int32))), (0, .ref (a 1))]) 1 (DX3_fillSteps 57 rfl) rfl rfl (Nat.le_of_ble_eq_true rfl) rfl ?_
    refine r.goto 2 (DX3_fillSteps 58 rfl) rfl ?_
    refine r.rel (lo' := [(0, .ref (a 1)), (1, .int (v1 + (1 : Int32)))]) [1, 0] rfl ?_
    exact ih (v1 + (1 : Int32)) (mgs hM [2, 3] m_2) hxt
set_option maxRecDepth 100000 in
set_option maxHeartbeats 4000000 in
theorem t_X3_fillSteps (E : xE) (a : Nat → Nat) (hM : Mem) {o : Mem} (hxt : xt_X3_fillSteps hM = some o) : xMV (S := Unit) E yX3_fillSteps cX3_fillSteps 4 2 0 0 [.ref (a 1)] [(a 1, oX3 a), (a 2, aI E 16 (hM 2)), (a 3, aI E 16 (hM 3))] (fun _ => [(a 1, oX3 a), (a 2, aI E 16 (o 2)), (a 3, aI E 16 (o 3))]) := by
  refine xMV.of (own := RX3) (lo0 := [(0, .ref (a 1))]) (ini := false) (fun h => nomatch h) (by decide +kernel) rfl rfl (Nat.le_of_ble_eq_true rfl) (fun V r hret => ?_)
  unfold xt_X3_fillSteps at hxt
  refine r.iconst (v := (0 : Int32)) (DX3_fillSteps 0 rfl) rfl ?_
  refine r.istore_n (lo' := [(1, .int (0 : Int32)), (0, .ref (a 1))]) (DX3_fillSteps 1 rfl) (Nat.le_of_ble_eq_true rfl) rfl ?_
  refine r.rel (lo' := [(0, .ref (a 1)), (1, .int (0 : Int32))]) [1, 0] rfl ?_
  refine l_X3_fillSteps_2 E a hM r (fun m_3 hxt => ?_) 5000 (0 : Int32) hM hxt
  cases hxt
  exact hret _ _ _ (DX3_fillSteps 59 rfl) ⟨(), rfl⟩
set_option maxRecDepth 100000 in
set_option maxHeartbeats 4000000 in
theorem l_X3_fillPairs_14 (E : xE) (a : Nat → Nat) (x2 : Int32) (hM : Mem) {V : xVT} (r : Rl E RX3 cX3_fillPairs (xR 0 0 0) 4 false V) {o : Mem} {k : Int32 → Mem → Option (Mem)} (hk : ∀ (v1 : Int32) (mM : Mem), k v1 mM = some o → V 0 0 89 [(0, .ref (a 1)), (1, .int v1), (2, .int x2)] [] [(a 1, oX3 a), (a 4, aI E 256 (mM 4)), (a 5, aI E 128 (mM 5)), (a 6, aI E 128 (mM 6)), (a 7, aI E 128 (mM 7))]) : ∀ (n : Nat) (v1 : Int32) (v3 : Int32) (mM : Mem), xt_X3_fillPairs_l14 x2 hM k n v1 v3 mM = some o → V 0 0 14 [(0, .ref (a 1)), (1, .int v1), (2, .int x2), (3, .int v3)] [] [(a 1, oX3 a), (a 4, aI E 256 (mM 4)), (a 5, aI E 128 (mM 5)), (a 6, aI E 128 (mM 6)), (a 7, aI E 128 (mM 7))] := by
  intro n
  induction n with
  | zero => intro v1 v3 mM hxt; exact xno hxt
  | succ n ih =>
    intro v1 v3 mM hxt
    rw [xt_X3_fillPairs_l14] at hxt
    refine r.iload_n 3 (DX3_fillPairs_0 11 rfl) rfl ?_
    refine r.bipush (v := (16 : Int32)) (DX3_fillPairs_0 12 rfl) rfl ?_
    refine r.icmp_ge 89 (DX3_fillPairs_0 13 rfl) rfl hxt (fun _ hxt => ?_) (fun _ hxt => ?_)
    · refine r.rel (lo' := [(0, .ref (a 1)), (1, .int v1), (2, .int x2)]) [0, 1, 2] rfl ?_
      exact hk v1 (mgs hM [4, 5, 6, 7] mM) hxt
    refine r.aload_n 0 (DX3_fillPairs_0 14 rfl) rfl ?_
    refine r.get (v := .ref (a 4)) kX3 f_X3_16 rfl 0 rfl rfl (DX3_fillPairs_0 15 rfl) ?_
    refine r.iload_n 2 (DX3_fillPairs_0 16 rfl) rfl ?_
    refine r.bipush (v := (16 : Int32)) (DX3_fillPairs_0 17 rfl) rfl ?_
    refine r.imul (DX3_fillPairs_0 18 rfl) ?_
    refine r.iload_n 3 (DX3_fillPairs_0 19 rfl) rfl ?_
    refine r.iadd (DX3_fillPairs_0 20 rfl) ?_
    refine r.iload_n 1 (DX3_fillPairs_0 21 rfl) rfl ?_
    obtain ⟨hin, hxt⟩ := xgd_some hxt
    refine r.iast (ws' := [(a 1, oX3 a), (a 4, aI E 256 (upd (mM 4) ((x2 * (16 : Int32)) + v3).toNatClampNeg v1)), (a 5, aI E 128 (mM 5)), (a 6, aI E 128 (mM 6)), (a 7, aI E 128 (mM 7))]) 1 rfl hin rfl (DX3_fillPairs_0 22 rfl) ?_
    refine r.aload_n 0 (DX3_fillPairs_0 23 rfl) rfl ?_
    refine r.get (v := .ref (a 4)) kX3 f_X3_16 rfl 0 rfl rfl (DX3_fillPairs_0 24 rfl) ?_
    refine r.iload_n 3 (DX3_fillPairs_0 25 rfl) rfl ?_
    refine r.bipush (v := (16 : Int32)) (DX3_fillPairs_0 26 rfl) rfl ?_
    refine r.imul (DX3_fillPairs_0 27 rfl) ?_
    refine r.iload_n 2 (DX3_fillPairs_0 28 rfl) rfl ?_
    refine r.iadd (DX3_fillPairs_0 29 rfl) ?_
    refine r.iload_n 1 (DX3_fillPairs_0 30 rfl) rfl ?_
    obtain ⟨hin, hxt⟩ := xgd_some hxt
    refine r.iast (ws' := [(a 1, oX3 a), (a 4, aI E 256 (upd (upd (mM 4) ((x2 * (16 : Int32)) + v3).toNatClampNeg v1) ((v3 * (16 : Int32)) + x2).toNatClampNeg v1)), (a 5, aI E 128 (mM 5)), (a 6, aI E 128 (mM 6)), (a 7, aI E 128 (mM 7))]) 1 rfl hin rfl (DX3_fillPairs_0 31 rfl) ?_
    refine r.aload_n 0 (DX3_fillPairs_0 32 rfl) rfl ?_
    refine r.get (v := .ref (a 5)) kX3 f_X3_19 rfl 0 rfl rfl (DX3_fillPairs_0 33 rfl) ?_
    refine r.iload_n 1 (DX3_fillPairs_0 34 rfl) rfl ?_
    refine r.bipush (v := (127 : Int32)) (DX3_fillPairs_0 35 rfl) rfl ?_
    refine r.iand (DX3_fillPairs_0 36 rfl) ?_
    refine r.iload_n 2 (DX3_fillPairs_0 37 rfl) rfl ?_
    obtain ⟨hin, hxt⟩ := xgd_some hxt
    refine r.iast (ws' := [(a 1, oX3 a), (a 4, aI E 256 (upd (upd (mM 4) ((x2 * (16 : Int32)) + v3).toNatClampNeg v1) ((v3 * (16 : Int32)) + x2).toNatClampNeg v1)), (a 5, aI E 128 (upd (mM 5) (v1 &&& (127 : Int32)).toNatClampNeg x2)), (a 6, aI E 128 (mM 6)), (a 7, aI E 128 (mM 7))]) 2 rfl hin rfl (DX3_fillPairs_0 38 rfl) ?_
    refine r.aload_n 0 (DX3_fillPairs_0 39 rfl) rfl ?_
    refine r.get (v := .ref (a 6)) kX3 f_X3_22 rfl 0 rfl rfl (DX3_fillPairs_0 40 rfl) ?_
    refine r.iload_n 1 (DX3_fillPairs_0 41 rfl) rfl ?_
    refine r.bipush (v := (127 : Int32)) (DX3_fillPairs_0 42 rfl) rfl ?_
    refine r.iand (DX3_fillPairs_0 43 rfl) ?_
    refine r.iload_n 3 (DX3_fillPairs_0 44 rfl) rfl ?_
    obtain ⟨hin, hxt⟩ := xgd_some hxt
    refine r.iast (ws' := [(a 1, oX3 a), (a 4, aI E 256 (upd (upd (mM 4) ((x2 * (16 : Int32)) + v3).toNatClampNeg v1) ((v3 * (16 : Int32)) + x2).toNatClampNeg v1)), (a 5, aI E 128 (upd (mM 5) (v1 &&& (127 : Int32)).toNatClampNeg x2)), (a 6, aI E 128 (upd (mM 6) (v1 &&& (127 : Int32)).toNatClampNeg v3)), (a 7, aI E 128 (mM 7))]) 3 rfl hin rfl (DX3_fillPairs_0 45 rfl) ?_
    refine r.aload_n 0 (DX3_fillPairs_0 46 rfl) rfl ?_
    refine r.get (v := .ref (a 7)) kX3 f_X3_25 rfl 0 rfl rfl (DX3_fillPairs_0 47 rfl) ?_
    refine r.iload_n 1 (DX3_fillPairs_0 48 rfl) rfl ?_
    refine r.bipush (v := (127 : Int32)) (DX3_fillPairs_0 49 rfl) rfl ?_
    refine r.iand (DX3_fillPairs_0 50 rfl) ?_
    refine r.iconst (v := (1 : Int32)) (DX3_fillPairs_0 51 rfl) rfl ?_
    refine r.iload_n 2 (DX3_fillPairs_0 52 rfl) rfl ?_
    refine r.ishl (DX3_fillPairs_0 53 rfl) ?_
    refine r.iconst (v := (1 : Int32)) (DX3_fillPairs_0 54 rfl) rfl ?_
    refine r.iload_n 3 (DX3_fillPairs_0 55 rfl) rfl ?_
    refine r.ishl (DX3_fillPairs_0 56 rfl) ?_
    refine r.ior (DX3_fillPairs_0 57 rfl) ?_
    obtain ⟨hin, hxt⟩ := xgd_some hxt
    refine r.iast (ws' := [(a 1, oX3 a), (a 4, aI E 256 (upd (upd (mM 4) ((x2 * (16 : Int32)) + v3).toNatClampNeg v1) ((v3 * (16 : Int32)) + x2).toNatClampNeg v1)), (a 5, aI E 128 (upd (mM 5) (v1 &&& (127 : Int32)).toNatClampNeg x2)), (a 6, aI E 128 (upd (mM 6) (v1 &&& (127 : Int32)).toNatClampNeg v3)), (a 7, aI E 128 (upd (mM 7) (v1 &&& (127 : Int32)).toNatClampNeg (((1 : Int32) <<< (x2 &&& 31)) ||| ((1 : Int32) <<< (v3 &&& 31)))))]) 4 rfl hin rfl (DX3_fillPairs_0 58 rfl) ?_
    refine r.iinc (v := (v1 + (1 : Int32))) (lo' := [(1, .int (v1 + (1 : Int32))), (0, .ref (a 1)), (2, .int x2), (3, .int v3)]) 1 (DX3_fillPairs_0 59 rfl) rfl rfl (Nat.le_of_ble_eq_true rfl) rfl ?_
    refine r.iinc (v := (v3 + (1 : Int32))) (lo' := [(3, .int (v3 + (1 : Int32))), (1, .int (v1 + (1 : Int32))), (0, .ref (a 1)), (2, .int x2)]) 3 (DX3_fillPairs_1 0 rfl) rfl rfl (Nat.le_of_ble_eq_true rfl) rfl ?_
    refine r.goto 14 (DX3_fillPairs_1 1 rfl) rfl ?_
    refine r.rel (lo' := [(0, .ref (a 1)), (1, .int (v1 + (1 : Int32))), (2, .int x2), (3, .int (v3 + (1 : Int32)))]) [2, 1, 3, 0] rfl ?_
    exact ih (v1 + (1 : Int32)) (v3 + (1 : Int32)) (mset (mset (mset (mset hM 4 (upd (upd (mM 4) ((x2 * (16 : Int32)) + v3).toNatClampNeg v1) ((v3 * (16 : Int32)) + x2).toNatClampNeg v1)) 5 (upd (mM 5) (v1 &&& (127 : Int32)).toNatClampNeg x2)) 6 (upd (mM 6) (v1 &&& (127 : Int32)).toNatClampNeg v3)) 7 (upd (mM 7) (v1 &&& (127 : Int32)).toNatClampNeg (((1 : Int32) <<< (x2 &&& 31)) ||| ((1 : Int32) <<< (v3 &&& 31))))) hxt
set_option maxRecDepth 100000 in
set_option maxHeartbeats 4000000 in
theorem l_X3_fillPairs_4 (E : xE) (a : Nat → Nat) (hM : Mem) {V : xVT} (r : Rl E RX3 cX3_fillPairs (xR 0 0 0) 4 false V) {o : Mem} {k : Mem → Option (Mem)} (hk : ∀ (mM : Mem), k mM = some o → V 0 0 95 [] [] [(a 1, oX3 a), (a 4, aI E 256 (mM 4)), (a 5, aI E 128 (mM 5)), (a 6, aI E 128 (mM 6)), (a 7, aI E 128 (mM 7))]) : ∀ (n : Nat) (v1 : Int32) (v2 : Int32) (mM : Mem), xt_X3_fillPairs_l4 hM k n v1 v2 mM = some o → V 0 0 4 [(0, .ref (a 1)), (1, .int v1), (2, .int v2)] [] [(a 1, oX3 a), (a 4, aI E 256 (mM 4)), (a 5, aI E 128 (mM 5)), (a 6, aI E 128 (mM 6)), (a 7, aI E 128 (mM 7))] := by
  intro n
  induction n with
  | zero => intro v1 v2 mM hxt; exact xno hxt
  | succ n ih =>
    intro v1 v2 mM hxt
    rw [xt_X3_fillPairs_l4] at hxt
    refine r.iload_n 2 (DX3_fillPairs_0 4 rfl) rfl ?_
    refine r.bipush (v := (16 : Int32)) (DX3_fillPairs_0 5 rfl) rfl ?_
    refine r.icmp_ge 95 (DX3_fillPairs_0 6 rfl) rfl hxt (fun _ hxt => ?_) (fun _ hxt => ?_)
    · refine r.rel (lo' := []) [] rfl ?_
      exact hk (mgs hM [4, 5, 6, 7] mM) hxt
    refine r.iload_n 2 (DX3_fillPairs_0 7 rfl) rfl ?_
    refine r.iconst (v := (1 : Int32)) (DX3_fillPairs_0 8 rfl) rfl ?_
    refine r.iadd (DX3_fillPairs_0 9 rfl) ?_
    refine r.istore_n (lo' := [(3, .int (v2 + (1 : Int32))), (0, .ref (a 1)), (1, .int v1), (2, .int v2)]) (DX3_fillPairs_0 10 rfl) (Nat.le_of_ble_eq_true rfl) rfl ?_
    refine r.rel (lo' := [(0, .ref (a 1)), (1, .int v1), (2, .int v2), (3, .int (v2 + (1 : Int32)))]) [1, 2, 3, 0] rfl ?_
    refine l_X3_fillPairs_14 E a v2 (mgs hM [4, 5, 6, 7] mM) r (fun v1_1 m_2 hxt => ?_) 5000 v1 (v2 + (1 : Int32)) (mgs hM [4, 5, 6, 7] mM) hxt
    refine r.iinc (v := (v2 + (1 : Int32))) (lo' := [(2, .int (v2 + (1 : Int32))), (0, .ref (a 1)), (1, .int v1_1)]) 2 (DX3_fillPairs_1 2 rfl) rfl rfl (Nat.le_of_ble_eq_true rfl) rfl ?_
    refine r.goto 4 (DX3_fillPairs_1 3 rfl) rfl ?_
    refine r.rel (lo' := [(0, .ref (a 1)), (1, .int v1_1), (2, .int (v2 + (1 : Int32)))]) [1, 2, 0] rfl ?_
    exact ih v1_1 (v2 + (1 : Int32)) (mgs hM [4, 5, 6, 7] m_2) hxt
set_option maxRecDepth 100000 in
set_option maxHeartbeats 4000000 in
theorem t_X3_fillPairs (E : xE) (a : Nat → Nat) (hM : Mem) {o : Mem} (hxt : xt_X3_fillPairs hM = some o) : xMV (S := Unit) E yX3_fillPairs cX3_fillPairs 4 0 0 0 [.ref (a 1)] [(a 1, oX3 a), (a 4, aI E 256 (hM 4)), (a 5, aI E 128 (hM 5)), (a 6, aI E 128 (hM 6)), (a 7, aI E 128 (hM 7))] (fun _ => [(a 1, oX3 a), (a 4, aI E 256 (o 4)), (a 5, aI E 128 (o 5)), (a 6, aI E 128 (o 6)), (a 7, aI E 128 (o 7))]) := by
  refine xMV.of (own := RX3) (lo0 := [(0, .ref (a 1))]) (ini := false) (fun h => nomatch h) (by decide +kernel) rfl rfl (Nat.le_of_ble_eq_true rfl) (fun V r hret => ?_)
  unfold xt_X3_fillPairs at hxt
  refine r.iconst (v := (0 : Int32)) (DX3_fillPairs_0 0 rfl) rfl ?_
  refine r.istore_n (lo' := [(1, .int (0 : Int32)), (0, .ref (a 1))]) (DX3_fillPairs_0 1 rfl) (Nat.le_of_ble_eq_true rfl) rfl ?_
  refine r.iconst (v := (0 : Int32)) (DX3_fillPairs_0 2 rfl) rfl ?_
  refine r.istore_n (lo' := [(2, .int (0 : Int32)), (1, .int (0 : Int32)), (0, .ref (a 1))]) (DX3_fillPairs_0 3 rfl) (Nat.le_of_ble_eq_true rfl) rfl ?_
  refine r.rel (lo' := [(0, .ref (a 1)), (1, .int (0 : Int32)), (2, .int (0 : Int32))]) [2, 1, 0] rfl ?_
  refine l_X3_fillPairs_4 E a hM r (fun m_3 hxt => ?_) 5000 (0 : Int32) (0 : Int32) hM hxt
  cases hxt
  exact hret _ _ _ (DX3_fillPairs_1 4 rfl) ⟨(), rfl⟩
set_option maxRecDepth 100000 in
set_option maxHeartbeats 4000000 in
theorem l_X3_fillImages_10 (E : xE) (a : Nat → Nat) (x1 : Int32) (hM : Mem) {V : xVT} (r : Rl E RX3 cX3_fillImages (xR 0 0 0) 5 false V) {o : Mem} {k : Mem → Option (Mem)} (hk : ∀ (mM : Mem), k mM = some o → V 0 0 91 [(0, .ref (a 1)), (1, .int x1)] [] [(a 1, oX3 a), (a 8, aI E 128 (mM 8))]) : ∀ (n : Nat) (v2 : Int32) (mM : Mem), xt_X3_fillImages_l10 x1 hM k n v2 mM = some o → V 0 0 10 [(0, .ref (a 1)), (1, .int x1), (2, .int v2)] [] [(a 1, oX3 a), (a 8, aI E 128 (mM 8))] := by
  intro n
  induction n with
  | zero => intro v2 mM hxt; exact xno hxt
  | succ n ih =>
    intro v2 mM hxt
    rw [xt_X3_fillImages_l10] at hxt
    refine r.iload_n 2 (DX3_fillImages_0 7 rfl) rfl ?_
    refine r.bipush (v := (16 : Int32)) (DX3_fillImages_0 8 rfl) rfl ?_
    refine r.icmp_ge 91 (DX3_fillImages_0 9 rfl) rfl hxt (fun _ hxt => ?_) (fun _ hxt => ?_)
    · refine r.rel (lo' := [(0, .ref (a 1)), (1, .int x1)]) [0, 1] rfl ?_
      exact hk (mgs hM [8] mM) hxt
    refine r.iload_n 1 (DX3_fillImages_0 10 rfl) rfl ?_
    refine r.iconst (v := (1 : Int32)) (DX3_fillImages_0 11 rfl) rfl ?_
    refine r.iand (DX3_fillImages_0 12 rfl) ?_
    refine r.if_ne 28 (DX3_fillImages_0 13 rfl) rfl hxt (fun _ hxt => ?_) (fun _ hxt => ?_)
    · refine r.iconst (v := (3 : Int32)) (DX3_fillImages_0 18 rfl) rfl ?_
      refine r.iload_n 2 (DX3_fillImages_0 19 rfl) rfl ?_
      refine r.iconst (v := (4 : Int32)) (DX3_fillImages_0 20 rfl) rfl ?_
      refine r.idiv (DX3_fillImages_0 21 rfl) (by decide) ?_
      refine r.isub (DX3_fillImages_0 22 rfl) ?_
      refine r.istore_n (lo' := [(3, .int ((3 : Int32) - (v2 / (4 : Int32)))), (0, .ref (a 1)), (1, .int x1), (2, .int v2)]) (DX3_fillImages_0 23 rfl) (Nat.le_of_ble_eq_true rfl) rfl ?_
      refine r.iload_n 2 (DX3_fillImages_0 24 rfl) rfl ?_
      refine r.iconst (v := (2 : Int32)) (DX3_fillImages_0 25 rfl) rfl ?_
      refine r.iand (DX3_fillImages_0 26 rfl) ?_
      refine r.if_ne 46 (DX3_fillImages_0 27 rfl) rfl hxt (fun _ hxt => ?_) (fun _ hxt => ?_)
      · refine r.iconst (v := (3 : Int32)) (DX3_fillImages_0 32 rfl) rfl ?_
        refine r.iload_n 3 (DX3_fillImages_0 33 rfl) rfl ?_
        refine r.iconst (v := (4 : Int32)) (DX3_fillImages_0 34 rfl) rfl ?_
        refine r.irem (DX3_fillImages_0 35 rfl) (by decide) ?_
        refine r.isub (DX3_fillImages_0 36 rfl) ?_
        refine r.istore (lo' := [(4, .int ((3 : Int32) - (v2 - v2 / (4 : Int32) * (4 : Int32)))), (3, .int ((3 : Int32) - (v2 / (4 : Int32)))), (0, .ref (a 1)), (1, .int x1), (2, .int v2)]) (DX3_fillImages_0 37 rfl) (Nat.le_of_ble_eq_true rfl) rfl ?_
        refine r.aload_n 2 (DX3_fillImages_0 38 rfl) rfl ?_
        refine r.get (v := .ref (a 8)) kX3 f_X3_28 rfl 0 rfl rfl (DX3_fillImages_0 39 rfl) ?_
        refine r.iload_n 3 (DX3_fillImages_0 40 rfl) rfl ?_
        refine r.bipush (v := (16 : Int32)) (DX3_fillImages_0 41 rfl) rfl ?_
        refine r.imul (DX3_fillImages_0 42 rfl) ?_
        refine r.iload_n 4 (DX3_fillImages_0 43 rfl) rfl ?_
        refine r.iadd (DX3_fillImages_0 44 rfl) ?_
        refine r.iload_n 3 (DX3_fillImages_0 45 rfl) rfl ?_
        refine r.iconst (v := (4 : Int32)) (DX3_fillImages_0 46 rfl) rfl ?_
        refine r.iand (DX3_fillImages_0 47 rfl) ?_
        refine r.if_ne 78 (DX3_fillImages_0 48 rfl) rfl hxt (fun _ hxt => ?_) (fun _ hxt => ?_)
        · refine r.iconst (v := (4 : Int32)) (DX3_fillImages_0 55 rfl) rfl ?_
          refine r.iload 0 (DX3_fillImages_0 56 rfl) rfl ?_
          refine r.imul (DX3_fillImages_0 57 rfl) ?_
          refine r.iload_n 1 (DX3_fillImages_0 58 rfl) rfl ?_
          refine r.iadd (DX3_fillImages_0 59 rfl) ?_
          obtain ⟨hin, hxt⟩ := xgd_some hxt
          refine r.iast (ws' := [(a 1, oX3 a), (a 8, aI E 128 (upd (mM 8) ((x1 * (16 : Int32)) + v2).toNatClampNeg (((4 : Int32) * ((3 : Int32) - (v2 - v2 / (4 : Int32) * (4 : Int32)))) + ((3 : Int32) - (v2 / (4 : Int32))))))]) 1 rfl hin rfl (DX3_fillImages_1 0 rfl) ?_
          refine r.iinc (v := (v2 + (1 : Int32))) (lo' := [(2, .int (v2 + (1 : Int32))), (4, .int ((3 : Int32) - (v2 - v2 / (4 : Int32) * (4 : Int32)))), (3, .int ((3 : Int32) - (v2 / (4 : Int32)))), (0, .ref (a 1)), (1, .int x1)]) 4 (DX3_fillImages_1 1 rfl) rfl rfl (Nat.le_of_ble_eq_true rfl) rfl ?_
          refine r.goto 10 (DX3_fillImages_1 2 rfl) rfl ?_
          refine r.rel (lo' := [(0, .ref (a 1)), (1, .int x1), (2, .int (v2 + (1 : Int32)))]) [3, 4, 0] rfl ?_
          exact ih (v2 + (1 : Int32)) (mset hM 8 (upd (mM 8) ((x1 * (16 : Int32)) + v2).toNatClampNeg (((4 : Int32) * ((3 : Int32) - (v2 - v2 / (4 : Int32) * (4 : Int32)))) + ((3 : Int32) - (v2 / (4 : Int32)))))) hxt
        refine r.iconst (v := (4 : Int32)) (DX3_fillImages_0 49 rfl) rfl ?_
        refine r.iload_n 1 (DX3_fillImages_0 50 rfl) rfl ?_
        refine r.imul (DX3_fillImages_0 51 rfl) ?_
        refine r.iload 0 (DX3_fillImages_0 52 rfl) rfl ?_
        refine r.iadd (DX3_fillImages_0 53 rfl) ?_
        refine r.goto 84 (DX3_fillImages_0 54 rfl) rfl ?_
        obtain ⟨hin, hxt⟩ := xgd_some hxt
        refine r.iast (ws' := [(a 1, oX3 a), (a 8, aI E 128 (upd (mM 8) ((x1 * (16 : Int32)) + v2).toNatClampNeg (((4 : Int32) * ((3 : Int32) - (v2 / (4 : Int32)))) + ((3 : Int32) - (v2 - v2 / (4 : Int32) * (4 : Int32))))))]) 1 rfl hin rfl (DX3_fillImages_1 0 rfl) ?_
        refine r.iinc (v := (v2 + (1 : Int32))) (lo' := [(2, .int (v2 + (1 : Int32))), (4, .int ((3 : Int32) - (v2 - v2 / (4 : Int32) * (4 : Int32)))), (3, .int ((3 : Int32) - (v2 / (4 : Int32)))), (0, .ref (a 1)), (1, .int x1)]) 4 (DX3_fillImages_1 1 rfl) rfl rfl (Nat.le_of_ble_eq_true rfl) rfl ?_
        refine r.goto 10 (DX3_fillImages_1 2 rfl) rfl ?_
        refine r.rel (lo' := [(0, .ref (a 1)), (1, .int x1), (2, .int (v2 + (1 : Int32)))]) [3, 4, 0] rfl ?_
        exact ih (v2 + (1 : Int32)) (mset hM 8 (upd (mM 8) ((x1 * (16 : Int32)) + v2).toNatClampNeg (((4 : Int32) * ((3 : Int32) - (v2 / (4 : Int32)))) + ((3 : Int32) - (v2 - v2 / (4 : Int32) * (4 : Int32)))))) hxt
      refine r.iload_n 3 (DX3_fillImages_0 28 rfl) rfl ?_
      refine r.iconst (v := (4 : Int32)) (DX3_fillImages_0 29 rfl) rfl ?_
      refine r.irem (DX3_fillImages_0 30 rfl) (by decide) ?_
      refine r.goto 51 (DX3_fillImages_0 31 rfl) rfl ?_
      refine r.istore (lo' := [(4, .int (v2 - v2 / (4 : Int32) * (4 : Int32))), (3, .int ((3 : Int32) - (v2 / (4 : Int32)))), (0, .ref (a 1)), (1, .int x1), (2, .int v2)]) (DX3_fillImages_0 37 rfl) (Nat.le_of_ble_eq_true rfl) rfl ?_
      refine r.aload_n 2 (DX3_fillImages_0 38 rfl) rfl ?_
      refine r.get (v := .ref (a 8)) kX3 f_X3_28 rfl 0 rfl rfl (DX3_fillImages_0 39 rfl) ?_
      refine r.iload_n 3 (DX3_fillImages_0 40 rfl) rfl ?_
      refine r.bipush (v := (16 : Int32)) (DX3_fillImages_0 41 rfl) rfl ?_
      refine r.imul (DX3_fillImages_0 42 rfl) ?_
      refine r.iload_n 4 (DX3_fillImages_0 43 rfl) rfl ?_
      refine r.iadd (DX3_fillImages_0 44 rfl) ?_
      refine r.iload_n 3 (DX3_fillImages_0 45 rfl) rfl ?_
      refine r.iconst (v := (4 : Int32)) (DX3_fillImages_0 46 rfl) rfl ?_
      refine r.iand (DX3_fillImages_0 47 rfl) ?_
      refine r.if_ne 78 (DX3_fillImages_0 48 rfl) rfl hxt (fun _ hxt => ?_) (fun _ hxt => ?_)
      · refine r.iconst (v := (4 : Int32)) (DX3_fillImages_0 55 rfl) rfl ?_
        refine r.iload 0 (DX3_fillImages_0 56 rfl) rfl ?_
        refine r.imul (DX3_fillImages_0 57 rfl) ?_
        refine r.iload_n 1 (DX3_fillImages_0 58 rfl) rfl ?_
        refine r.iadd (DX3_fillImages_0 59 rfl) ?_
        obtain ⟨hin, hxt⟩ := xgd_some hxt
        refine r.iast (ws' := [(a 1, oX3 a), (a 8, aI E 128 (upd (mM 8) ((x1 * (16 : Int32)) + v2).toNatClampNeg (((4 : Int32) * (v2 - v2 / (4 : Int32) * (4 : Int32))) + ((3 : Int32) - (v2 / (4 : Int32))))))]) 1 rfl hin rfl (DX3_fillImages_1 0 rfl) ?_
        refine r.iinc (v := (v2 + (1 : Int32))) (lo' := [(2, .int (v2 + (1 : Int32))), (4, .int (v2 - v2 / (4 : Int32) * (4 : Int32))), (3, .int ((3 : Int32) - (v2 / (4 : Int32)))), (0, .ref (a 1)), (1, .int x1)]) 4 (DX3_fillImages_1 1 rfl) rfl rfl (Nat.le_of_ble_eq_true rfl) rfl ?_
        refine r.goto 10 (DX3_fillImages_1 2 rfl) rfl ?_
        refine r.rel (lo' := [(0, .ref (a 1)), (1, .int x1), (2, .int (v2 + (1 : Int32)))]) [3, 4, 0] rfl ?_
        exact ih (v2 + (1 : Int32)) (mset hM 8 (upd (mM 8) ((x1 * (16 : Int32)) + v2).toNatClampNeg (((4 : Int32) * (v2 - v2 / (4 : Int32) * (4 : Int32))) + ((3 : Int32) - (v2 / (4 : Int32)))))) hxt
      refine r.iconst (v := (4 : Int32)) (DX3_fillImages_0 49 rfl) rfl ?_
      refine r.iload_n 1 (DX3_fillImages_0 50 rfl) rfl ?_
      refine r.imul (DX3_fillImages_0 51 rfl) ?_
      refine r.iload 0 (DX3_fillImages_0 52 rfl) rfl ?_
      refine r.iadd (DX3_fillImages_0 53 rfl) ?_
      refine r.goto 84 (DX3_fillImages_0 54 rfl) rfl ?_
      obtain ⟨hin, hxt⟩ := xgd_some hxt
      refine r.iast (ws' := [(a 1, oX3 a), (a 8, aI E 128 (upd (mM 8) ((x1 * (16 : Int32)) + v2).toNatClampNeg (((4 : Int32) * ((3 : Int32) - (v2 / (4 : Int32)))) + (v2 - v2 / (4 : Int32) * (4 : Int32)))))]) 1 rfl hin rfl (DX3_fillImages_1 0 rfl) ?_
      refine r.iinc (v := (v2 + (1 : Int32))) (lo' := [(2, .int (v2 + (1 : Int32))), (4, .int (v2 - v2 / (4 : Int32) * (4 : Int32))), (3, .int ((3 : Int32) - (v2 / (4 : Int32)))), (0, .ref (a 1)), (1, .int x1)]) 4 (DX3_fillImages_1 1 rfl) rfl rfl (Nat.le_of_ble_eq_true rfl) rfl ?_
      refine r.goto 10 (DX3_fillImages_1 2 rfl) rfl ?_
      refine r.rel (lo' := [(0, .ref (a 1)), (1, .int x1), (2, .int (v2 + (1 : Int32)))]) [3, 4, 0] rfl ?_
      exact ih (v2 + (1 : Int32)) (mset hM 8 (upd (mM 8) ((x1 * (16 : Int32)) + v2).toNatClampNeg (((4 : Int32) * ((3 : Int32) - (v2 / (4 : Int32)))) + (v2 - v2 / (4 : Int32) * (4 : Int32))))) hxt
    refine r.iload_n 2 (DX3_fillImages_0 14 rfl) rfl ?_
    refine r.iconst (v := (4 : Int32)) (DX3_fillImages_0 15 rfl) rfl ?_
    refine r.idiv (DX3_fillImages_0 16 rfl) (by decide) ?_
    refine r.goto 33 (DX3_fillImages_0 17 rfl) rfl ?_
    refine r.istore_n (lo' := [(3, .int (v2 / (4 : Int32))), (0, .ref (a 1)), (1, .int x1), (2, .int v2)]) (DX3_fillImages_0 23 rfl) (Nat.le_of_ble_eq_true rfl) rfl ?_
    refine r.iload_n 2 (DX3_fillImages_0 24 rfl) rfl ?_
    refine r.iconst (v := (2 : Int32)) (DX3_fillImages_0 25 rfl) rfl ?_
    refine r.iand (DX3_fillImages_0 26 rfl) ?_
    refine r.if_ne 46 (DX3_fillImages_0 27 rfl) rfl hxt (fun _ hxt => ?_) (fun _ hxt => ?_)
    · refine r.iconst (v := (3 : Int32)) (DX3_fillImages_0 32 rfl) rfl ?_
      refine r.iload_n 3 (DX3_fillImages_0 33 rfl) rfl ?_
      refine r.iconst (v := (4 : Int32)) (DX3_fillImages_0 34 rfl) rfl ?_
      refine r.irem (DX3_fillImages_0 35 rfl) (by decide) ?_
      refine r.isub (DX3_fillImages_0 36 rfl) ?_
      refine r.istore (lo' := [(4, .int ((3 : Int32) - (v2 - v2 / (4 : Int32) * (4 : Int32)))), (3, .int (v2 / (4 : Int32))), (0, .ref (a 1)), (1, .int x1), (2, .int v2)]) (DX3_fillImages_0 37 rfl) (Nat.le_of_ble_eq_true rfl) rfl ?_
      refine r.aload_n 2 (DX3_fillImages_0 38 rfl) rfl ?_
      refine r.get (v := .ref (a 8)) kX3 f_X3_28 rfl 0 rfl rfl (DX3_fillImages_0 39 rfl) ?_
      refine r.iload_n 3 (DX3_fillImages_0 40 rfl) rfl ?_
      refine r.bipush (v := (16 : Int32)) (DX3_fillImages_0 41 rfl) rfl ?_
      refine r.imul (DX3_fillImages_0 42 rfl) ?_
      refine r.iload_n 4 (DX3_fillImages_0 43 rfl) rfl ?_
      refine r.iadd (DX3_fillImages_0 44 rfl) ?_
      refine r.iload_n 3 (DX3_fillImages_0 45 rfl) rfl ?_
      refine r.iconst (v := (4 : Int32)) (DX3_fillImages_0 46 rfl) rfl ?_
      refine r.iand (DX3_fillImages_0 47 rfl) ?_
      refine r.if_ne 78 (DX3_fillImages_0 48 rfl) rfl hxt (fun _ hxt => ?_) (fun _ hxt => ?_)
      · refine r.iconst (v := (4 : Int32)) (DX3_fillImages_0 55 rfl) rfl ?_
        refine r.iload 0 (DX3_fillImages_0 56 rfl) rfl ?_
        refine r.imul (DX3_fillImages_0 57 rfl) ?_
        refine r.iload_n 1 (DX3_fillImages_0 58 rfl) rfl ?_
        refine r.iadd (DX3_fillImages_0 59 rfl) ?_
        obtain ⟨hin, hxt⟩ := xgd_some hxt
        refine r.iast (ws' := [(a 1, oX3 a), (a 8, aI E 128 (upd (mM 8) ((x1 * (16 : Int32)) + v2).toNatClampNeg (((4 : Int32) * ((3 : Int32) - (v2 - v2 / (4 : Int32) * (4 : Int32)))) + (v2 / (4 : Int32)))))]) 1 rfl hin rfl (DX3_fillImages_1 0 rfl) ?_
        refine r.iinc (v := (v2 + (1 : Int32))) (lo' := [(2, .int (v2 + (1 : Int32))), (4, .int ((3 : Int32) - (v2 - v2 / (4 : Int32) * (4 : Int32)))), (3, .int (v2 / (4 : Int32))), (0, .ref (a 1)), (1, .int x1)]) 4 (DX3_fillImages_1 1 rfl) rfl rfl (Nat.le_of_ble_eq_true rfl) rfl ?_
        refine r.goto 10 (DX3_fillImages_1 2 rfl) rfl ?_
        refine r.rel (lo' := [(0, .ref (a 1)), (1, .int x1), (2, .int (v2 + (1 : Int32)))]) [3, 4, 0] rfl ?_
        exact ih (v2 + (1 : Int32)) (mset hM 8 (upd (mM 8) ((x1 * (16 : Int32)) + v2).toNatClampNeg (((4 : Int32) * ((3 : Int32) - (v2 - v2 / (4 : Int32) * (4 : Int32)))) + (v2 / (4 : Int32))))) hxt
      refine r.iconst (v := (4 : Int32)) (DX3_fillImages_0 49 rfl) rfl ?_
      refine r.iload_n 1 (DX3_fillImages_0 50 rfl) rfl ?_
      refine r.imul (DX3_fillImages_0 51 rfl) ?_
      refine r.iload 0 (DX3_fillImages_0 52 rfl) rfl ?_
      refine r.iadd (DX3_fillImages_0 53 rfl) ?_
      refine r.goto 84 (DX3_fillImages_0 54 rfl) rfl ?_
      obtain ⟨hin, hxt⟩ := xgd_some hxt
      refine r.iast (ws' := [(a 1, oX3 a), (a 8, aI E 128 (upd (mM 8) ((x1 * (16 : Int32)) + v2).toNatClampNeg (((4 : Int32) * (v2 / (4 : Int32))) + ((3 : Int32) - (v2 - v2 / (4 : Int32) * (4 : Int32))))))]) 1 rfl hin rfl (DX3_fillImages_1 0 rfl) ?_
      refine r.iinc (v := (v2 + (1 : Int32))) (lo' := [(2, .int (v2 + (1 : Int32))), (4, .int ((3 : Int32) - (v2 - v2 / (4 : Int32) * (4 : Int32)))), (3, .int (v2 / (4 : Int32))), (0, .ref (a 1)), (1, .int x1)]) 4 (DX3_fillImages_1 1 rfl) rfl rfl (Nat.le_of_ble_eq_true rfl) rfl ?_
      refine r.goto 10 (DX3_fillImages_1 2 rfl) rfl ?_
      refine r.rel (lo' := [(0, .ref (a 1)), (1, .int x1), (2, .int (v2 + (1 : Int32)))]) [3, 4, 0] rfl ?_
      exact ih (v2 + (1 : Int32)) (mset hM 8 (upd (mM 8) ((x1 * (16 : Int32)) + v2).toNatClampNeg (((4 : Int32) * (v2 / (4 : Int32))) + ((3 : Int32) - (v2 - v2 / (4 : Int32) * (4 : Int32)))))) hxt
    refine r.iload_n 3 (DX3_fillImages_0 28 rfl) rfl ?_
    refine r.iconst (v := (4 : Int32)) (DX3_fillImages_0 29 rfl) rfl ?_
    refine r.irem (DX3_fillImages_0 30 rfl) (by decide) ?_
    refine r.goto 51 (DX3_fillImages_0 31 rfl) rfl ?_
    refine r.istore (lo' := [(4, .int (v2 - v2 / (4 : Int32) * (4 : Int32))), (3, .int (v2 / (4 : Int32))), (0, .ref (a 1)), (1, .int x1), (2, .int v2)]) (DX3_fillImages_0 37 rfl) (Nat.le_of_ble_eq_true rfl) rfl ?_
    refine r.aload_n 2 (DX3_fillImages_0 38 rfl) rfl ?_
    refine r.get (v := .ref (a 8)) kX3 f_X3_28 rfl 0 rfl rfl (DX3_fillImages_0 39 rfl) ?_
    refine r.iload_n 3 (DX3_fillImages_0 40 rfl) rfl ?_
    refine r.bipush (v := (16 : Int32)) (DX3_fillImages_0 41 rfl) rfl ?_
    refine r.imul (DX3_fillImages_0 42 rfl) ?_
    refine r.iload_n 4 (DX3_fillImages_0 43 rfl) rfl ?_
    refine r.iadd (DX3_fillImages_0 44 rfl) ?_
    refine r.iload_n 3 (DX3_fillImages_0 45 rfl) rfl ?_
    refine r.iconst (v := (4 : Int32)) (DX3_fillImages_0 46 rfl) rfl ?_
    refine r.iand (DX3_fillImages_0 47 rfl) ?_
    refine r.if_ne 78 (DX3_fillImages_0 48 rfl) rfl hxt (fun _ hxt => ?_) (fun _ hxt => ?_)
    · refine r.iconst (v := (4 : Int32)) (DX3_fillImages_0 55 rfl) rfl ?_
      refine r.iload 0 (DX3_fillImages_0 56 rfl) rfl ?_
      refine r.imul (DX3_fillImages_0 57 rfl) ?_
      refine r.iload_n 1 (DX3_fillImages_0 58 rfl) rfl ?_
      refine r.iadd (DX3_fillImages_0 59 rfl) ?_
      obtain ⟨hin, hxt⟩ := xgd_some hxt
      refine r.iast (ws' := [(a 1, oX3 a), (a 8, aI E 128 (upd (mM 8) ((x1 * (16 : Int32)) + v2).toNatClampNeg (((4 : Int32) * (v2 - v2 / (4 : Int32) * (4 : Int32))) + (v2 / (4 : Int32)))))]) 1 rfl hin rfl (DX3_fillImages_1 0 rfl) ?_
      refine r.iinc (v := (v2 + (1 : Int32))) (lo' := [(2, .int (v2 + (1 : Int32))), (4, .int (v2 - v2 / (4 : Int32) * (4 : Int32))), (3, .int (v2 / (4 : Int32))), (0, .ref (a 1)), (1, .int x1)]) 4 (DX3_fillImages_1 1 rfl) rfl rfl (Nat.le_of_ble_eq_true rfl) rfl ?_
      refine r.goto 10 (DX3_fillImages_1 2 rfl) rfl ?_
      refine r.rel (lo' := [(0, .ref (a 1)), (1, .int x1), (2, .int (v2 + (1 : Int32)))]) [3, 4, 0] rfl ?_
      exact ih (v2 + (1 : Int32)) (mset hM 8 (upd (mM 8) ((x1 * (16 : Int32)) + v2).toNatClampNeg (((4 : Int32) * (v2 - v2 / (4 : Int32) * (4 : Int32))) + (v2 / (4 : Int32))))) hxt
    refine r.iconst (v := (4 : Int32)) (DX3_fillImages_0 49 rfl) rfl ?_
    refine r.iload_n 1 (DX3_fillImages_0 50 rfl) rfl ?_
    refine r.imul (DX3_fillImages_0 51 rfl) ?_
    refine r.iload 0 (DX3_fillImages_0 52 rfl) rfl ?_
    refine r.iadd (DX3_fillImages_0 53 rfl) ?_
    refine r.goto 84 (DX3_fillImages_0 54 rfl) rfl ?_
    obtain ⟨hin, hxt⟩ := xgd_some hxt
    refine r.iast (ws' := [(a 1, oX3 a), (a 8, aI E 128 (upd (mM 8) ((x1 * (16 : Int32)) + v2).toNatClampNeg (((4 : Int32) * (v2 / (4 : Int32))) + (v2 - v2 / (4 : Int32) * (4 : Int32)))))]) 1 rfl hin rfl (DX3_fillImages_1 0 rfl) ?_
    refine r.iinc (v := (v2 + (1 : Int32))) (lo' := [(2, .int (v2 + (1 : Int32))), (4, .int (v2 - v2 / (4 : Int32) * (4 : Int32))), (3, .int (v2 / (4 : Int32))), (0, .ref (a 1)), (1, .int x1)]) 4 (DX3_fillImages_1 1 rfl) rfl rfl (Nat.le_of_ble_eq_true rfl) rfl ?_
    refine r.goto 10 (DX3_fillImages_1 2 rfl) rfl ?_
    refine r.rel (lo' := [(0, .ref (a 1)), (1, .int x1), (2, .int (v2 + (1 : Int32)))]) [3, 4, 0] rfl ?_
    exact ih (v2 + (1 : Int32)) (mset hM 8 (upd (mM 8) ((x1 * (16 : Int32)) + v2).toNatClampNeg (((4 : Int32) * (v2 / (4 : Int32))) + (v2 - v2 / (4 : Int32) * (4 : Int32))))) hxt
set_option maxRecDepth 100000 in
set_option maxHeartbeats 4000000 in
theorem l_X3_fillImages_2 (E : xE) (a : Nat → Nat) (hM : Mem) {V : xVT} (r : Rl E RX3 cX3_fillImages (xR 0 0 0) 5 false V) {o : Mem} {k : Mem → Option (Mem)} (hk : ∀ (mM : Mem), k mM = some o → V 0 0 97 [] [] [(a 1, oX3 a), (a 8, aI E 128 (mM 8))]) : ∀ (n : Nat) (v1 : Int32) (mM : Mem), xt_X3_fillImages_l2 hM k n v1 mM = some o → V 0 0 2 [(0, .ref (a 1)), (1, .int v1)] [] [(a 1, oX3 a), (a 8, aI E 128 (mM 8))] := by
  intro n
  induction n with
  | zero => intro v1 mM hxt; exact xno hxt
  | succ n ih =>
    intro v1 mM hxt
    rw [xt_X3_fillImages_l2] at hxt
    refine r.iload_n 1 (DX3_fillImages_0 2 rfl) rfl ?_
    refine r.bipush (v := (8 : Int32)) (DX3_fillImages_0 3 rfl) rfl ?_
    refine r.icmp_ge 97 (DX3_fillImages_0 4 rfl) rfl hxt (fun _ hxt => ?_) (fun _ hxt => ?_)
    · refine r.rel (lo' := []) [] rfl ?_
      exact hk (mgs hM [8] mM) hxt
    refine r.iconst (v := (0 : Int32)) (DX3_fillImages_0 5 rfl) rfl ?_
    refine r.istore_n (lo' := [(2, .int (0 : Int32)), (0, .ref (a 1)), (1, .int v1)]) (DX3_fillImages_0 6 rfl) (Nat.le_of_ble_eq_true rfl) rfl ?_
    refine r.rel (lo' := [(0, .ref (a 1)), (1, .int v1), (2, .int (0 : Int32))]) [1, 2, 0] rfl ?_
    refine l_X3_fillImages_10 E a v1 (mgs hM [8] mM) r (fun m_1 hxt => ?_) 5000 (0 : Int32) (mgs hM [8] mM) hxt
    refine r.iinc (v := (v1 + (1 : Int32))) (lo' := [(1, .int (v1 + (1 : Int32))), (0, .ref (a 1))]) 1 (DX3_fillImages_1 3 rfl) rfl rfl (Nat.le_of_ble_eq_true rfl) rfl ?_
    refine r.goto 2 (DX3_fillImages_1 4 rfl) rfl ?_
    refine r.rel (lo' := [(0, .ref (a 1)), (1, .int (v1 + (1 : Int32)))]) [1, 0] rfl ?_
    exact ih (v1 + (1 : Int32)) (mgs hM [8] m_1) hxt
set_option maxRecDepth 100000 in
set_option maxHeartbeats 4000000 in
theorem t_X3_fillImages (E : xE) (a : Nat → Nat) (hM : Mem) {o : Mem} (hxt : xt_X3_fillImages hM = some o) : xMV (S := Unit) E yX3_fillImages cX3_fillImages 5 0 0 0 [.ref (a 1)] [(a 1, oX3 a), (a 8, aI E 128 (hM 8))] (fun _ => [(a 1, oX3 a), (a 8, aI E 128 (o 8))]) := by
  refine xMV.of (own := RX3) (lo0 := [(0, .ref (a 1))]) (ini := false) (fun h => nomatch h) (by decide +kernel) rfl rfl (Nat.le_of_ble_eq_true rfl) (fun V r hret => ?_)
  unfold xt_X3_fillImages at hxt
  refine r.iconst (v := (0 : Int32)) (DX3_fillImages_0 0 rfl) rfl ?_
  refine r.istore_n (lo' := [(1, .int (0 : Int32)), (0, .ref (a 1))]) (DX3_fillImages_0 1 rfl) (Nat.le_of_ble_eq_true rfl) rfl ?_
  refine r.rel (lo' := [(0, .ref (a 1)), (1, .int (0 : Int32))]) [1, 0] rfl ?_
  refine l_X3_fillImages_2 E a hM r (fun m_2 hxt => ?_) 5000 (0 : Int32) hM hxt
  cases hxt
  exact hret _ _ _ (DX3_fillImages_1 5 rfl) ⟨(), rfl⟩
set_option maxRecDepth 100000 in
set_option maxHeartbeats 4000000 in
theorem t_J9_min_7cf53 (E : xE) (x0 : Int32) (x1 : Int32) {o : Int32} (hxt : xt_J9_min_7cf53 x0 x1 = some o) : xMI (S := Unit) E yJ9_min_7cf53 cJ9_min_7cf53 2 .int 0 0 0 [.int x0, .int x1] [] (fun _ => o) (fun _ => []) := by
  refine xMI.of (own := RJ9) (lo0 := [(0, .int x0), (1, .int x1)]) (by decide +kernel) rfl rfl (Nat.le_of_ble_eq_true rfl) (fun V r hret => ?_)
  unfold xt_J9_min_7cf53 at hxt
  refine r.iload_n 0 (DJ9_min_7cf53 0 rfl) rfl ?_
  refine r.iload_n 1 (DJ9_min_7cf53 1 rfl) rfl ?_
  refine r.icmp_gt 9 (DJ9_min_7cf53 2 rfl) rfl hxt (fun _ hxt => ?_) (fun _ hxt => ?_)
  · refine r.iload_n 1 (DJ9_min_7cf53 5 rfl) rfl ?_
    cases hxt
    exact hret _ _ _ _ (DJ9_min_7cf53 6 rfl) rfl ⟨(), rfl, rfl⟩
  refine r.iload_n 0 (DJ9_min_7cf53 3 rfl) rfl ?_
  refine r.goto 10 (DJ9_min_7cf53 4 rfl) rfl ?_
  cases hxt
  exact hret _ _ _ _ (DJ9_min_7cf53 6 rfl) rfl ⟨(), rfl, rfl⟩
set_option maxRecDepth 100000 in
set_option maxHeartbeats 4000000 in
theorem t_J9_max_7cf53 (E : xE) (x0 : Int32) (x1 : Int32) {o : Int32} (hxt : xt_J9_max_7cf53 x0 x1 = some o) : xMI (S := Unit) E yJ9_max_7cf53 cJ9_max_7cf53 2 .int 0 0 0 [.int x0, .int x1] [] (fun _ => o) (fun _ => []) := by
  refine xMI.of (own := RJ9) (lo0 := [(0, .int x0), (1, .int x1)]) (by decide +kernel) rfl rfl (Nat.le_of_ble_eq_true rfl) (fun V r hret => ?_)
  unfold xt_J9_max_7cf53 at hxt
  refine r.iload_n 0 (DJ9_max_7cf53 0 rfl) rfl ?_
  refine r.iload_n 1 (DJ9_max_7cf53 1 rfl) rfl ?_
  refine r.icmp_lt 9 (DJ9_max_7cf53 2 rfl) rfl hxt (fun _ hxt => ?_) (fun _ hxt => ?_)
  · refine r.iload_n 1 (DJ9_max_7cf53 5 rfl) rfl ?_
    cases hxt
    exact hret _ _ _ _ (DJ9_max_7cf53 6 rfl) rfl ⟨(), rfl, rfl⟩
  refine r.iload_n 0 (DJ9_max_7cf53 3 rfl) rfl ?_
  refine r.goto 10 (DJ9_max_7cf53 4 rfl) rfl ?_
  cases hxt
  exact hret _ _ _ _ (DJ9_max_7cf53 6 rfl) rfl ⟨(), rfl, rfl⟩
set_option maxRecDepth 100000 in
set_option maxHeartbeats 4000000 in
theorem t_X6_place (E : xE) (a : Nat → Nat) (hp0 : Nat) (x1 : Int32) (x2 : Int32) (x3 : Int32) (x4 : Int32) (sp0 : Nat → Int32) {o : (Nat → Int32)} (hxt : xt_X6_place x1 x2 x3 x4 sp0 = some o) : xMV (S := Unit) E yX6_place cX6_place 5 1 0 0 [.ref hp0, .int x1, .int x2, .int x3, .int x4] [(hp0, oX6 sp0)] (fun _ => [(hp0, oX6 o)]) := by
  refine xMV.of (own := RX6) (lo0 := [(0, .ref hp0), (1, .int x1), (2, .int x2), (3, .int x3), (4, .int x4)]) (ini := false) (fun h => nomatch h) (by decide +kernel) rfl rfl (Nat.le_of_ble_eq_true rfl) (fun V r hret => ?_)
  unfold xt_X6_place at hxt
  refine r.aload_n 0 (DX6_place 0 rfl) rfl ?_
  refine r.iload_n 1 (DX6_place 1 rfl) rfl ?_
  refine r.put (ws' := [(hp0, oX6 (upd sp0 2 x1))]) kX6 f_X6_16 0 rfl rfl rfl rfl (Nat.le_of_ble_eq_true rfl) rfl (DX6_place 2 rfl) ?_
  refine r.aload_n 0 (DX6_place 3 rfl) rfl ?_
  refine r.iload_n 2 (DX6_place 4 rfl) rfl ?_
  refine r.put (ws' := [(hp0, oX6 (upd (upd sp0 2 x1) 3 x2))]) kX6 f_X6_19 0 rfl rfl rfl rfl (Nat.le_of_ble_eq_true rfl) rfl (DX6_place 5 rfl) ?_
  refine r.aload_n 0 (DX6_place 6 rfl) rfl ?_
  refine r.iload_n 3 (DX6_place 7 rfl) rfl ?_
  refine r.iload 4 (DX6_place 8 rfl) rfl ?_
  obtain ⟨o_1, ho_1, hxt⟩ := xbd hxt
  refine r.callSI0 (t_J9_min_7cf53 E x3 x4 ho_1) g_X6_28 rfl (DX6_place 9 rfl) rfl ⟨(Nat.le_of_ble_eq_true rfl), (Nat.le_of_ble_eq_true rfl)⟩ (Nat.le_of_ble_eq_true rfl) ?_
  refine r.put (ws' := [(hp0, oX6 (upd (upd (upd sp0 2 x1) 3 x2) 4 o_1))]) kX6 f_X6_22 0 rfl rfl rfl rfl (Nat.le_of_ble_eq_true rfl) rfl (DX6_place 10 rfl) ?_
  refine r.aload_n 0 (DX6_place 11 rfl) rfl ?_
  refine r.iload_n 3 (DX6_place 12 rfl) rfl ?_
  refine r.iload 4 (DX6_place 13 rfl) rfl ?_
  obtain ⟨o_2, ho_2, hxt⟩ := xbd hxt
  refine r.callSI0 (t_J9_max_7cf53 E x3 x4 ho_2) g_X6_34 rfl (DX6_place 14 rfl) rfl ⟨(Nat.le_of_ble_eq_true rfl), (Nat.le_of_ble_eq_true rfl)⟩ (Nat.le_of_ble_eq_true rfl) ?_
  refine r.put (ws' := [(hp0, oX6 (upd (upd (upd (upd sp0 2 x1) 3 x2) 4 o_1) 5 o_2))]) kX6 f_X6_25 0 rfl rfl rfl rfl (Nat.le_of_ble_eq_true rfl) rfl (DX6_place 15 rfl) ?_
  cases hxt
  exact hret _ _ _ (DX6_place 16 rfl) ⟨(), rfl⟩
set_option maxRecDepth 100000 in
set_option maxHeartbeats 4000000 in
theorem t_X6_take (E : xE) (a : Nat → Nat) (hp0 : Nat) (hp1 : Nat) (sp0 : Nat → Int32) (sp1 : Nat → Int32) {o : (Nat → Int32)} (hxt : xt_X6_take sp0 sp1 = some o) : xMV (S := Unit) E yX6_take cX6_take 2 0 0 0 [.ref hp0, .ref hp1] [(hp0, oX6 sp0), (hp1, oX6 sp1)] (fun _ => [(hp0, oX6 o), (hp1, oX6 sp1)]) := by
  refine xMV.of (own := RX6) (lo0 := [(0, .ref hp0), (1, .ref hp1)]) (ini := false) (fun h => nomatch h) (by decide +kernel) rfl rfl (Nat.le_of_ble_eq_true rfl) (fun V r hret => ?_)
  unfold xt_X6_take at hxt
  refine r.aload_n 0 (DX6_take 0 rfl) rfl ?_
  refine r.aload_n 1 (DX6_take 1 rfl) rfl ?_
  refine r.get (v := .int (sp1 0)) kX6 f_X6_7 rfl 1 rfl rfl (DX6_take 2 rfl) ?_
  refine r.put (ws' := [(hp0, oX6 (upd sp0 0 (sp1 0))), (hp1, oX6 sp1)]) kX6 f_X6_7 0 rfl rfl rfl rfl (Nat.le_of_ble_eq_true rfl) rfl (DX6_take 3 rfl) ?_
  refine r.aload_n 0 (DX6_take 4 rfl) rfl ?_
  refine r.aload_n 1 (DX6_take 5 rfl) rfl ?_
  refine r.get (v := .int (sp1 1)) kX6 f_X6_13 rfl 1 rfl rfl (DX6_take 6 rfl) ?_
  refine r.put (ws' := [(hp0, oX6 (upd (upd sp0 0 (sp1 0)) 1 (sp1 1))), (hp1, oX6 sp1)]) kX6 f_X6_13 0 rfl rfl rfl rfl (Nat.le_of_ble_eq_true rfl) rfl (DX6_take 7 rfl) ?_
  refine r.aload_n 0 (DX6_take 8 rfl) rfl ?_
  refine r.aload_n 1 (DX6_take 9 rfl) rfl ?_
  refine r.get (v := .int (sp1 2)) kX6 f_X6_16 rfl 1 rfl rfl (DX6_take 10 rfl) ?_
  refine r.put (ws' := [(hp0, oX6 (upd (upd (upd sp0 0 (sp1 0)) 1 (sp1 1)) 2 (sp1 2))), (hp1, oX6 sp1)]) kX6 f_X6_16 0 rfl rfl rfl rfl (Nat.le_of_ble_eq_true rfl) rfl (DX6_take 11 rfl) ?_
  refine r.aload_n 0 (DX6_take 12 rfl) rfl ?_
  refine r.aload_n 1 (DX6_take 13 rfl) rfl ?_
  refine r.get (v := .int (sp1 3)) kX6 f_X6_19 rfl 1 rfl rfl (DX6_take 14 rfl) ?_
  refine r.put (ws' := [(hp0, oX6 (upd (upd (upd (upd sp0 0 (sp1 0)) 1 (sp1 1)) 2 (sp1 2)) 3 (sp1 3))), (hp1, oX6 sp1)]) kX6 f_X6_19 0 rfl rfl rfl rfl (Nat.le_of_ble_eq_true rfl) rfl (DX6_take 15 rfl) ?_
  refine r.aload_n 0 (DX6_take 16 rfl) rfl ?_
  refine r.aload_n 1 (DX6_take 17 rfl) rfl ?_
  refine r.get (v := .int (sp1 4)) kX6 f_X6_22 rfl 1 rfl rfl (DX6_take 18 rfl) ?_
  refine r.put (ws' := [(hp0, oX6 (upd (upd (upd (upd (upd sp0 0 (sp1 0)) 1 (sp1 1)) 2 (sp1 2)) 3 (sp1 3)) 4 (sp1 4))), (hp1, oX6 sp1)]) kX6 f_X6_22 0 rfl rfl rfl rfl (Nat.le_of_ble_eq_true rfl) rfl (DX6_take 19 rfl) ?_
  refine r.aload_n 0 (DX6_take 20 rfl) rfl ?_
  refine r.aload_n 1 (DX6_take 21 rfl) rfl ?_
  refine r.get (v := .int (sp1 5)) kX6 f_X6_25 rfl 1 rfl rfl (DX6_take 22 rfl) ?_
  refine r.put (ws' := [(hp0, oX6 (upd (upd (upd (upd (upd (upd sp0 0 (sp1 0)) 1 (sp1 1)) 2 (sp1 2)) 3 (sp1 3)) 4 (sp1 4)) 5 (sp1 5))), (hp1, oX6 sp1)]) kX6 f_X6_25 0 rfl rfl rfl rfl (Nat.le_of_ble_eq_true rfl) rfl (DX6_take 23 rfl) ?_
  cases hxt
  exact hret _ _ _ (DX6_take 24 rfl) ⟨(), rfl⟩
set_option maxRecDepth 100000 in
set_option maxHeartbeats 4000000 in
theorem t_X6_setting (E : xE) (a : Nat → Nat) (hp0 : Nat) (x1 : Int32) (sp0 : Nat → Int32) {o : Int32} (hxt : xt_X6_setting x1 sp0 = some o) : xMI (S := Unit) E yX6_setting cX6_setting 2 .int 0 0 0 [.ref hp0, .int x1] [(hp0, oX6 sp0)] (fun _ => o) (fun _ => [(hp0, oX6 sp0)]) := by
  refine xMI.of (own := RX6) (lo0 := [(0, .ref hp0), (1, .int x1)]) (by decide +kernel) rfl rfl (Nat.le_of_ble_eq_true rfl) (fun V r hret => ?_)
  unfold xt_X6_setting at hxt
  refine r.aload_n 0 (DX6_setting 0 rfl) rfl ?_
  refine r.get (v := .int (sp0 0)) kX6 f_X6_7 rfl 0 rfl rfl (DX6_setting 1 rfl) ?_
  refine r.iload_n 1 (DX6_setting 2 rfl) rfl ?_
  refine r.ishr (DX6_setting 3 rfl) ?_
  refine r.iconst (v := (1 : Int32)) (DX6_setting 4 rfl) rfl ?_
  refine r.iand (DX6_setting 5 rfl) ?_
  cases hxt
  exact hret _ _ _ _ (DX6_setting 6 rfl) rfl ⟨(), rfl, rfl⟩
set_option maxRecDepth 100000 in
set_option maxHeartbeats 4000000 in
theorem t_X6_change (E : xE) (a : Nat → Nat) (hp0 : Nat) (x1 : Int32) (x2 : Int32) (sp0 : Nat → Int32) {o : (Nat → Int32)} (hxt : xt_X6_change x1 x2 sp0 = some o) : xMV (S := Unit) E yX6_change cX6_change 3 0 0 0 [.ref hp0, .int x1, .int x2] [(hp0, oX6 sp0)] (fun _ => [(hp0, oX6 o)]) := by
  refine xMV.of (own := RX6) (lo0 := [(0, .ref hp0), (1, .int x1), (2, .int x2)]) (ini := false) (fun h => nomatch h) (by decide +kernel) rfl rfl (Nat.le_of_ble_eq_true rfl) (fun V r hret => ?_)
  unfold xt_X6_change at hxt
  refine r.aload_n 0 (DX6_change 0 rfl) rfl ?_
  refine r.aload_n 0 (DX6_change 1 rfl) rfl ?_
  refine r.get (v := .int (sp0 0)) kX6 f_X6_7 rfl 0 rfl rfl (DX6_change 2 rfl) ?_
  refine r.iconst (v := (1 : Int32)) (DX6_change 3 rfl) rfl ?_
  refine r.iload_n 1 (DX6_change 4 rfl) rfl ?_
  refine r.ishl (DX6_change 5 rfl) ?_
  refine r.iconst (v := (-1 : Int32)) (DX6_change 6 rfl) rfl ?_
  refine r.ixor (DX6_change 7 rfl) ?_
  refine r.iand (DX6_change 8 rfl) ?_
  refine r.iload_n 2 (DX6_change 9 rfl) rfl ?_
  refine r.iload_n 1 (DX6_change 10 rfl) rfl ?_
  refine r.ishl (DX6_change 11 rfl) ?_
  refine r.ior (DX6_change 12 rfl) ?_
  refine r.put (ws' := [(hp0, oX6 (upd sp0 0 (((sp0 0) &&& (((1 : Int32) <<< (x1 &&& 31)) ^^^ (-1 : Int32))) ||| (x2 <<< (x1 &&& 31)))))]) kX6 f_X6_7 0 rfl rfl rfl rfl (Nat.le_of_ble_eq_true rfl) rfl (DX6_change 13 rfl) ?_
  cases hxt
  exact hret _ _ _ (DX6_change 14 rfl) ⟨(), rfl⟩
set_option maxRecDepth 100000 in
set_option maxHeartbeats 4000000 in
theorem t_X3_isPlace (E : xE) (x0 : Int32) {o : Int32} (hxt : xt_X3_isPlace x0 = some o) : xMI (S := Unit) E yX3_isPlace cX3_isPlace 1 .boolean 0 0 0 [.int x0] [] (fun _ => o) (fun _ => []) := by
  refine xMI.of (own := RX3) (lo0 := [(0, .int x0)]) (by decide +kernel) rfl rfl (Nat.le_of_ble_eq_true rfl) (fun V r hret => ?_)
  unfold xt_X3_isPlace at hxt
  refine r.iload_n 0 (DX3_isPlace 0 rfl) rfl ?_
  refine r.if_lt 14 (DX3_isPlace 1 rfl) rfl hxt (fun _ hxt => ?_) (fun _ hxt => ?_)
  · refine r.iconst (v := (0 : Int32)) (DX3_isPlace 7 rfl) rfl ?_
    cases hxt
    exact hret _ _ _ _ (DX3_isPlace 8 rfl) rfl ⟨(), rfl, rfl⟩
  refine r.iload_n 0 (DX3_isPlace 2 rfl) rfl ?_
  refine r.bipush (v := (16 : Int32)) (DX3_isPlace 3 rfl) rfl ?_
  refine r.icmp_ge 14 (DX3_isPlace 4 rfl) rfl hxt (fun _ hxt => ?_) (fun _ hxt => ?_)
  · refine r.iconst (v := (0 : Int32)) (DX3_isPlace 7 rfl) rfl ?_
    cases hxt
    exact hret _ _ _ _ (DX3_isPlace 8 rfl) rfl ⟨(), rfl, rfl⟩
  refine r.iconst (v := (1 : Int32)) (DX3_isPlace 5 rfl) rfl ?_
  refine r.goto 15 (DX3_isPlace 6 rfl) rfl ?_
  cases hxt
  exact hret _ _ _ _ (DX3_isPlace 8 rfl) rfl ⟨(), rfl, rfl⟩
set_option maxRecDepth 100000 in
set_option maxHeartbeats 4000000 in
theorem t_J6_bitCount_0f7a4 (E : xE) (x0 : Int32) {o : Int32} (hxt : xt_J6_bitCount_0f7a4 x0 = some o) : xMI (S := Unit) E yJ6_bitCount_0f7a4 cJ6_bitCount_0f7a4 1 .int 0 0 0 [.int x0] [] (fun _ => o) (fun _ => []) := by
  refine xMI.of (own := RJ6) (lo0 := [(0, .int x0)]) (by decide +kernel) rfl rfl (Nat.le_of_ble_eq_true rfl) (fun V r hret => ?_)
  unfold xt_J6_bitCount_0f7a4 at hxt
  refine r.iload_n 0 (DJ6_bitCount_0f7a4 0 rfl) rfl ?_
  refine r.iload_n 0 (DJ6_bitCount_0f7a4 1 rfl) rfl ?_
  refine r.iconst (v := (1 : Int32)) (DJ6_bitCount_0f7a4 2 rfl) rfl ?_
  refine r.iushr (DJ6_bitCount_0f7a4 3 rfl) ?_
  refine r.ldc_w (v := (1431655765 : Int32)) (DJ6_bitCount_0f7a4 4 rfl) m313 ?_
  refine r.iand (DJ6_bitCount_0f7a4 5 rfl) ?_
  refine r.isub (DJ6_bitCount_0f7a4 6 rfl) ?_
  refine r.istore_n (lo' := [(0, .int (x0 - (((x0.toUInt32 >>> ((1 : Int32).toUInt32 &&& Int32.toUInt32 31)).toInt32) &&& (1431655765 : Int32))))]) (DJ6_bitCount_0f7a4 7 rfl) (Nat.le_of_ble_eq_true rfl) rfl ?_
  refine r.iload_n 0 (DJ6_bitCount_0f7a4 8 rfl) rfl ?_
  refine r.ldc_w (v := (858993459 : Int32)) (DJ6_bitCount_0f7a4 9 rfl) m314 ?_
  refine r.iand (DJ6_bitCount_0f7a4 10 rfl) ?_
  refine r.iload_n 0 (DJ6_bitCount_0f7a4 11 rfl) rfl ?_
  refine r.iconst (v := (2 : Int32)) (DJ6_bitCount_0f7a4 12 rfl) rfl ?_
  refine r.iushr (DJ6_bitCount_0f7a4 13 rfl) ?_
  refine r.ldc_w (v := (858993459 : Int32)) (DJ6_bitCount_0f7a4 14 rfl) m314 ?_
  refine r.iand (DJ6_bitCount_0f7a4 15 rfl) ?_
  refine r.iadd (DJ6_bitCount_0f7a4 16 rfl) ?_
  refine r.istore_n (lo' := [(0, .int (((x0 - (((x0.toUInt32 >>> ((1 : Int32).toUInt32 &&& Int32.toUInt32 31)).toInt32) &&& (1431655765 : Int32))) &&& (858993459 : Int32)) + ((((x0 - (((x0.toUInt32 >>> ((1 : Int32).toUInt32 &&& Int32.toUInt32 31)).toInt32) &&& (1431655765 : Int32))).toUInt32 >>> ((2 : Int32).toUInt32 &&& Int32.toUInt32 31)).toInt32) &&& (858993459 : Int32))))]) (DJ6_bitCount_0f7a4 17 rfl) (Nat.le_of_ble_eq_true rfl) rfl ?_
  refine r.iload_n 0 (DJ6_bitCount_0f7a4 18 rfl) rfl ?_
  refine r.iload_n 0 (DJ6_bitCount_0f7a4 19 rfl) rfl ?_
  refine r.iconst (v := (4 : Int32)) (DJ6_bitCount_0f7a4 20 rfl) rfl ?_
  refine r.iushr (DJ6_bitCount_0f7a4 21 rfl) ?_
  refine r.iadd (DJ6_bitCount_0f7a4 22 rfl) ?_
  refine r.ldc_w (v := (252645135 : Int32)) (DJ6_bitCount_0f7a4 23 rfl) m315 ?_
  refine r.iand (DJ6_bitCount_0f7a4 24 rfl) ?_
  refine r.istore_n (lo' := [(0, .int (((((x0 - (((x0.toUInt32 >>> ((1 : Int32).toUInt32 &&& Int32.toUInt32 31)).toInt32) &&& (1431655765 : Int32))) &&& (858993459 : Int32)) + ((((x0 - (((x0.toUInt32 >>> ((1 : Int32).toUInt32 &&& Int32.toUInt32 31)).toInt32) &&& (1431655765 : Int32))).toUInt32 >>> ((2 : Int32).toUInt32 &&& Int32.toUInt32 31)).toInt32) &&& (858993459 : Int32))) + (((((x0 - (((x0.toUInt32 >>> ((1 : Int32).toUInt32 &&& Int32.toUInt32 31)).toInt32) &&& (1431655765 : Int32))) &&& (858993459 : Int32)) + ((((x0 - (((x0.toUInt32 >>> ((1 : Int32).toUInt32 &&& Int32.toUInt32 31)).toInt32) &&& (1431655765 : Int32))).toUInt32 >>> ((2 : Int32).toUInt32 &&& Int32.toUInt32 31)).toInt32) &&& (858993459 : Int32))).toUInt32 >>> ((4 : Int32).toUInt32 &&& Int32.toUInt32 31)).toInt32)) &&& (252645135 : Int32)))]) (DJ6_bitCount_0f7a4 25 rfl) (Nat.le_of_ble_eq_true rfl) rfl ?_
  refine r.iload_n 0 (DJ6_bitCount_0f7a4 26 rfl) rfl ?_
  refine r.iload_n 0 (DJ6_bitCount_0f7a4 27 rfl) rfl ?_
  refine r.bipush (v := (8 : Int32)) (DJ6_bitCount_0f7a4 28 rfl) rfl ?_
  refine r.iushr (DJ6_bitCount_0f7a4 29 rfl) ?_
  refine r.iadd (DJ6_bitCount_0f7a4 30 rfl) ?_
  refine r.istore_n (lo' := [(0, .int ((((((x0 - (((x0.toUInt32 >>> ((1 : Int32).toUInt32 &&& Int32.toUInt32 31)).toInt32) &&& (1431655765 : Int32))) &&& (858993459 : Int32)) + ((((x0 - (((x0.toUInt32 >>> ((1 : Int32).toUInt32 &&& Int32.toUInt32 31)).toInt32) &&& (1431655765 : Int32))).toUInt32 >>> ((2 : Int32).toUInt32 &&& Int32.toUInt32 31)).toInt32) &&& (858993459 : Int32))) + (((((x0 - (((x0.toUInt32 >>> ((1 : Int32).toUInt32 &&& Int32.toUInt32 31)).toInt32) &&& (1431655765 : Int32))) &&& (858993459 : Int32)) + ((((x0 - (((x0.toUInt32 >>> ((1 : Int32).toUInt32 &&& Int32.toUInt32 31)).toInt32) &&& (1431655765 : Int32))).toUInt32 >>> ((2 : Int32).toUInt32 &&& Int32.toUInt32 31)).toInt32) &&& (858993459 : Int32))).toUInt32 >>> ((4 : Int32).toUInt32 &&& Int32.toUInt32 31)).toInt32)) &&& (252645135 : Int32)) + (((((((x0 - (((x0.toUInt32 >>> ((1 : Int32).toUInt32 &&& Int32.toUInt32 31)).toInt32) &&& (1431655765 : Int32))) &&& (858993459 : Int32)) + ((((x0 - (((x0.toUInt32 >>> ((1 : Int32).toUInt32 &&& Int32.toUInt32 31)).toInt32) &&& (1431655765 : Int32))).toUInt32 >>> ((2 : Int32).toUInt32 &&& Int32.toUInt32 31)).toInt32) &&& (858993459 : Int32))) + (((((x0 - (((x0.toUInt32 >>> ((1 : Int32).toUInt32 &&& Int32.toUInt32 31)).toInt32) &&& (1431655765 : Int32))) &&& (858993459 : Int32)) + ((((x0 - (((x0.toUInt32 >>> ((1 : Int32).toUInt32 &&& Int32.toUInt32 31)).toInt32) &&& (1431655765 : Int32))).toUInt32 >>> ((2 : Int32).toUInt32 &&& Int32.toUInt32 31)).toInt32) &&& (858993459 : Int32))).toUInt32 >>> ((4 : Int32).toUInt32 &&& Int32.toUInt32 31)).toInt32)) &&& (252645135 : Int32)).toUInt32 >>> ((8 : Int32).toUInt32 &&& Int32.toUInt32 31)).toInt32)))]) (DJ6_bitCount_0f7a4 31 rfl) (Nat.le_of_ble_eq_true rfl) rfl ?_
  refine r.iload_n 0 (DJ6_bitCount_0f7a4 32 rfl) rfl ?_
  refine r.iload_n 0 (DJ6_bitCount_0f7a4 33 rfl) rfl ?_
  refine r.bipush (v := (16 : Int32)) (DJ6_bitCount_0f7a4 34 rfl) rfl ?_
  refine r.iushr (DJ6_bitCount_0f7a4 35 rfl) ?_
  refine r.iadd (DJ6_bitCount_0f7a4 36 rfl) ?_
  refine r.istore_n (lo' := [(0, .int (((((((x0 - (((x0.toUInt32 >>> ((1 : Int32).toUInt32 &&& Int32.toUInt32 31)).toInt32) &&& (1431655765 : Int32))) &&& (858993459 : Int32)) + ((((x0 - (((x0.toUInt32 >>> ((1 : Int32).toUInt32 &&& Int32.toUInt32 31)).toInt32) &&& (1431655765 : Int32))).toUInt32 >>> ((2 : Int32).toUInt32 &&& Int32.toUInt32 31)).toInt32) &&& (858993459 : Int32))) + (((((x0 - (((x0.toUInt32 >>> ((1 : Int32).toUInt32 &&& Int32.toUInt32 31)).toInt32) &&& (1431655765 : Int32))) &&& (858993459 : Int32)) + ((((x0 - (((x0.toUInt32 >>> ((1 : Int32).toUInt32 &&& Int32.toUInt32 31)).toInt32) &&& (1431655765 : Int32))).toUInt32 >>> ((2 : Int32).toUInt32 &&& Int32.toUInt32 31)).toInt32) &&& (858993459 : Int32))).toUInt32 >>> ((4 : Int32).toUInt32 &&& Int32.toUInt32 31)).toInt32)) &&& (252645135 : Int32)) + (((((((x0 - (((x0.toUInt32 >>> ((1 : Int32).toUInt32 &&& Int32.toUInt32 31)).toInt32) &&& (1431655765 : Int32))) &&& (858993459 : Int32)) + ((((x0 - (((x0.toUInt32 >>> ((1 : Int32).toUInt32 &&& Int32.toUInt32 31)).toInt32) &&& (1431655765 : Int32))).toUInt32 >>> ((2 : Int32).toUInt32 &&& Int32.toUInt32 31)).toInt32) &&& (858993459 : Int32))) + (((((x0 - (((x0.toUInt32 >>> ((1 : Int32).toUInt32 &&& Int32.toUInt32 31)).toInt32) &&& (1431655765 : Int32))) &&& (858993459 : Int32)) + ((((x0 - (((x0.toUInt32 >>> ((1 : Int32).toUInt32 &&& Int32.toUInt32 31)).toInt32) &&& (1431655765 : Int32))).toUInt32 >>> ((2 : Int32).toUInt32 &&& Int32.toUInt32 31)).toInt32) &&& (858993459 : Int32))).toUInt32 >>> ((4 : Int32).toUInt32 &&& Int32.toUInt32 31)).toInt32)) &&& (252645135 : Int32)).toUInt32 >>> ((8 : Int32).toUInt32 &&& Int32.toUInt32 31)).toInt32)) + ((((((((x0 - (((x0.toUInt32 >>> ((1 : Int32).toUInt32 &&& Int32.toUInt32 31)).toInt32) &&& (1431655765 : Int32))) &&& (858993459 : Int32)) + ((((x0 - (((x0.toUInt32 >>> ((1 : Int32).toUInt32 &&& Int32.toUInt32 31)).toInt32) &&& (1431655765 : Int32))).toUInt32 >>> ((2 : Int32).toUInt32 &&& Int32.toUInt32 31)).toInt32) &&& (858993459 : Int32))) + (((((x0 - (((x0.toUInt32 >>> ((1 : Int32).toUInt32 &&& Int32.toUInt32 31)).toInt32) &&& (1431655765 : Int32))) &&& (858993459 : Int32)) + ((((x0 - (((x0.toUInt32 >>> ((1 : Int32).toUInt32 &&& Int32.toUInt32 31)).toInt32) &&& (1431655765 : Int32))).toUInt32 >>> ((2 : Int32).toUInt32 &&& Int32.toUInt32 31)).toInt32) &&& (858993459 : Int32))).toUInt32 >>> ((4 : Int32).toUInt32 &&& Int32.toUInt32 31)).toInt32)) &&& (252645135 : Int32)) + (((((((x0 - (((x0.toUInt32 >>> ((1 : Int32).toUInt32 &&& Int32.toUInt32 31)).toInt32) &&& (1431655765 : Int32))) &&& (858993459 : Int32)) + ((((x0 - (((x0.toUInt32 >>> ((1 : Int32).toUInt32 &&& Int32.toUInt32 31)).toInt32) &&& (1431655765 : Int32))).toUInt32 >>> ((2 : Int32).toUInt32 &&& Int32.toUInt32 31)).toInt32) &&& (858993459 : Int32))) + (((((x0 - (((x0.toUInt32 >>> ((1 : Int32).toUInt32 &&& Int32.toUInt32 31)).toInt32) &&& (1431655765 : Int32))) &&& (858993459 : Int32)) + ((((x0 - (((x0.toUInt32 >>> ((1 : Int32).toUInt32 &&& Int32.toUInt32 31)).toInt32) &&& (1431655765 : Int32))).toUInt32 >>> ((2 : Int32).toUInt32 &&& Int32.toUInt32 31)).toInt32) &&& (858993459 : Int32))).toUInt32 >>> ((4 : Int32).toUInt32 &&& Int32.toUInt32 31)).toInt32)) &&& (252645135 : Int32)).toUInt32 >>> ((8 : Int32).toUInt32 &&& Int32.toUInt32 31)).toInt32)).toUInt32 >>> ((16 : Int32).toUInt32 &&& Int32.toUInt32 31)).toInt32)))]) (DJ6_bitCount_0f7a4 37 rfl) (Nat.le_of_ble_eq_true rfl) rfl ?_
  refine r.iload_n 0 (DJ6_bitCount_0f7a4 38 rfl) rfl ?_
  refine r.bipush (v := (63 : Int32)) (DJ6_bitCount_0f7a4 39 rfl) rfl ?_
  refine r.iand (DJ6_bitCount_0f7a4 40 rfl) ?_
  cases hxt
  exact hret _ _ _ _ (DJ6_bitCount_0f7a4 41 rfl) rfl ⟨(), rfl, rfl⟩
set_option maxRecDepth 100000 in
set_option maxHeartbeats 4000000 in
theorem t_X6_hunters (E : xE) (a : Nat → Nat) (hp0 : Nat) (sp0 : Nat → Int32) {o : Int32} (hxt : xt_X6_hunters sp0 = some o) : xMI (S := Unit) E yX6_hunters cX6_hunters 1 .int 0 0 0 [.ref hp0] [(hp0, oX6 sp0)] (fun _ => o) (fun _ => [(hp0, oX6 sp0)]) := by
  refine xMI.of (own := RX6) (lo0 := [(0, .ref hp0)]) (by decide +kernel) rfl rfl (Nat.le_of_ble_eq_true rfl) (fun V r hret => ?_)
  unfold xt_X6_hunters at hxt
  refine r.iconst (v := (1 : Int32)) (DX6_hunters 0 rfl) rfl ?_
  refine r.aload_n 0 (DX6_hunters 1 rfl) rfl ?_
  refine r.get (v := .int (sp0 4)) kX6 f_X6_22 rfl 0 rfl rfl (DX6_hunters 2 rfl) ?_
  refine r.ishl (DX6_hunters 3 rfl) ?_
  refine r.iconst (v := (1 : Int32)) (DX6_hunters 4 rfl) rfl ?_
  refine r.aload_n 0 (DX6_hunters 5 rfl) rfl ?_
  refine r.get (v := .int (sp0 5)) kX6 f_X6_25 rfl 0 rfl rfl (DX6_hunters 6 rfl) ?_
  refine r.ishl (DX6_hunters 7 rfl) ?_
  refine r.ior (DX6_hunters 8 rfl) ?_
  cases hxt
  exact hret _ _ _ _ (DX6_hunters 9 rfl) rfl ⟨(), rfl, rfl⟩
set_option maxRecDepth 100000 in
set_option maxHeartbeats 4000000 in
theorem t_X6_taken (E : xE) (a : Nat → Nat) (hp0 : Nat) (sp0 : Nat → Int32) {o : Int32} (hxt : xt_X6_taken sp0 = some o) : xMI (S := Unit) E yX6_taken cX6_taken 1 .int 1 0 0 [.ref hp0] [(hp0, oX6 sp0)] (fun _ => o) (fun _ => [(hp0, oX6 sp0)]) := by
  refine xMI.of (own := RX6) (lo0 := [(0, .ref hp0)]) (by decide +kernel) rfl rfl (Nat.le_of_ble_eq_true rfl) (fun V r hret => ?_)
  unfold xt_X6_taken at hxt
  refine r.aload_n 0 (DX6_taken 0 rfl) rfl ?_
  obtain ⟨o_1, ho_1, hxt⟩ := xbd hxt
  refine r.callVI 0 rfl rfl (t_X6_hunters E a hp0 sp0 ho_1) g_X6_37 rfl (DX6_taken 1 rfl) rfl ⟨(Nat.le_of_ble_eq_true rfl), (Nat.le_of_ble_eq_true rfl)⟩ ⟨(Nat.le_of_ble_eq_true rfl), (Nat.le_of_ble_eq_true rfl)⟩ (Nat.le_of_ble_eq_true rfl) [0] [] rfl rfl rfl rfl (by decide) [0] rfl (ws2 := fun _ => [(hp0, oX6 sp0)]) (fun _ => rfl) (fun _ => ?_)
  refine r.iconst (v := (1 : Int32)) (DX6_taken 2 rfl) rfl ?_
  refine r.aload_n 0 (DX6_taken 3 rfl) rfl ?_
  refine r.get (v := .int (sp0 3)) kX6 f_X6_19 rfl 0 rfl rfl (DX6_taken 4 rfl) ?_
  refine r.ishl (DX6_taken 5 rfl) ?_
  refine r.ior (DX6_taken 6 rfl) ?_
  cases hxt
  exact hret _ _ _ _ (DX6_taken 7 rfl) rfl ⟨(), rfl, rfl⟩
set_option maxRecDepth 100000 in
set_option maxHeartbeats 4000000 in
theorem t_X6_hunterOnFox (E : xE) (a : Nat → Nat) (hp0 : Nat) (sp0 : Nat → Int32) {o : Int32} (hxt : xt_X6_hunterOnFox sp0 = some o) : xMI (S := Unit) E yX6_hunterOnFox cX6_hunterOnFox 1 .boolean 0 0 0 [.ref hp0] [(hp0, oX6 sp0)] (fun _ => o) (fun _ => [(hp0, oX6 sp0)]) := by
  refine xMI.of (own := RX6) (lo0 := [(0, .ref hp0)]) (by decide +kernel) rfl rfl (Nat.le_of_ble_eq_true rfl) (fun V r hret => ?_)
  unfold xt_X6_hunterOnFox at hxt
  refine r.aload_n 0 (DX6_hunterOnFox 0 rfl) rfl ?_
  refine r.get (v := .int (sp0 3)) kX6 f_X6_19 rfl 0 rfl rfl (DX6_hunterOnFox 1 rfl) ?_
  refine r.aload_n 0 (DX6_hunterOnFox 2 rfl) rfl ?_
  refine r.get (v := .int (sp0 4)) kX6 f_X6_22 rfl 0 rfl rfl (DX6_hunterOnFox 3 rfl) ?_
  refine r.icmp_eq 22 (DX6_hunterOnFox 4 rfl) rfl hxt (fun _ hxt => ?_) (fun _ hxt => ?_)
  · refine r.iconst (v := (1 : Int32)) (DX6_hunterOnFox 10 rfl) rfl ?_
    refine r.goto 27 (DX6_hunterOnFox 11 rfl) rfl ?_
    cases hxt
    exact hret _ _ _ _ (DX6_hunterOnFox 13 rfl) rfl ⟨(), rfl, rfl⟩
  refine r.aload_n 0 (DX6_hunterOnFox 5 rfl) rfl ?_
  refine r.get (v := .int (sp0 3)) kX6 f_X6_19 rfl 0 rfl rfl (DX6_hunterOnFox 6 rfl) ?_
  refine r.aload_n 0 (DX6_hunterOnFox 7 rfl) rfl ?_
  refine r.get (v := .int (sp0 5)) kX6 f_X6_25 rfl 0 rfl rfl (DX6_hunterOnFox 8 rfl) ?_
  refine r.icmp_ne 26 (DX6_hunterOnFox 9 rfl) rfl hxt (fun _ hxt => ?_) (fun _ hxt => ?_)
  · refine r.iconst (v := (0 : Int32)) (DX6_hunterOnFox 12 rfl) rfl ?_
    cases hxt
    exact hret _ _ _ _ (DX6_hunterOnFox 13 rfl) rfl ⟨(), rfl, rfl⟩
  refine r.iconst (v := (1 : Int32)) (DX6_hunterOnFox 10 rfl) rfl ?_
  refine r.goto 27 (DX6_hunterOnFox 11 rfl) rfl ?_
  cases hxt
  exact hret _ _ _ _ (DX6_hunterOnFox 13 rfl) rfl ⟨(), rfl, rfl⟩
set_option maxRecDepth 100000 in
set_option maxHeartbeats 4000000 in
theorem t_X3_stepsFrom (E : xE) (a : Nat → Nat) (x1 : Int32) (x2 : Int32) (hM : Mem) {o : Int32} (hxt : xt_X3_stepsFrom x1 x2 hM = some o) : xMI (S := Unit) E yX3_stepsFrom cX3_stepsFrom 4 .int 0 0 0 [.ref (a 1), .int x1, .int x2] [(a 1, oX3 a), (a 2, aI E 16 (hM 2)), (a 3, aI E 16 (hM 3))] (fun _ => o) (fun _ => [(a 1, oX3 a), (a 2, aI E 16 (hM 2)), (a 3, aI E 16 (hM 3))]) := by
  refine xMI.of (own := RX3) (lo0 := [(0, .ref (a 1)), (1, .int x1), (2, .int x2)]) (by decide +kernel) rfl rfl (Nat.le_of_ble_eq_true rfl) (fun V r hret => ?_)
  unfold xt_X3_stepsFrom at hxt
  refine r.iload_n 1 (DX3_stepsFrom 0 rfl) rfl ?_
  refine r.bipush (v := (15 : Int32)) (DX3_stepsFrom 1 rfl) rfl ?_
  refine r.iand (DX3_stepsFrom 2 rfl) ?_
  refine r.istore_n (lo' := [(3, .int (x1 &&& (15 : Int32))), (0, .ref (a 1)), (1, .int x1), (2, .int x2)]) (DX3_stepsFrom 3 rfl) (Nat.le_of_ble_eq_true rfl) rfl ?_
  refine r.iload_n 3 (DX3_stepsFrom 4 rfl) rfl ?_
  refine r.if_eq 25 (DX3_stepsFrom 5 rfl) rfl hxt (fun _ hxt => ?_) (fun _ hxt => ?_)
  · refine r.aload_n 1 (DX3_stepsFrom 16 rfl) rfl ?_
    refine r.get (v := .ref (a 2)) kX3 f_X3_9 rfl 0 rfl rfl (DX3_stepsFrom 17 rfl) ?_
    refine r.iload_n 0 (DX3_stepsFrom 18 rfl) rfl ?_
    obtain ⟨hin, hxt⟩ := xgd_some hxt
    refine r.iald 1 rfl hin (DX3_stepsFrom 19 rfl) ?_
    cases hxt
    exact hret _ _ _ _ (DX3_stepsFrom 20 rfl) rfl ⟨(), rfl, rfl⟩
  refine r.aload_n 1 (DX3_stepsFrom 6 rfl) rfl ?_
  refine r.get (v := .ref (a 2)) kX3 f_X3_9 rfl 0 rfl rfl (DX3_stepsFrom 7 rfl) ?_
  refine r.iload_n 0 (DX3_stepsFrom 8 rfl) rfl ?_
  obtain ⟨hin, hxt⟩ := xgd_some hxt
  refine r.iald 1 rfl hin (DX3_stepsFrom 9 rfl) ?_
  refine r.aload_n 1 (DX3_stepsFrom 10 rfl) rfl ?_
  refine r.get (v := .ref (a 3)) kX3 f_X3_13 rfl 0 rfl rfl (DX3_stepsFrom 11 rfl) ?_
  refine r.iload_n 0 (DX3_stepsFrom 12 rfl) rfl ?_
  obtain ⟨hin, hxt⟩ := xgd_some hxt
  refine r.iald 2 rfl hin (DX3_stepsFrom 13 rfl) ?_
  refine r.ior (DX3_stepsFrom 14 rfl) ?_
  refine r.goto 31 (DX3_stepsFrom 15 rfl) rfl ?_
  cases hxt
  exact hret _ _ _ _ (DX3_stepsFrom 20 rfl) rfl ⟨(), rfl, rfl⟩
set_option maxRecDepth 100000 in
set_option maxHeartbeats 4000000 in
theorem l_J7_fill_53178_5 (E : xE) (a : Nat → Nat) (hp0 : Nat) (Np0 : Nat) (x1 : Int32) (x3 : Int32) {V : xVT} (r : Rl E RJ7 cJ7_fill_53178 (xR 0 0 0) 4 false V) {o : (Nat → Int32)} {k : (Nat → Int32) → Option ((Nat → Int32))} (hk : ∀ (wp0 : Nat → Int32), k wp0 = some o → V 0 0 20 [] [] [(hp0, aI E Np0 wp0)]) : ∀ (n : Nat) (v2 : Int32) (wp0 : Nat → Int32), xt_J7_fill_53178_l5 Np0 x1 x3 k n v2 wp0 = some o → V 0 0 5 [(0, .ref hp0), (1, .int x1), (2, .int v2), (3, .int x3)] [] [(hp0, aI E Np0 wp0)] := by
  intro n
  induction n with
  | zero => intro v2 wp0 hxt; exact xno hxt
  | succ n ih =>
    intro v2 wp0 hxt
    rw [xt_J7_fill_53178_l5] at hxt
    refine r.iload_n 2 (DJ7_fill_53178 5 rfl) rfl ?_
    refine r.iload_n 3 (DJ7_fill_53178 6 rfl) rfl ?_
    refine r.icmp_ge 20 (DJ7_fill_53178 7 rfl) rfl hxt (fun _ hxt => ?_) (fun _ hxt => ?_)
    · refine r.rel (lo' := []) [] rfl ?_
      exact hk wp0 hxt
    refine r.aload_n 0 (DJ7_fill_53178 8 rfl) rfl ?_
    refine r.iload_n 2 (DJ7_fill_53178 9 rfl) rfl ?_
    refine r.iload_n 1 (DJ7_fill_53178 10 rfl) rfl ?_
    obtain ⟨hin, hxt⟩ := xgd_some hxt
    refine r.iast (ws' := [(hp0, aI E Np0 (upd wp0 v2.toNatClampNeg x1))]) 0 rfl hin rfl (DJ7_fill_53178 11 rfl) ?_
    refine r.iinc (v := (v2 + (1 : Int32))) (lo' := [(2, .int (v2 + (1 : Int32))), (0, .ref hp0), (1, .int x1), (3, .int x3)]) 2 (DJ7_fill_53178 12 rfl) rfl rfl (Nat.le_of_ble_eq_true rfl) rfl ?_
    refine r.goto 5 (DJ7_fill_53178 13 rfl) rfl ?_
    refine r.rel (lo' := [(0, .ref hp0), (1, .int x1), (2, .int (v2 + (1 : Int32))), (3, .int x3)]) [1, 2, 0, 3] rfl ?_
    exact ih (v2 + (1 : Int32)) (upd wp0 v2.toNatClampNeg x1) hxt
set_option maxRecDepth 100000 in
set_option maxHeartbeats 4000000 in
theorem t_J7_fill_53178 (E : xE) (a : Nat → Nat) (hp0 : Nat) (Np0 : Nat) (x1 : Int32) (sp0 : Nat → Int32) {o : (Nat → Int32)} (hxt : xt_J7_fill_53178 Np0 x1 sp0 = some o) : xMV (S := Unit) E yJ7_fill_53178 cJ7_fill_53178 4 0 0 0 [.ref hp0, .int x1] [(hp0, aI E Np0 sp0)] (fun _ => [(hp0, aI E Np0 o)]) := by
  refine xMV.of (own := RJ7) (lo0 := [(0, .ref hp0), (1, .int x1)]) (ini := false) (fun h => nomatch h) (by decide +kernel) rfl rfl (Nat.le_of_ble_eq_true rfl) (fun V r hret => ?_)
  unfold xt_J7_fill_53178 at hxt
  refine r.iconst (v := (0 : Int32)) (DJ7_fill_53178 0 rfl) rfl ?_
  refine r.istore_n (lo' := [(2, .int (0 : Int32)), (0, .ref hp0), (1, .int x1)]) (DJ7_fill_53178 1 rfl) (Nat.le_of_ble_eq_true rfl) rfl ?_
  refine r.aload_n 1 (DJ7_fill_53178 2 rfl) rfl ?_
  refine r.alen (v := (Int32.ofNat Np0)) 0 0 rfl rfl rfl (DJ7_fill_53178 3 rfl) ?_
  refine r.istore_n (lo' := [(3, .int (Int32.ofNat Np0)), (2, .int (0 : Int32)), (0, .ref hp0), (1, .int x1)]) (DJ7_fill_53178 4 rfl) (Nat.le_of_ble_eq_true rfl) rfl ?_
  refine r.rel (lo' := [(0, .ref hp0), (1, .int x1), (2, .int (0 : Int32)), (3, .int (Int32.ofNat Np0))]) [2, 3, 1, 0] rfl ?_
  refine l_J7_fill_53178_5 E a hp0 Np0 x1 (Int32.ofNat Np0) r (fun sp0_1 hxt => ?_) 5000 (0 : Int32) sp0 hxt
  cases hxt
  exact hret _ _ _ (DJ7_fill_53178 14 rfl) ⟨(), rfl⟩
set_option maxRecDepth 100000 in
set_option maxHeartbeats 4000000 in
theorem t_X3_placesOf (E : xE) (a : Nat → Nat) (x1 : Int32) (hM : Mem) {o : Int32} (hxt : xt_X3_placesOf x1 hM = some o) : xMI (S := Unit) E yX3_placesOf cX3_placesOf 2 .int 0 0 0 [.ref (a 1), .int x1] [(a 1, oX3 a), (a 7, aI E 128 (hM 7))] (fun _ => o) (fun _ => [(a 1, oX3 a), (a 7, aI E 128 (hM 7))]) := by
  refine xMI.of (own := RX3) (lo0 := [(0, .ref (a 1)), (1, .int x1)]) (by decide +kernel) rfl rfl (Nat.le_of_ble_eq_true rfl) (fun V r hret => ?_)
  unfold xt_X3_placesOf at hxt
  refine r.aload_n 0 (DX3_placesOf 0 rfl) rfl ?_
  refine r.get (v := .ref (a 7)) kX3 f_X3_25 rfl 0 rfl rfl (DX3_placesOf 1 rfl) ?_
  refine r.iload_n 1 (DX3_placesOf 2 rfl) rfl ?_
  refine r.bipush (v := (127 : Int32)) (DX3_placesOf 3 rfl) rfl ?_
  refine r.iand (DX3_placesOf 4 rfl) ?_
  obtain ⟨hin, hxt⟩ := xgd_some hxt
  refine r.iald 1 rfl hin (DX3_placesOf 5 rfl) ?_
  cases hxt
  exact hret _ _ _ _ (DX3_placesOf 6 rfl) rfl ⟨(), rfl, rfl⟩
set_option maxRecDepth 100000 in
set_option maxHeartbeats 4000000 in
theorem t_X3_lowerOf (E : xE) (a : Nat → Nat) (x1 : Int32) (hM : Mem) {o : Int32} (hxt : xt_X3_lowerOf x1 hM = some o) : xMI (S := Unit) E yX3_lowerOf cX3_lowerOf 2 .int 0 0 0 [.ref (a 1), .int x1] [(a 1, oX3 a), (a 5, aI E 128 (hM 5))] (fun _ => o) (fun _ => [(a 1, oX3 a), (a 5, aI E 128 (hM 5))]) := by
  refine xMI.of (own := RX3) (lo0 := [(0, .ref (a 1)), (1, .int x1)]) (by decide +kernel) rfl rfl (Nat.le_of_ble_eq_true rfl) (fun V r hret => ?_)
  unfold xt_X3_lowerOf at hxt
  refine r.aload_n 0 (DX3_lowerOf 0 rfl) rfl ?_
  refine r.get (v := .ref (a 5)) kX3 f_X3_19 rfl 0 rfl rfl (DX3_lowerOf 1 rfl) ?_
  refine r.iload_n 1 (DX3_lowerOf 2 rfl) rfl ?_
  refine r.bipush (v := (127 : Int32)) (DX3_lowerOf 3 rfl) rfl ?_
  refine r.iand (DX3_lowerOf 4 rfl) ?_
  obtain ⟨hin, hxt⟩ := xgd_some hxt
  refine r.iald 1 rfl hin (DX3_lowerOf 5 rfl) ?_
  cases hxt
  exact hret _ _ _ _ (DX3_lowerOf 6 rfl) rfl ⟨(), rfl, rfl⟩
set_option maxRecDepth 100000 in
set_option maxHeartbeats 4000000 in
theorem t_X3_higherOf (E : xE) (a : Nat → Nat) (x1 : Int32) (hM : Mem) {o : Int32} (hxt : xt_X3_higherOf x1 hM = some o) : xMI (S := Unit) E yX3_higherOf cX3_higherOf 2 .int 0 0 0 [.ref (a 1), .int x1] [(a 1, oX3 a), (a 6, aI E 128 (hM 6))] (fun _ => o) (fun _ => [(a 1, oX3 a), (a 6, aI E 128 (hM 6))]) := by
  refine xMI.of (own := RX3) (lo0 := [(0, .ref (a 1)), (1, .int x1)]) (by decide +kernel) rfl rfl (Nat.le_of_ble_eq_true rfl) (fun V r hret => ?_)
  unfold xt_X3_higherOf at hxt
  refine r.aload_n 0 (DX3_higherOf 0 rfl) rfl ?_
  refine r.get (v := .ref (a 6)) kX3 f_X3_22 rfl 0 rfl rfl (DX3_higherOf 1 rfl) ?_
  refine r.iload_n 1 (DX3_higherOf 2 rfl) rfl ?_
  refine r.bipush (v := (127 : Int32)) (DX3_higherOf 3 rfl) rfl ?_
  refine r.iand (DX3_higherOf 4 rfl) ?_
  obtain ⟨hin, hxt⟩ := xgd_some hxt
  refine r.iald 1 rfl hin (DX3_higherOf 5 rfl) ?_
  cases hxt
  exact hret _ _ _ _ (DX3_higherOf 6 rfl) rfl ⟨(), rfl, rfl⟩
set_option maxRecDepth 100000 in
set_option maxHeartbeats 4000000 in
theorem t_X3_pairOf (E : xE) (a : Nat → Nat) (x1 : Int32) (x2 : Int32) (hM : Mem) {o : Int32} (hxt : xt_X3_pairOf x1 x2 hM = some o) : xMI (S := Unit) E yX3_pairOf cX3_pairOf 3 .int 0 0 0 [.ref (a 1), .int x1, .int x2] [(a 1, oX3 a), (a 4, aI E 256 (hM 4))] (fun _ => o) (fun _ => [(a 1, oX3 a), (a 4, aI E 256 (hM 4))]) := by
  refine xMI.of (own := RX3) (lo0 := [(0, .ref (a 1)), (1, .int x1), (2, .int x2)]) (by decide +kernel) rfl rfl (Nat.le_of_ble_eq_true rfl) (fun V r hret => ?_)
  unfold xt_X3_pairOf at hxt
  refine r.aload_n 0 (DX3_pairOf 0 rfl) rfl ?_
  refine r.get (v := .ref (a 4)) kX3 f_X3_16 rfl 0 rfl rfl (DX3_pairOf 1 rfl) ?_
  refine r.iload_n 1 (DX3_pairOf 2 rfl) rfl ?_
  refine r.bipush (v := (15 : Int32)) (DX3_pairOf 3 rfl) rfl ?_
  refine r.iand (DX3_pairOf 4 rfl) ?_
  refine r.bipush (v := (16 : Int32)) (DX3_pairOf 5 rfl) rfl ?_
  refine r.imul (DX3_pairOf 6 rfl) ?_
  refine r.iload_n 2 (DX3_pairOf 7 rfl) rfl ?_
  refine r.bipush (v := (15 : Int32)) (DX3_pairOf 8 rfl) rfl ?_
  refine r.iand (DX3_pairOf 9 rfl) ?_
  refine r.iadd (DX3_pairOf 10 rfl) ?_
  obtain ⟨hin, hxt⟩ := xgd_some hxt
  refine r.iald 1 rfl hin (DX3_pairOf 11 rfl) ?_
  cases hxt
  exact hret _ _ _ _ (DX3_pairOf 12 rfl) rfl ⟨(), rfl, rfl⟩
set_option maxRecDepth 100000 in
set_option maxHeartbeats 4000000 in
theorem t_X3_numberOf (E : xE) (a : Nat → Nat) (x1 : Int32) (x2 : Int32) (x3 : Int32) (x4 : Int32) (hM : Mem) {o : Int32} (hxt : xt_X3_numberOf x1 x2 x3 x4 hM = some o) : xMI (S := Unit) E yX3_numberOf cX3_numberOf 5 .int 1 0 0 [.ref (a 1), .int x1, .int x2, .int x3, .int x4] [(a 1, oX3 a), (a 4, aI E 256 (hM 4))] (fun _ => o) (fun _ => [(a 1, oX3 a), (a 4, aI E 256 (hM 4))]) := by
  refine xMI.of (own := RX3) (lo0 := [(0, .ref (a 1)), (1, .int x1), (2, .int x2), (3, .int x3), (4, .int x4)]) (by decide +kernel) rfl rfl (Nat.le_of_ble_eq_true rfl) (fun V r hret => ?_)
  unfold xt_X3_numberOf at hxt
  refine r.sipush (v := (2048 : Int32)) (DX3_numberOf 0 rfl) rfl ?_
  refine r.iload_n 1 (DX3_numberOf 1 rfl) rfl ?_
  refine r.imul (DX3_numberOf 2 rfl) ?_
  refine r.sipush (v := (128 : Int32)) (DX3_numberOf 3 rfl) rfl ?_
  refine r.iload_n 2 (DX3_numberOf 4 rfl) rfl ?_
  refine r.imul (DX3_numberOf 5 rfl) ?_
  refine r.iadd (DX3_numberOf 6 rfl) ?_
  refine r.aload_n 0 (DX3_numberOf 7 rfl) rfl ?_
  refine r.iload_n 3 (DX3_numberOf 8 rfl) rfl ?_
  refine r.iload 4 (DX3_numberOf 9 rfl) rfl ?_
  obtain ⟨o_1, ho_1, hxt⟩ := xbd hxt
  refine r.callVI 0 rfl rfl (t_X3_pairOf E a x3 x4 hM ho_1) g_X3_50 rfl (DX3_numberOf 10 rfl) rfl ⟨(Nat.le_of_ble_eq_true rfl), (Nat.le_of_ble_eq_true rfl)⟩ ⟨(Nat.le_of_ble_eq_true rfl), (Nat.le_of_ble_eq_true rfl)⟩ (Nat.le_of_ble_eq_true rfl) [0, 1] [] rfl rfl rfl rfl (by decide) [0, 1] rfl (ws2 := fun _ => [(a 1, oX3 a), (a 4, aI E 256 (hM 4))]) (fun _ => rfl) (fun _ => ?_)
  refine r.iadd (DX3_numberOf 11 rfl) ?_
  cases hxt
  exact hret _ _ _ _ (DX3_numberOf 12 rfl) rfl ⟨(), rfl, rfl⟩
set_option maxRecDepth 100000 in
set_option maxHeartbeats 4000000 in
theorem t_X5_canStand (E : xE) (x0 : Int32) (x1 : Int32) {o : Int32} (hxt : xt_X5_canStand x0 x1 = some o) : xMI (S := Unit) E yX5_canStand cX5_canStand 2 .boolean 0 0 0 [.int x0, .int x1] [] (fun _ => o) (fun _ => []) := by
  refine xMI.of (own := RX5) (lo0 := [(0, .int x0), (1, .int x1)]) (by decide +kernel) rfl rfl (Nat.le_of_ble_eq_true rfl) (fun V r hret => ?_)
  unfold xt_X5_canStand at hxt
  refine r.iload_n 1 (DX5_canStand 0 rfl) rfl ?_
  refine r.bipush (v := (20 : Int32)) (DX5_canStand 1 rfl) rfl ?_
  refine r.icmp_lt 8 (DX5_canStand 2 rfl) rfl hxt (fun _ hxt => ?_) (fun _ hxt => ?_)
  · refine r.iload_n 1 (DX5_canStand 5 rfl) rfl ?_
    refine r.bipush (v := (19 : Int32)) (DX5_canStand 6 rfl) rfl ?_
    refine r.icmp_ne 32 (DX5_canStand 7 rfl) rfl hxt (fun _ hxt => ?_) (fun _ hxt => ?_)
    · refine r.iload_n 1 (DX5_canStand 18 rfl) rfl ?_
      refine r.iconst (v := (5 : Int32)) (DX5_canStand 19 rfl) rfl ?_
      refine r.irem (DX5_canStand 20 rfl) (by decide) ?_
      refine r.iconst (v := (4 : Int32)) (DX5_canStand 21 rfl) rfl ?_
      refine r.icmp_ne 51 (DX5_canStand 22 rfl) rfl hxt (fun _ hxt => ?_) (fun _ hxt => ?_)
      · refine r.iload_n 0 (DX5_canStand 30 rfl) rfl ?_
        refine r.bipush (v := (46 : Int32)) (DX5_canStand 31 rfl) rfl ?_
        refine r.icmp_eq 75 (DX5_canStand 32 rfl) rfl hxt (fun _ hxt => ?_) (fun _ hxt => ?_)
        · refine r.iconst (v := (1 : Int32)) (DX5_canStand 42 rfl) rfl ?_
          refine r.goto 80 (DX5_canStand 43 rfl) rfl ?_
          cases hxt
          exact hret _ _ _ _ (DX5_canStand 45 rfl) rfl ⟨(), rfl, rfl⟩
        refine r.iload_n 0 (DX5_canStand 33 rfl) rfl ?_
        refine r.bipush (v := (35 : Int32)) (DX5_canStand 34 rfl) rfl ?_
        refine r.icmp_eq 75 (DX5_canStand 35 rfl) rfl hxt (fun _ hxt => ?_) (fun _ hxt => ?_)
        · refine r.iconst (v := (1 : Int32)) (DX5_canStand 42 rfl) rfl ?_
          refine r.goto 80 (DX5_canStand 43 rfl) rfl ?_
          cases hxt
          exact hret _ _ _ _ (DX5_canStand 45 rfl) rfl ⟨(), rfl, rfl⟩
        refine r.iload_n 0 (DX5_canStand 36 rfl) rfl ?_
        refine r.bipush (v := (70 : Int32)) (DX5_canStand 37 rfl) rfl ?_
        refine r.icmp_eq 75 (DX5_canStand 38 rfl) rfl hxt (fun _ hxt => ?_) (fun _ hxt => ?_)
        · refine r.iconst (v := (1 : Int32)) (DX5_canStand 42 rfl) rfl ?_
          refine r.goto 80 (DX5_canStand 43 rfl) rfl ?_
          cases hxt
          exact hret _ _ _ _ (DX5_canStand 45 rfl) rfl ⟨(), rfl, rfl⟩
        refine r.iload_n 0 (DX5_canStand 39 rfl) rfl ?_
        refine r.bipush (v := (72 : Int32)) (DX5_canStand 40 rfl) rfl ?_
        refine r.icmp_ne 79 (DX5_canStand 41 rfl) rfl hxt (fun _ hxt => ?_) (fun _ hxt => ?_)
        · refine r.iconst (v := (0 : Int32)) (DX5_canStand 44 rfl) rfl ?_
          cases hxt
          exact hret _ _ _ _ (DX5_canStand 45 rfl) rfl ⟨(), rfl, rfl⟩
        refine r.iconst (v := (1 : Int32)) (DX5_canStand 42 rfl) rfl ?_
        refine r.goto 80 (DX5_canStand 43 rfl) rfl ?_
        cases hxt
        exact hret _ _ _ _ (DX5_canStand 45 rfl) rfl ⟨(), rfl, rfl⟩
      refine r.iload_n 0 (DX5_canStand 23 rfl) rfl ?_
      refine r.bipush (v := (47 : Int32)) (DX5_canStand 24 rfl) rfl ?_
      refine r.icmp_ne 49 (DX5_canStand 25 rfl) rfl hxt (fun _ hxt => ?_) (fun _ hxt => ?_)
      · refine r.iconst (v := (0 : Int32)) (DX5_canStand 28 rfl) rfl ?_
        cases hxt
        exact hret _ _ _ _ (DX5_canStand 29 rfl) rfl ⟨(), rfl, rfl⟩
      refine r.iconst (v := (1 : Int32)) (DX5_canStand 26 rfl) rfl ?_
      refine r.goto 50 (DX5_canStand 27 rfl) rfl ?_
      cases hxt
      exact hret _ _ _ _ (DX5_canStand 29 rfl) rfl ⟨(), rfl, rfl⟩
    refine r.iload_n 0 (DX5_canStand 8 rfl) rfl ?_
    refine r.bipush (v := (104 : Int32)) (DX5_canStand 9 rfl) rfl ?_
    refine r.icmp_eq 26 (DX5_canStand 10 rfl) rfl hxt (fun _ hxt => ?_) (fun _ hxt => ?_)
    · refine r.iconst (v := (1 : Int32)) (DX5_canStand 14 rfl) rfl ?_
      refine r.goto 31 (DX5_canStand 15 rfl) rfl ?_
      cases hxt
      exact hret _ _ _ _ (DX5_canStand 17 rfl) rfl ⟨(), rfl, rfl⟩
    refine r.iload_n 0 (DX5_canStand 11 rfl) rfl ?_
    refine r.bipush (v := (102 : Int32)) (DX5_canStand 12 rfl) rfl ?_
    refine r.icmp_ne 30 (DX5_canStand 13 rfl) rfl hxt (fun _ hxt => ?_) (fun _ hxt => ?_)
    · refine r.iconst (v := (0 : Int32)) (DX5_canStand 16 rfl) rfl ?_
      cases hxt
      exact hret _ _ _ _ (DX5_canStand 17 rfl) rfl ⟨(), rfl, rfl⟩
    refine r.iconst (v := (1 : Int32)) (DX5_canStand 14 rfl) rfl ?_
    refine r.goto 31 (DX5_canStand 15 rfl) rfl ?_
    cases hxt
    exact hret _ _ _ _ (DX5_canStand 17 rfl) rfl ⟨(), rfl, rfl⟩
  refine r.iconst (v := (0 : Int32)) (DX5_canStand 3 rfl) rfl ?_
  cases hxt
  exact hret _ _ _ _ (DX5_canStand 4 rfl) rfl ⟨(), rfl, rfl⟩
set_option maxRecDepth 100000 in
set_option maxHeartbeats 4000000 in
theorem l_X5_firstFault_2 (E : xE) (a : Nat → Nat) (hM : Mem) {V : xVT} (r : Rl E RX5 cX5_firstFault (xR 1 0 0) 2 false V) {o : Int32} (hret : RtI cX5_firstFault V .int 0 0 (fun v ws => ∃ u : Unit, v = o ∧ ws = [(a 25, oX5 a (hM 25)), (a 26, aC E 24 (hM 26))])) {k : Unit → Option (Int32)} (hk : ∀ (_ : Unit), k () = some o → V 0 0 31 [(0, .ref (a 25))] [] [(a 25, oX5 a (hM 25)), (a 26, aC E 24 (hM 26))]) : ∀ (n : Nat) (v1 : Int32), xt_X5_firstFault_l2 hM k n v1 = some o → V 0 0 2 [(0, .ref (a 25)), (1, .int v1)] [] [(a 25, oX5 a (hM 25)), (a 26, aC E 24 (hM 26))] := by
  intro n
  induction n with
  | zero => intro v1 hxt; exact xno hxt
  | succ n ih =>
    intro v1 hxt
    rw [xt_X5_firstFault_l2] at hxt
    refine r.iload_n 1 (DX5_firstFault 2 rfl) rfl ?_
    refine r.aload_n 0 (DX5_firstFault 3 rfl) rfl ?_
    refine r.get (v := .int ((hM 25) 1)) kX5 f_X5_15 rfl 0 rfl rfl (DX5_firstFault 4 rfl) ?_
    refine r.icmp_ge 31 (DX5_firstFault 5 rfl) rfl hxt (fun _ hxt => ?_) (fun _ hxt => ?_)
    · refine r.rel (lo' := [(0, .ref (a 25))]) [0] rfl ?_
      exact hk () hxt
    refine r.aload_n 0 (DX5_firstFault 6 rfl) rfl ?_
    refine r.get (v := .ref (a 26)) kX5 f_X5_11 rfl 0 rfl rfl (DX5_firstFault 7 rfl) ?_
    refine r.iload_n 1 (DX5_firstFault 8 rfl) rfl ?_
    obtain ⟨hin, hxt⟩ := xgd_some hxt
    refine r.cald 1 rfl hin (DX5_firstFault 9 rfl) ?_
    refine r.iload_n 1 (DX5_firstFault 10 rfl) rfl ?_
    obtain ⟨o_1, ho_1, hxt⟩ := xbd hxt
    refine r.callSI0 (t_X5_canStand E ((hM 26) v1.toNatClampNeg) v1 ho_1) g_X5_21 rfl (DX5_firstFault 11 rfl) rfl ⟨(Nat.le_of_ble_eq_true rfl), (Nat.le_of_ble_eq_true rfl)⟩ (Nat.le_of_ble_eq_true rfl) ?_
    refine r.if_ne 25 (DX5_firstFault 12 rfl) rfl hxt (fun _ hxt => ?_) (fun _ hxt => ?_)
    · refine r.iinc (v := (v1 + (1 : Int32))) (lo' := [(1, .int (v1 + (1 : Int32))), (0, .ref (a 25))]) 1 (DX5_firstFault 15 rfl) rfl rfl (Nat.le_of_ble_eq_true rfl) rfl ?_
      refine r.goto 2 (DX5_firstFault 16 rfl) rfl ?_
      refine r.rel (lo' := [(0, .ref (a 25)), (1, .int (v1 + (1 : Int32)))]) [1, 0] rfl ?_
      exact ih (v1 + (1 : Int32)) hxt
    refine r.iload_n 1 (DX5_firstFault 13 rfl) rfl ?_
    cases hxt
    exact hret _ _ _ _ (DX5_firstFault 14 rfl) rfl ⟨(), rfl, rfl⟩
set_option maxRecDepth 100000 in
set_option maxHeartbeats 4000000 in
theorem t_X5_firstFault (E : xE) (a : Nat → Nat) (hM : Mem) {o : Int32} (hxt : xt_X5_firstFault hM = some o) : xMI (S := Unit) E yX5_firstFault cX5_firstFault 2 .int 1 0 0 [.ref (a 25)] [(a 25, oX5 a (hM 25)), (a 26, aC E 24 (hM 26))] (fun _ => o) (fun _ => [(a 25, oX5 a (hM 25)), (a 26, aC E 24 (hM 26))]) := by
  refine xMI.of (own := RX5) (lo0 := [(0, .ref (a 25))]) (by decide +kernel) rfl rfl (Nat.le_of_ble_eq_true rfl) (fun V r hret => ?_)
  unfold xt_X5_firstFault at hxt
  refine r.iconst (v := (0 : Int32)) (DX5_firstFault 0 rfl) rfl ?_
  refine r.istore_n (lo' := [(1, .int (0 : Int32)), (0, .ref (a 25))]) (DX5_firstFault 1 rfl) (Nat.le_of_ble_eq_true rfl) rfl ?_
  refine r.rel (lo' := [(0, .ref (a 25)), (1, .int (0 : Int32))]) [1, 0] rfl ?_
  refine l_X5_firstFault_2 E a hM r hret (fun _ hxt => ?_) 5000 (0 : Int32) hxt
  refine r.aload_n 0 (DX5_firstFault 17 rfl) rfl ?_
  refine r.get (v := .int ((hM 25) 1)) kX5 f_X5_15 rfl 0 rfl rfl (DX5_firstFault 18 rfl) ?_
  refine r.bipush (v := (20 : Int32)) (DX5_firstFault 19 rfl) rfl ?_
  refine r.icmp_ge 47 (DX5_firstFault 20 rfl) rfl hxt (fun _ hxt => ?_) (fun _ hxt => ?_)
  · refine r.bipush (v := (-6 : Int32)) (DX5_firstFault 24 rfl) rfl ?_
    cases hxt
    exact hret _ _ _ _ (DX5_firstFault 25 rfl) rfl ⟨(), rfl, rfl⟩
  refine r.aload_n 0 (DX5_firstFault 21 rfl) rfl ?_
  refine r.get (v := .int ((hM 25) 1)) kX5 f_X5_15 rfl 0 rfl rfl (DX5_firstFault 22 rfl) ?_
  refine r.goto 49 (DX5_firstFault 23 rfl) rfl ?_
  cases hxt
  exact hret _ _ _ _ (DX5_firstFault 25 rfl) rfl ⟨(), rfl, rfl⟩
set_option maxRecDepth 100000 in
set_option maxHeartbeats 4000000 in
theorem l_X5_placesOf_4 (E : xE) (a : Nat → Nat) (x1 : Int32) (hM : Mem) {V : xVT} (r : Rl E RX5 cX5_placesOf (xR 0 0 0) 4 false V) {o : Int32} {k : Int32 → Option (Int32)} (hk : ∀ (v2 : Int32), k v2 = some o → V 0 0 36 [(2, .int v2)] [] [(a 25, oX5 a (hM 25)), (a 26, aC E 24 (hM 26))]) : ∀ (n : Nat) (v2 : Int32) (v3 : Int32), xt_X5_placesOf_l4 x1 hM k n v2 v3 = some o → V 0 0 4 [(0, .ref (a 25)), (1, .int x1), (2, .int v2), (3, .int v3)] [] [(a 25, oX5 a (hM 25)), (a 26, aC E 24 (hM 26))] := by
  intro n
  induction n with
  | zero => intro v2 v3 hxt; exact xno hxt
  | succ n ih =>
    intro v2 v3 hxt
    rw [xt_X5_placesOf_l4] at hxt
    refine r.iload_n 3 (DX5_placesOf 4 rfl) rfl ?_
    refine r.bipush (v := (16 : Int32)) (DX5_placesOf 5 rfl) rfl ?_
    refine r.icmp_ge 36 (DX5_placesOf 6 rfl) rfl hxt (fun _ hxt => ?_) (fun _ hxt => ?_)
    · refine r.rel (lo' := [(2, .int v2)]) [2] rfl ?_
      exact hk v2 hxt
    refine r.aload_n 0 (DX5_placesOf 7 rfl) rfl ?_
    refine r.get (v := .ref (a 26)) kX5 f_X5_11 rfl 0 rfl rfl (DX5_placesOf 8 rfl) ?_
    refine r.iload_n 3 (DX5_placesOf 9 rfl) rfl ?_
    refine r.iload_n 3 (DX5_placesOf 10 rfl) rfl ?_
    refine r.iconst (v := (4 : Int32)) (DX5_placesOf 11 rfl) rfl ?_
    refine r.idiv (DX5_placesOf 12 rfl) (by decide) ?_
    refine r.iadd (DX5_placesOf 13 rfl) ?_
    obtain ⟨hin, hxt⟩ := xgd_some hxt
    refine r.cald 1 rfl hin (DX5_placesOf 14 rfl) ?_
    refine r.iload_n 1 (DX5_placesOf 15 rfl) rfl ?_
    refine r.icmp_ne 30 (DX5_placesOf 16 rfl) rfl hxt (fun _ hxt => ?_) (fun _ hxt => ?_)
    · refine r.iinc (v := (v3 + (1 : Int32))) (lo' := [(3, .int (v3 + (1 : Int32))), (0, .ref (a 25)), (1, .int x1), (2, .int v2)]) 3 (DX5_placesOf 23 rfl) rfl rfl (Nat.le_of_ble_eq_true rfl) rfl ?_
      refine r.goto 4 (DX5_placesOf 24 rfl) rfl ?_
      refine r.rel (lo' := [(0, .ref (a 25)), (1, .int x1), (2, .int v2), (3, .int (v3 + (1 : Int32)))]) [1, 2, 3, 0] rfl ?_
      exact ih v2 (v3 + (1 : Int32)) hxt
    refine r.iload_n 2 (DX5_placesOf 17 rfl) rfl ?_
    refine r.iconst (v := (1 : Int32)) (DX5_placesOf 18 rfl) rfl ?_
    refine r.iload_n 3 (DX5_placesOf 19 rfl) rfl ?_
    refine r.ishl (DX5_placesOf 20 rfl) ?_
    refine r.ior (DX5_placesOf 21 rfl) ?_
    refine r.istore_n (lo' := [(2, .int (v2 ||| ((1 : Int32) <<< (v3 &&& 31)))), (0, .ref (a 25)), (1, .int x1), (3, .int v3)]) (DX5_placesOf 22 rfl) (Nat.le_of_ble_eq_true rfl) rfl ?_
    refine r.iinc (v := (v3 + (1 : Int32))) (lo' := [(3, .int (v3 + (1 : Int32))), (2, .int (v2 ||| ((1 : Int32) <<< (v3 &&& 31)))), (0, .ref (a 25)), (1, .int x1)]) 3 (DX5_placesOf 23 rfl) rfl rfl (Nat.le_of_ble_eq_true rfl) rfl ?_
    refine r.goto 4 (DX5_placesOf 24 rfl) rfl ?_
    refine r.rel (lo' := [(0, .ref (a 25)), (1, .int x1), (2, .int (v2 ||| ((1 : Int32) <<< (v3 &&& 31)))), (3, .int (v3 + (1 : Int32)))]) [2, 3, 1, 0] rfl ?_
    exact ih (v2 ||| ((1 : Int32) <<< (v3 &&& 31))) (v3 + (1 : Int32)) hxt
set_option maxRecDepth 100000 in
set_option maxHeartbeats 4000000 in
theorem t_X5_placesOf (E : xE) (a : Nat → Nat) (x1 : Int32) (hM : Mem) {o : Int32} (hxt : xt_X5_placesOf x1 hM = some o) : xMI (S := Unit) E yX5_placesOf cX5_placesOf 4 .int 0 0 0 [.ref (a 25), .int x1] [(a 25, oX5 a (hM 25)), (a 26, aC E 24 (hM 26))] (fun _ => o) (fun _ => [(a 25, oX5 a (hM 25)), (a 26, aC E 24 (hM 26))]) := by
  refine xMI.of (own := RX5) (lo0 := [(0, .ref (a 25)), (1, .int x1)]) (by decide +kernel) rfl rfl (Nat.le_of_ble_eq_true rfl) (fun V r hret => ?_)
  unfold xt_X5_placesOf at hxt
  refine r.iconst (v := (0 : Int32)) (DX5_placesOf 0 rfl) rfl ?_
  refine r.istore_n (lo' := [(2, .int (0 : Int32)), (0, .ref (a 25)), (1, .int x1)]) (DX5_placesOf 1 rfl) (Nat.le_of_ble_eq_true rfl) rfl ?_
  refine r.iconst (v := (0 : Int32)) (DX5_placesOf 2 rfl) rfl ?_
  refine r.istore_n (lo' := [(3, .int (0 : Int32)), (2, .int (0 : Int32)), (0, .ref (a 25)), (1, .int x1)]) (DX5_placesOf 3 rfl) (Nat.le_of_ble_eq_true rfl) rfl ?_
  refine r.rel (lo' := [(0, .ref (a 25)), (1, .int x1), (2, .int (0 : Int32)), (3, .int (0 : Int32))]) [2, 3, 1, 0] rfl ?_
  refine l_X5_placesOf_4 E a x1 hM r (fun v2_1 hxt => ?_) 5000 (0 : Int32) (0 : Int32) hxt
  refine r.iload_n 0 (DX5_placesOf 25 rfl) rfl ?_
  cases hxt
  exact hret _ _ _ _ (DX5_placesOf 26 rfl) rfl ⟨(), rfl, rfl⟩
set_option maxRecDepth 100000 in
set_option maxHeartbeats 4000000 in
theorem t_X5_foxMoves (E : xE) (a : Nat → Nat) (hM : Mem) {o : Int32} (hxt : xt_X5_foxMoves hM = some o) : xMI (S := Unit) E yX5_foxMoves cX5_foxMoves 1 .boolean 0 0 0 [.ref (a 25)] [(a 25, oX5 a (hM 25)), (a 26, aC E 24 (hM 26))] (fun _ => o) (fun _ => [(a 25, oX5 a (hM 25)), (a 26, aC E 24 (hM 26))]) := by
  refine xMI.of (own := RX5) (lo0 := [(0, .ref (a 25))]) (by decide +kernel) rfl rfl (Nat.le_of_ble_eq_true rfl) (fun V r hret => ?_)
  unfold xt_X5_foxMoves at hxt
  refine r.aload_n 0 (DX5_foxMoves 0 rfl) rfl ?_
  refine r.get (v := .ref (a 26)) kX5 f_X5_11 rfl 0 rfl rfl (DX5_foxMoves 1 rfl) ?_
  refine r.bipush (v := (19 : Int32)) (DX5_foxMoves 2 rfl) rfl ?_
  obtain ⟨hin, hxt⟩ := xgd_some hxt
  refine r.cald 1 rfl hin (DX5_foxMoves 3 rfl) ?_
  refine r.bipush (v := (102 : Int32)) (DX5_foxMoves 4 rfl) rfl ?_
  refine r.icmp_ne 16 (DX5_foxMoves 5 rfl) rfl hxt (fun _ hxt => ?_) (fun _ hxt => ?_)
  · refine r.iconst (v := (0 : Int32)) (DX5_foxMoves 8 rfl) rfl ?_
    cases hxt
    exact hret _ _ _ _ (DX5_foxMoves 9 rfl) rfl ⟨(), rfl, rfl⟩
  refine r.iconst (v := (1 : Int32)) (DX5_foxMoves 6 rfl) rfl ?_
  refine r.goto 17 (DX5_foxMoves 7 rfl) rfl ?_
  cases hxt
  exact hret _ _ _ _ (DX5_foxMoves 9 rfl) rfl ⟨(), rfl, rfl⟩
set_option maxRecDepth 100000 in
set_option maxHeartbeats 4000000 in
theorem l_X3_lowest_2 (E : xE) (x0 : Int32) {V : xVT} (r : Rl E RX3 cX3_lowest (xR 0 0 0) 2 false V) {o : Int32} (hret : RtI cX3_lowest V .int 0 0 (fun v ws => ∃ u : Unit, v = o ∧ ws = [])) {k : Unit → Option (Int32)} (hk : ∀ (_ : Unit), k () = some o → V 0 0 24 [] [] []) : ∀ (n : Nat) (v1 : Int32), xt_X3_lowest_l2 x0 k n v1 = some o → V 0 0 2 [(0, .int x0), (1, .int v1)] [] [] := by
  intro n
  induction n with
  | zero => intro v1 hxt; exact xno hxt
  | succ n ih =>
    intro v1 hxt
    rw [xt_X3_lowest_l2] at hxt
    refine r.iload_n 1 (DX3_lowest 2 rfl) rfl ?_
    refine r.bipush (v := (16 : Int32)) (DX3_lowest 3 rfl) rfl ?_
    refine r.icmp_ge 24 (DX3_lowest 4 rfl) rfl hxt (fun _ hxt => ?_) (fun _ hxt => ?_)
    · refine r.rel (lo' := []) [] rfl ?_
      exact hk () hxt
    refine r.iload_n 0 (DX3_lowest 5 rfl) rfl ?_
    refine r.iload_n 1 (DX3_lowest 6 rfl) rfl ?_
    refine r.ishr (DX3_lowest 7 rfl) ?_
    refine r.iconst (v := (1 : Int32)) (DX3_lowest 8 rfl) rfl ?_
    refine r.iand (DX3_lowest 9 rfl) ?_
    refine r.if_eq 18 (DX3_lowest 10 rfl) rfl hxt (fun _ hxt => ?_) (fun _ hxt => ?_)
    · refine r.iinc (v := (v1 + (1 : Int32))) (lo' := [(1, .int (v1 + (1 : Int32))), (0, .int x0)]) 1 (DX3_lowest 13 rfl) rfl rfl (Nat.le_of_ble_eq_true rfl) rfl ?_
      refine r.goto 2 (DX3_lowest 14 rfl) rfl ?_
      refine r.rel (lo' := [(0, .int x0), (1, .int (v1 + (1 : Int32)))]) [1, 0] rfl ?_
      exact ih (v1 + (1 : Int32)) hxt
    refine r.iload_n 1 (DX3_lowest 11 rfl) rfl ?_
    cases hxt
    exact hret _ _ _ _ (DX3_lowest 12 rfl) rfl ⟨(), rfl, rfl⟩
set_option maxRecDepth 100000 in
set_option maxHeartbeats 4000000 in
theorem t_X3_lowest (E : xE) (x0 : Int32) {o : Int32} (hxt : xt_X3_lowest x0 = some o) : xMI (S := Unit) E yX3_lowest cX3_lowest 2 .int 0 0 0 [.int x0] [] (fun _ => o) (fun _ => []) := by
  refine xMI.of (own := RX3) (lo0 := [(0, .int x0)]) (by decide +kernel) rfl rfl (Nat.le_of_ble_eq_true rfl) (fun V r hret => ?_)
  unfold xt_X3_lowest at hxt
  refine r.iconst (v := (0 : Int32)) (DX3_lowest 0 rfl) rfl ?_
  refine r.istore_n (lo' := [(1, .int (0 : Int32)), (0, .int x0)]) (DX3_lowest 1 rfl) (Nat.le_of_ble_eq_true rfl) rfl ?_
  refine r.rel (lo' := [(0, .int x0), (1, .int (0 : Int32))]) [1, 0] rfl ?_
  refine l_X3_lowest_2 E x0 r hret (fun _ hxt => ?_) 5000 (0 : Int32) hxt
  refine r.iconst (v := (0 : Int32)) (DX3_lowest 15 rfl) rfl ?_
  cases hxt
  exact hret _ _ _ _ (DX3_lowest 16 rfl) rfl ⟨(), rfl, rfl⟩
set_option maxRecDepth 100000 in
set_option maxHeartbeats 4000000 in
theorem l_X3_highest_3 (E : xE) (x0 : Int32) {V : xVT} (r : Rl E RX3 cX3_highest (xR 0 0 0) 2 false V) {o : Int32} (hret : RtI cX3_highest V .int 0 0 (fun v ws => ∃ u : Unit, v = o ∧ ws = [])) {k : Unit → Option (Int32)} (hk : ∀ (_ : Unit), k () = some o → V 0 0 23 [] [] []) : ∀ (n : Nat) (v1 : Int32), xt_X3_highest_l3 x0 k n v1 = some o → V 0 0 3 [(0, .int x0), (1, .int v1)] [] [] := by
  intro n
  induction n with
  | zero => intro v1 hxt; exact xno hxt
  | succ n ih =>
    intro v1 hxt
    rw [xt_X3_highest_l3] at hxt
    refine r.iload_n 1 (DX3_highest 2 rfl) rfl ?_
    refine r.if_le 23 (DX3_highest 3 rfl) rfl hxt (fun _ hxt => ?_) (fun _ hxt => ?_)
    · refine r.rel (lo' := []) [] rfl ?_
      exact hk () hxt
    refine r.iload_n 0 (DX3_highest 4 rfl) rfl ?_
    refine r.iload_n 1 (DX3_highest 5 rfl) rfl ?_
    refine r.ishr (DX3_highest 6 rfl) ?_
    refine r.iconst (v := (1 : Int32)) (DX3_highest 7 rfl) rfl ?_
    refine r.iand (DX3_highest 8 rfl) ?_
    refine r.if_eq 17 (DX3_highest 9 rfl) rfl hxt (fun _ hxt => ?_) (fun _ hxt => ?_)
    · refine r.iinc (v := (v1 + (-1 : Int32))) (lo' := [(1, .int (v1 + (-1 : Int32))), (0, .int x0)]) 1 (DX3_highest 12 rfl) rfl rfl (Nat.le_of_ble_eq_true rfl) rfl ?_
      refine r.goto 3 (DX3_highest 13 rfl) rfl ?_
      refine r.rel (lo' := [(0, .int x0), (1, .int (v1 + (-1 : Int32)))]) [1, 0] rfl ?_
      exact ih (v1 + (-1 : Int32)) hxt
    refine r.iload_n 1 (DX3_highest 10 rfl) rfl ?_
    cases hxt
    exact hret _ _ _ _ (DX3_highest 11 rfl) rfl ⟨(), rfl, rfl⟩
set_option maxRecDepth 100000 in
set_option maxHeartbeats 4000000 in
theorem t_X3_highest (E : xE) (x0 : Int32) {o : Int32} (hxt : xt_X3_highest x0 = some o) : xMI (S := Unit) E yX3_highest cX3_highest 2 .int 0 0 0 [.int x0] [] (fun _ => o) (fun _ => []) := by
  refine xMI.of (own := RX3) (lo0 := [(0, .int x0)]) (by decide +kernel) rfl rfl (Nat.le_of_ble_eq_true rfl) (fun V r hret => ?_)
  unfold xt_X3_highest at hxt
  refine r.bipush (v := (15 : Int32)) (DX3_highest 0 rfl) rfl ?_
  refine r.istore_n (lo' := [(1, .int (15 : Int32)), (0, .int x0)]) (DX3_highest 1 rfl) (Nat.le_of_ble_eq_true rfl) rfl ?_
  refine r.rel (lo' := [(0, .int x0), (1, .int (15 : Int32))]) [1, 0] rfl ?_
  refine l_X3_highest_3 E x0 r hret (fun _ hxt => ?_) 5000 (15 : Int32) hxt
  refine r.iconst (v := (0 : Int32)) (DX3_highest 14 rfl) rfl ?_
  cases hxt
  exact hret _ _ _ _ (DX3_highest 15 rfl) rfl ⟨(), rfl, rfl⟩
set_option maxRecDepth 100000 in
set_option maxHeartbeats 4000000 in
theorem t_X5_empty (E : xE) (a : Nat → Nat) (hM : Mem) {o : Mem} (hxt : xt_X5_empty hM = some o) : xMV (S := Unit) E yX5_empty cX5_empty 1 0 0 0 [.ref (a 25)] [(a 25, oX5 a (hM 25))] (fun _ => [(a 25, oX5 a (o 25))]) := by
  refine xMV.of (own := RX5) (lo0 := [(0, .ref (a 25))]) (ini := false) (fun h => nomatch h) (by decide +kernel) rfl rfl (Nat.le_of_ble_eq_true rfl) (fun V r hret => ?_)
  unfold xt_X5_empty at hxt
  refine r.aload_n 0 (DX5_empty 0 rfl) rfl ?_
  refine r.iconst (v := (0 : Int32)) (DX5_empty 1 rfl) rfl ?_
  refine r.put (ws' := [(a 25, oX5 a (upd (hM 25) 1 (0 : Int32)))]) kX5 f_X5_15 0 rfl rfl rfl rfl (Nat.le_of_ble_eq_true rfl) rfl (DX5_empty 2 rfl) ?_
  cases hxt
  exact hret _ _ _ (DX5_empty 3 rfl) ⟨(), rfl⟩
set_option maxRecDepth 100000 in
set_option maxHeartbeats 4000000 in
theorem t_X3_image (E : xE) (a : Nat → Nat) (x1 : Int32) (x2 : Int32) (hM : Mem) {o : Int32} (hxt : xt_X3_image x1 x2 hM = some o) : xMI (S := Unit) E yX3_image cX3_image 3 .int 0 0 0 [.ref (a 1), .int x1, .int x2] [(a 1, oX3 a), (a 8, aI E 128 (hM 8))] (fun _ => o) (fun _ => [(a 1, oX3 a), (a 8, aI E 128 (hM 8))]) := by
  refine xMI.of (own := RX3) (lo0 := [(0, .ref (a 1)), (1, .int x1), (2, .int x2)]) (by decide +kernel) rfl rfl (Nat.le_of_ble_eq_true rfl) (fun V r hret => ?_)
  unfold xt_X3_image at hxt
  refine r.aload_n 0 (DX3_image 0 rfl) rfl ?_
  refine r.get (v := .ref (a 8)) kX3 f_X3_28 rfl 0 rfl rfl (DX3_image 1 rfl) ?_
  refine r.iload_n 1 (DX3_image 2 rfl) rfl ?_
  refine r.bipush (v := (7 : Int32)) (DX3_image 3 rfl) rfl ?_
  refine r.iand (DX3_image 4 rfl) ?_
  refine r.bipush (v := (16 : Int32)) (DX3_image 5 rfl) rfl ?_
  refine r.imul (DX3_image 6 rfl) ?_
  refine r.iload_n 2 (DX3_image 7 rfl) rfl ?_
  refine r.bipush (v := (15 : Int32)) (DX3_image 8 rfl) rfl ?_
  refine r.iand (DX3_image 9 rfl) ?_
  refine r.iadd (DX3_image 10 rfl) ?_
  obtain ⟨hin, hxt⟩ := xgd_some hxt
  refine r.iald 1 rfl hin (DX3_image 11 rfl) ?_
  cases hxt
  exact hret _ _ _ _ (DX3_image 12 rfl) rfl ⟨(), rfl, rfl⟩
set_option maxRecDepth 100000 in
set_option maxHeartbeats 4000000 in
theorem t_X3_pairIn (E : xE) (x0 : Int32) {o : Int32} (hxt : xt_X3_pairIn x0 = some o) : xMI (S := Unit) E yX3_pairIn cX3_pairIn 1 .int 0 0 0 [.int x0] [] (fun _ => o) (fun _ => []) := by
  refine xMI.of (own := RX3) (lo0 := [(0, .int x0)]) (by decide +kernel) rfl rfl (Nat.le_of_ble_eq_true rfl) (fun V r hret => ?_)
  unfold xt_X3_pairIn at hxt
  refine r.iload_n 0 (DX3_pairIn 0 rfl) rfl ?_
  refine r.bipush (v := (127 : Int32)) (DX3_pairIn 1 rfl) rfl ?_
  refine r.iand (DX3_pairIn 2 rfl) ?_
  cases hxt
  exact hret _ _ _ _ (DX3_pairIn 3 rfl) rfl ⟨(), rfl, rfl⟩
set_option maxRecDepth 100000 in
set_option maxHeartbeats 4000000 in
theorem t_X3_foxOf (E : xE) (x0 : Int32) {o : Int32} (hxt : xt_X3_foxOf x0 = some o) : xMI (S := Unit) E yX3_foxOf cX3_foxOf 1 .int 0 0 0 [.int x0] [] (fun _ => o) (fun _ => []) := by
  refine xMI.of (own := RX3) (lo0 := [(0, .int x0)]) (by decide +kernel) rfl rfl (Nat.le_of_ble_eq_true rfl) (fun V r hret => ?_)
  unfold xt_X3_foxOf at hxt
  refine r.iload_n 0 (DX3_foxOf 0 rfl) rfl ?_
  refine r.bipush (v := (7 : Int32)) (DX3_foxOf 1 rfl) rfl ?_
  refine r.ishr (DX3_foxOf 2 rfl) ?_
  refine r.bipush (v := (15 : Int32)) (DX3_foxOf 3 rfl) rfl ?_
  refine r.iand (DX3_foxOf 4 rfl) ?_
  cases hxt
  exact hret _ _ _ _ (DX3_foxOf 5 rfl) rfl ⟨(), rfl, rfl⟩
set_option maxRecDepth 100000 in
set_option maxHeartbeats 4000000 in
theorem t_X3_whoOf (E : xE) (x0 : Int32) {o : Int32} (hxt : xt_X3_whoOf x0 = some o) : xMI (S := Unit) E yX3_whoOf cX3_whoOf 1 .int 0 0 0 [.int x0] [] (fun _ => o) (fun _ => []) := by
  refine xMI.of (own := RX3) (lo0 := [(0, .int x0)]) (by decide +kernel) rfl rfl (Nat.le_of_ble_eq_true rfl) (fun V r hret => ?_)
  unfold xt_X3_whoOf at hxt
  refine r.iload_n 0 (DX3_whoOf 0 rfl) rfl ?_
  refine r.bipush (v := (11 : Int32)) (DX3_whoOf 1 rfl) rfl ?_
  refine r.ishr (DX3_whoOf 2 rfl) ?_
  refine r.iconst (v := (1 : Int32)) (DX3_whoOf 3 rfl) rfl ?_
  refine r.iand (DX3_whoOf 4 rfl) ?_
  cases hxt
  exact hret _ _ _ _ (DX3_whoOf 5 rfl) rfl ⟨(), rfl, rfl⟩
set_option maxRecDepth 100000 in
set_option maxHeartbeats 4000000 in
theorem t_X5_length (E : xE) (a : Nat → Nat) (hM : Mem) {o : Int32} (hxt : xt_X5_length hM = some o) : xMI (S := Unit) E yX5_length cX5_length 1 .int 0 0 0 [.ref (a 25)] [(a 25, oX5 a (hM 25))] (fun _ => o) (fun _ => [(a 25, oX5 a (hM 25))]) := by
  refine xMI.of (own := RX5) (lo0 := [(0, .ref (a 25))]) (by decide +kernel) rfl rfl (Nat.le_of_ble_eq_true rfl) (fun V r hret => ?_)
  unfold xt_X5_length at hxt
  refine r.aload_n 0 (DX5_length 0 rfl) rfl ?_
  refine r.get (v := .int ((hM 25) 1)) kX5 f_X5_15 rfl 0 rfl rfl (DX5_length 1 rfl) ?_
  cases hxt
  exact hret _ _ _ _ (DX5_length 2 rfl) rfl ⟨(), rfl, rfl⟩
set_option maxRecDepth 100000 in
set_option maxHeartbeats 4000000 in
theorem t_X3_isPosition (E : xE) (a : Nat → Nat) (x1 : Int32) (x2 : Int32) (hM : Mem) {o : Int32} (hxt : xt_X3_isPosition x1 x2 hM = some o) : xMI (S := Unit) E yX3_isPosition cX3_isPosition 6 .boolean 1 0 0 [.ref (a 1), .int x1, .int x2] [(a 1, oX3 a), (a 7, aI E 128 (hM 7))] (fun _ => o) (fun _ => [(a 1, oX3 a), (a 7, aI E 128 (hM 7))]) := by
  refine xMI.of (own := RX3) (lo0 := [(0, .ref (a 1)), (1, .int x1), (2, .int x2)]) (by decide +kernel) rfl rfl (Nat.le_of_ble_eq_true rfl) (fun V r hret => ?_)
  unfold xt_X3_isPosition at hxt
  refine r.iload_n 1 (DX3_isPosition 0 rfl) rfl ?_
  obtain ⟨o_1, ho_1, hxt⟩ := xbd hxt
  refine r.callSI0 (t_X3_pairIn E x1 ho_1) g_X3_53 rfl (DX3_isPosition 1 rfl) rfl ⟨(Nat.le_of_ble_eq_true rfl), (Nat.le_of_ble_eq_true rfl)⟩ (Nat.le_of_ble_eq_true rfl) ?_
  refine r.istore_n (lo' := [(3, .int o_1), (0, .ref (a 1)), (1, .int x1), (2, .int x2)]) (DX3_isPosition 2 rfl) (Nat.le_of_ble_eq_true rfl) rfl ?_
  refine r.iconst (v := (1 : Int32)) (DX3_isPosition 3 rfl) rfl ?_
  refine r.iload_n 2 (DX3_isPosition 4 rfl) rfl ?_
  obtain ⟨o_2, ho_2, hxt⟩ := xbd hxt
  refine r.callSI0 (t_X3_foxOf E x1 ho_2) g_X3_56 rfl (DX3_isPosition 5 rfl) rfl ⟨(Nat.le_of_ble_eq_true rfl), (Nat.le_of_ble_eq_true rfl)⟩ (Nat.le_of_ble_eq_true rfl) ?_
  refine r.ishl (DX3_isPosition 6 rfl) ?_
  refine r.istore (lo' := [(4, .int ((1 : Int32) <<< (o_2 &&& 31))), (3, .int o_1), (0, .ref (a 1)), (1, .int x1), (2, .int x2)]) (DX3_isPosition 7 rfl) (Nat.le_of_ble_eq_true rfl) rfl ?_
  refine r.aload_n 2 (DX3_isPosition 8 rfl) rfl ?_
  refine r.iload_n 1 (DX3_isPosition 9 rfl) rfl ?_
  obtain ⟨o_3, ho_3, hxt⟩ := xbd hxt
  refine r.callVI 0 rfl rfl (t_X3_placesOf E a o_1 hM ho_3) g_X3_59 rfl (DX3_isPosition 10 rfl) rfl ⟨(Nat.le_of_ble_eq_true rfl), (Nat.le_of_ble_eq_true rfl)⟩ ⟨(Nat.le_of_ble_eq_true rfl), (Nat.le_of_ble_eq_true rfl)⟩ (Nat.le_of_ble_eq_true rfl) [0, 1] [] rfl rfl rfl rfl (by decide) [0, 1] rfl (ws2 := fun _ => [(a 1, oX3 a), (a 7, aI E 128 (hM 7))]) (fun _ => rfl) (fun _ => ?_)
  refine r.istore (lo' := [(5, .int o_3), (4, .int ((1 : Int32) <<< (o_2 &&& 31))), (3, .int o_1), (0, .ref (a 1)), (1, .int x1), (2, .int x2)]) (DX3_isPosition 11 rfl) (Nat.le_of_ble_eq_true rfl) rfl ?_
  refine r.iload_n 2 (DX3_isPosition 12 rfl) rfl ?_
  refine r.bipush (v := (120 : Int32)) (DX3_isPosition 13 rfl) rfl ?_
  refine r.icmp_ge 48 (DX3_isPosition 14 rfl) rfl hxt (fun _ hxt => ?_) (fun _ hxt => ?_)
  · refine r.iconst (v := (0 : Int32)) (DX3_isPosition 27 rfl) rfl ?_
    cases hxt
    exact hret _ _ _ _ (DX3_isPosition 28 rfl) rfl ⟨(), rfl, rfl⟩
  refine r.iload 1 (DX3_isPosition 15 rfl) rfl ?_
  refine r.iload 0 (DX3_isPosition 16 rfl) rfl ?_
  refine r.iand (DX3_isPosition 17 rfl) ?_
  refine r.if_ne 48 (DX3_isPosition 18 rfl) rfl hxt (fun _ hxt => ?_) (fun _ hxt => ?_)
  · refine r.iconst (v := (0 : Int32)) (DX3_isPosition 27 rfl) rfl ?_
    cases hxt
    exact hret _ _ _ _ (DX3_isPosition 28 rfl) rfl ⟨(), rfl, rfl⟩
  refine r.iload 1 (DX3_isPosition 19 rfl) rfl ?_
  refine r.iload 0 (DX3_isPosition 20 rfl) rfl ?_
  refine r.ior (DX3_isPosition 21 rfl) ?_
  refine r.iload_n 5 (DX3_isPosition 22 rfl) rfl ?_
  refine r.iand (DX3_isPosition 23 rfl) ?_
  refine r.if_ne 48 (DX3_isPosition 24 rfl) rfl hxt (fun _ hxt => ?_) (fun _ hxt => ?_)
  · refine r.iconst (v := (0 : Int32)) (DX3_isPosition 27 rfl) rfl ?_
    cases hxt
    exact hret _ _ _ _ (DX3_isPosition 28 rfl) rfl ⟨(), rfl, rfl⟩
  refine r.iconst (v := (1 : Int32)) (DX3_isPosition 25 rfl) rfl ?_
  refine r.goto 49 (DX3_isPosition 26 rfl) rfl ?_
  cases hxt
  exact hret _ _ _ _ (DX3_isPosition 28 rfl) rfl ⟨(), rfl, rfl⟩
set_option maxRecDepth 100000 in
set_option maxHeartbeats 4000000 in
theorem t_X3_keyOf (E : xE) (a : Nat → Nat) (x1 : Int32) (hM : Mem) {o : Int32} (hxt : xt_X3_keyOf x1 hM = some o) : xMI (S := Unit) E yX3_keyOf cX3_keyOf 6 .int 2 0 0 [.ref (a 1), .int x1] [(a 1, oX3 a), (a 5, aI E 128 (hM 5)), (a 6, aI E 128 (hM 6))] (fun _ => o) (fun _ => [(a 1, oX3 a), (a 5, aI E 128 (hM 5)), (a 6, aI E 128 (hM 6))]) := by
  refine xMI.of (own := RX3) (lo0 := [(0, .ref (a 1)), (1, .int x1)]) (by decide +kernel) rfl rfl (Nat.le_of_ble_eq_true rfl) (fun V r hret => ?_)
  unfold xt_X3_keyOf at hxt
  refine r.iload_n 1 (DX3_keyOf 0 rfl) rfl ?_
  obtain ⟨o_1, ho_1, hxt⟩ := xbd hxt
  refine r.callSI0 (t_X3_foxOf E x1 ho_1) g_X3_56 rfl (DX3_keyOf 1 rfl) rfl ⟨(Nat.le_of_ble_eq_true rfl), (Nat.le_of_ble_eq_true rfl)⟩ (Nat.le_of_ble_eq_true rfl) ?_
  refine r.istore_n (lo' := [(2, .int o_1), (0, .ref (a 1)), (1, .int x1)]) (DX3_keyOf 2 rfl) (Nat.le_of_ble_eq_true rfl) rfl ?_
  refine r.iload_n 2 (DX3_keyOf 3 rfl) rfl ?_
  obtain ⟨o_2, ho_2, hxt⟩ := xbd hxt
  refine r.callSI0 (t_X3_pairIn E x1 ho_2) g_X3_53 rfl (DX3_keyOf 4 rfl) rfl ⟨(Nat.le_of_ble_eq_true rfl), (Nat.le_of_ble_eq_true rfl)⟩ (Nat.le_of_ble_eq_true rfl) ?_
  refine r.istore_n (lo' := [(3, .int o_2), (2, .int o_1), (0, .ref (a 1)), (1, .int x1)]) (DX3_keyOf 5 rfl) (Nat.le_of_ble_eq_true rfl) rfl ?_
  refine r.iload_n 1 (DX3_keyOf 6 rfl) rfl ?_
  refine r.aload_n 2 (DX3_keyOf 7 rfl) rfl ?_
  refine r.iload_n 0 (DX3_keyOf 8 rfl) rfl ?_
  obtain ⟨o_3, ho_3, hxt⟩ := xbd hxt
  refine r.callVI 0 rfl rfl (t_X3_lowerOf E a o_2 hM ho_3) g_X3_62 rfl (DX3_keyOf 9 rfl) rfl ⟨(Nat.le_of_ble_eq_true rfl), (Nat.le_of_ble_eq_true rfl)⟩ ⟨(Nat.le_of_ble_eq_true rfl), (Nat.le_of_ble_eq_true rfl)⟩ (Nat.le_of_ble_eq_true rfl) [0, 1] [2] rfl rfl rfl rfl (by decide) [1, 2, 0] rfl (ws2 := fun _ => [(a 1, oX3 a), (a 5, aI E 128 (hM 5)), (a 6, aI E 128 (hM 6))]) (fun _ => rfl) (fun _ => ?_)
  obtain ⟨o_4, ho_4, hxt⟩ := xbd hxt
  refine r.callSI0 (t_X3_far E o_1 o_3 ho_4) g_X3_40 rfl (DX3_keyOf 10 rfl) rfl ⟨(Nat.le_of_ble_eq_true rfl), (Nat.le_of_ble_eq_true rfl)⟩ (Nat.le_of_ble_eq_true rfl) ?_
  refine r.istore (lo' := [(4, .int o_4), (3, .int o_2), (2, .int o_1), (0, .ref (a 1)), (1, .int x1)]) (DX3_keyOf 11 rfl) (Nat.le_of_ble_eq_true rfl) rfl ?_
  refine r.iload_n 2 (DX3_keyOf 12 rfl) rfl ?_
  refine r.aload_n 3 (DX3_keyOf 13 rfl) rfl ?_
  refine r.iload_n 1 (DX3_keyOf 14 rfl) rfl ?_
  obtain ⟨o_5, ho_5, hxt⟩ := xbd hxt
  refine r.callVI 0 rfl rfl (t_X3_higherOf E a o_2 hM ho_5) g_X3_65 rfl (DX3_keyOf 15 rfl) rfl ⟨(Nat.le_of_ble_eq_true rfl), (Nat.le_of_ble_eq_true rfl)⟩ ⟨(Nat.le_of_ble_eq_true rfl), (Nat.le_of_ble_eq_true rfl)⟩ (Nat.le_of_ble_eq_true rfl) [0, 2] [1] rfl rfl rfl rfl (by decide) [1, 0, 2] rfl (ws2 := fun _ => [(a 1, oX3 a), (a 5, aI E 128 (hM 5)), (a 6, aI E 128 (hM 6))]) (fun _ => rfl) (fun _ => ?_)
  obtain ⟨o_6, ho_6, hxt⟩ := xbd hxt
  refine r.callSI0 (t_X3_far E o_1 o_5 ho_6) g_X3_40 rfl (DX3_keyOf 16 rfl) rfl ⟨(Nat.le_of_ble_eq_true rfl), (Nat.le_of_ble_eq_true rfl)⟩ (Nat.le_of_ble_eq_true rfl) ?_
  refine r.istore (lo' := [(5, .int o_6), (4, .int o_4), (3, .int o_2), (2, .int o_1), (0, .ref (a 1)), (1, .int x1)]) (DX3_keyOf 17 rfl) (Nat.le_of_ble_eq_true rfl) rfl ?_
  refine r.bipush (v := (49 : Int32)) (DX3_keyOf 18 rfl) rfl ?_
  refine r.iload_n 5 (DX3_keyOf 19 rfl) rfl ?_
  obtain ⟨o_7, ho_7, hxt⟩ := xbd hxt
  refine r.callSI0 (t_X3_whoOf E x1 ho_7) g_X3_68 rfl (DX3_keyOf 20 rfl) rfl ⟨(Nat.le_of_ble_eq_true rfl), (Nat.le_of_ble_eq_true rfl)⟩ (Nat.le_of_ble_eq_true rfl) ?_
  refine r.imul (DX3_keyOf 21 rfl) ?_
  refine r.bipush (v := (7 : Int32)) (DX3_keyOf 22 rfl) rfl ?_
  refine r.iload 1 (DX3_keyOf 23 rfl) rfl ?_
  refine r.iload 0 (DX3_keyOf 24 rfl) rfl ?_
  obtain ⟨o_8, ho_8, hxt⟩ := xbd hxt
  refine r.callSI0 (t_J9_min_7cf53 E o_4 o_6 ho_8) g_X3_71 rfl (DX3_keyOf 25 rfl) rfl ⟨(Nat.le_of_ble_eq_true rfl), (Nat.le_of_ble_eq_true rfl)⟩ (Nat.le_of_ble_eq_true rfl) ?_
  refine r.imul (DX3_keyOf 26 rfl) ?_
  refine r.iadd (DX3_keyOf 27 rfl) ?_
  refine r.iload 1 (DX3_keyOf 28 rfl) rfl ?_
  refine r.iload 0 (DX3_keyOf 29 rfl) rfl ?_
  obtain ⟨o_9, ho_9, hxt⟩ := xbd hxt
  refine r.callSI0 (t_J9_max_7cf53 E o_4 o_6 ho_9) g_X3_74 rfl (DX3_keyOf 30 rfl) rfl ⟨(Nat.le_of_ble_eq_true rfl), (Nat.le_of_ble_eq_true rfl)⟩ (Nat.le_of_ble_eq_true rfl) ?_
  refine r.iadd (DX3_keyOf 31 rfl) ?_
  cases hxt
  exact hret _ _ _ _ (DX3_keyOf 32 rfl) rfl ⟨(), rfl, rfl⟩
end
section
set_option maxRecDepth 100000 in
set_option maxHeartbeats 4000000 in
theorem l_X5_countIn_8 (E : xE) {V : xVT} (r : Rl E RX5 cX5_countIn (xR 0 0 0) 7 false V) {o : Int32} (hret : RtI cX5_countIn V .int 0 0 (fun v ws => ∃ u : Unit, v = o ∧ ws = [])) {k : Int32 → Option (Int32)} (hk : ∀ (v4 : Int32), k v4 = some o → V 0 0 60 [(4, .int v4)] [] []) : ∀ (n : Nat) (v2 : Int64) (v4 : Int32) (v5 : Int32), xt_X5_countIn_l8 k n v2 v4 v5 = some o → V 0 0 8 [(2, .long v2), (4, .int v4), (5, .int v5)] [] [] := by
  intro n
  induction n with
  | zero => intro v2 v4 v5 hxt; exact xno hxt
  | succ n ih =>
    intro v2 v4 v5 hxt
    rw [xt_X5_countIn_l8] at hxt
    refine r.iload 2 (DX5_countIn 6 rfl) rfl ?_
    refine r.bipush (v := (8 : Int32)) (DX5_countIn 7 rfl) rfl ?_
    refine r.icmp_ge 60 (DX5_countIn 8 rfl) rfl hxt (fun _ hxt => ?_) (fun _ hxt => ?_)
    · refine r.rel (lo' := [(4, .int v4)]) [1] rfl ?_
      exact hk v4 hxt
    refine r.lload_n 0 (DX5_countIn 9 rfl) rfl ?_
    refine r.lconst (v := (0 : Int64)) (DX5_countIn 10 rfl) rfl ?_
    refine r.lcmp (DX5_countIn 11 rfl) ?_
    refine r.if_eq 60 (DX5_countIn 12 rfl) rfl hxt (fun _ hxt => ?_) (fun _ hxt => ?_)
    · refine r.rel (lo' := [(4, .int v4)]) [1] rfl ?_
      exact hk v4 hxt
    refine r.lload_n 0 (DX5_countIn 13 rfl) rfl ?_
    refine r.ldc2 (v := (255 : Int64)) (DX5_countIn 14 rfl) m683 ?_
    refine r.land (DX5_countIn 15 rfl) ?_
    refine r.l2i (DX5_countIn 16 rfl) ?_
    refine r.istore (lo' := [(6, .int (v2 &&& (255 : Int64)).toInt32), (2, .long v2), (4, .int v4), (5, .int v5)]) (DX5_countIn 17 rfl) (Nat.le_of_ble_eq_true rfl) rfl ?_
    refine r.iload 0 (DX5_countIn 18 rfl) rfl ?_
    refine r.bipush (v := (33 : Int32)) (DX5_countIn 19 rfl) rfl ?_
    refine r.icmp_lt 43 (DX5_countIn 20 rfl) rfl hxt (fun _ hxt => ?_) (fun _ hxt => ?_)
    · refine r.bipush (v := (-2 : Int32)) (DX5_countIn 24 rfl) rfl ?_
      cases hxt
      exact hret _ _ _ _ (DX5_countIn 25 rfl) rfl ⟨(), rfl, rfl⟩
    refine r.iload 0 (DX5_countIn 21 rfl) rfl ?_
    refine r.bipush (v := (126 : Int32)) (DX5_countIn 22 rfl) rfl ?_
    refine r.icmp_le 46 (DX5_countIn 23 rfl) rfl hxt (fun _ hxt => ?_) (fun _ hxt => ?_)
    · refine r.lload_n 1 (DX5_countIn 26 rfl) rfl ?_
      refine r.bipush (v := (8 : Int32)) (DX5_countIn 27 rfl) rfl ?_
      refine r.lushr (DX5_countIn 28 rfl) ?_
      refine r.lstore_n (lo' := [(2, .long ((v2.toUInt64 >>> ((8 : Int32).toInt64.toUInt64 &&& Int64.toUInt64 63)).toInt64)), (6, .int (v2 &&& (255 : Int64)).toInt32), (4, .int v4), (5, .int v5)]) (DX5_countIn 29 rfl) (Nat.le_of_ble_eq_true rfl) rfl ?_
      refine r.iinc (v := (v4 + (1 : Int32))) (lo' := [(4, .int (v4 + (1 : Int32))), (2, .long ((v2.toUInt64 >>> ((8 : Int32).toInt64.toUInt64 &&& Int64.toUInt64 63)).toInt64)), (6, .int (v2 &&& (255 : Int64)).toInt32), (5, .int v5)]) 2 (DX5_countIn 30 rfl) rfl rfl (Nat.le_of_ble_eq_true rfl) rfl ?_
      refine r.iinc (v := (v5 + (1 : Int32))) (lo' := [(5, .int (v5 + (1 : Int32))), (4, .int (v4 + (1 : Int32))), (2, .long ((v2.toUInt64 >>> ((8 : Int32).toInt64.toUInt64 &&& Int64.toUInt64 63)).toInt64)), (6, .int (v2 &&& (255 : Int64)).toInt32)]) 3 (DX5_countIn 31 rfl) rfl rfl (Nat.le_of_ble_eq_true rfl) rfl ?_
      refine r.goto 8 (DX5_countIn 32 rfl) rfl ?_
      refine r.rel (lo' := [(2, .long ((v2.toUInt64 >>> ((8 : Int32).toInt64.toUInt64 &&& Int64.toUInt64 63)).toInt64)), (4, .int (v4 + (1 : Int32))), (5, .int (v5 + (1 : Int32)))]) [2, 1, 0] rfl ?_
      exact ih ((v2.toUInt64 >>> ((8 : Int32).toInt64.toUInt64 &&& Int64.toUInt64 63)).toInt64) (v4 + (1 : Int32)) (v5 + (1 : Int32)) hxt
    refine r.bipush (v := (-2 : Int32)) (DX5_countIn 24 rfl) rfl ?_
    cases hxt
    exact hret _ _ _ _ (DX5_countIn 25 rfl) rfl ⟨(), rfl, rfl⟩
set_option maxRecDepth 100000 in
set_option maxHeartbeats 4000000 in
theorem t_X5_countIn (E : xE) (x0 : Int64) {o : Int32} (hxt : xt_X5_countIn x0 = some o) : xMI (S := Unit) E yX5_countIn cX5_countIn 7 .int 0 0 0 [.long x0] [] (fun _ => o) (fun _ => []) := by
  refine xMI.of (own := RX5) (lo0 := [(0, .long x0)]) (by decide +kernel) rfl rfl (Nat.le_of_ble_eq_true rfl) (fun V r hret => ?_)
  unfold xt_X5_countIn at hxt
  refine r.lload_n 0 (DX5_countIn 0 rfl) rfl ?_
  refine r.lstore_n (lo' := [(2, .long x0), (0, .long x0)]) (DX5_countIn 1 rfl) (Nat.le_of_ble_eq_true rfl) rfl ?_
  refine r.iconst (v := (0 : Int32)) (DX5_countIn 2 rfl) rfl ?_
  refine r.istore (lo' := [(4, .int (0 : Int32)), (2, .long x0), (0, .long x0)]) (DX5_countIn 3 rfl) (Nat.le_of_ble_eq_true rfl) rfl ?_
  refine r.iconst (v := (0 : Int32)) (DX5_countIn 4 rfl) rfl ?_
  refine r.istore (lo' := [(5, .int (0 : Int32)), (4, .int (0 : Int32)), (2, .long x0), (0, .long x0)]) (DX5_countIn 5 rfl) (Nat.le_of_ble_eq_true rfl) rfl ?_
  refine r.rel (lo' := [(2, .long x0), (4, .int (0 : Int32)), (5, .int (0 : Int32))]) [2, 1, 0] rfl ?_
  refine l_X5_countIn_8 E  r hret (fun v4_1 hxt => ?_) 5000 x0 (0 : Int32) (0 : Int32) hxt
  refine r.iload 0 (DX5_countIn 33 rfl) rfl ?_
  cases hxt
  exact hret _ _ _ _ (DX5_countIn 34 rfl) rfl ⟨(), rfl, rfl⟩
set_option maxRecDepth 100000 in
set_option maxHeartbeats 4000000 in
theorem l_X5_append_5 (E : xE) (a : Nat → Nat) (x1 : Int64) (hM : Mem) {V : xVT} (r : Rl E RX5 cX5_append (xR 0 0 0) 5 false V) {o : Mem} {k : Mem → Option (Mem)} (hk : ∀ (mM : Mem), k mM = some o → V 0 0 57 [] [] [(a 25, oX5 a (mM 25)), (a 26, aC E 24 (mM 26))]) : ∀ (n : Nat) (v4 : Int32) (mM : Mem), xt_X5_append_l5 x1 hM k n v4 mM = some o → V 0 0 5 [(0, .ref (a 25)), (1, .long x1), (4, .int v4)] [] [(a 25, oX5 a (mM 25)), (a 26, aC E 24 (mM 26))] := by
  intro n
  induction n with
  | zero => intro v4 mM hxt; exact xno hxt
  | succ n ih =>
    intro v4 mM hxt
    rw [xt_X5_append_l5] at hxt
    refine r.iload 2 (DX5_append 4 rfl) rfl ?_
    refine r.if_lt 57 (DX5_append 5 rfl) rfl hxt (fun _ hxt => ?_) (fun _ hxt => ?_)
    · refine r.rel (lo' := []) [] rfl ?_
      exact hk (mgs hM [25, 26] mM) hxt
    refine r.aload_n 0 (DX5_append 6 rfl) rfl ?_
    refine r.get (v := .int ((mM 25) 1)) kX5 f_X5_15 rfl 0 rfl rfl (DX5_append 7 rfl) ?_
    refine r.bipush (v := (24 : Int32)) (DX5_append 8 rfl) rfl ?_
    refine r.icmp_ge 57 (DX5_append 9 rfl) rfl hxt (fun _ hxt => ?_) (fun _ hxt => ?_)
    · refine r.rel (lo' := []) [] rfl ?_
      exact hk (mgs hM [25, 26] mM) hxt
    refine r.aload_n 0 (DX5_append 10 rfl) rfl ?_
    refine r.get (v := .ref (a 26)) kX5 f_X5_11 rfl 0 rfl rfl (DX5_append 11 rfl) ?_
    refine r.aload_n 0 (DX5_append 12 rfl) rfl ?_
    refine r.get (v := .int ((mM 25) 1)) kX5 f_X5_15 rfl 0 rfl rfl (DX5_append 13 rfl) ?_
    refine r.lload_n 1 (DX5_append 14 rfl) rfl ?_
    refine r.bipush (v := (8 : Int32)) (DX5_append 15 rfl) rfl ?_
    refine r.iload 2 (DX5_append 16 rfl) rfl ?_
    refine r.imul (DX5_append 17 rfl) ?_
    refine r.lushr (DX5_append 18 rfl) ?_
    refine r.ldc2 (v := (255 : Int64)) (DX5_append 19 rfl) m683 ?_
    refine r.land (DX5_append 20 rfl) ?_
    refine r.l2i (DX5_append 21 rfl) ?_
    refine r.i2c (DX5_append 22 rfl) ?_
    obtain ⟨hin, hxt⟩ := xgd_some hxt
    refine r.cast (ws' := [(a 25, oX5 a (mM 25)), (a 26, aC E 24 (upd (mM 26) ((mM 25) 1).toNatClampNeg (vp_nar .char ((((x1.toUInt64 >>> (((8 : Int32) * v4).toInt64.toUInt64 &&& Int64.toUInt64 63)).toInt64) &&& (255 : Int64)).toInt32.toUInt32 % 65536).toInt32)))]) 1 rfl hin rfl (DX5_append 23 rfl) ?_
    refine r.aload_n 0 (DX5_append 24 rfl) rfl ?_
    refine r.dup (DX5_append 25 rfl) rfl ?_
    refine r.get (v := .int ((mM 25) 1)) kX5 f_X5_15 rfl 0 rfl rfl (DX5_append 26 rfl) ?_
    refine r.iconst (v := (1 : Int32)) (DX5_append 27 rfl) rfl ?_
    refine r.iadd (DX5_append 28 rfl) ?_
    refine r.put (ws' := [(a 25, oX5 a (upd (mM 25) 1 (((mM 25) 1) + (1 : Int32)))), (a 26, aC E 24 (upd (mM 26) ((mM 25) 1).toNatClampNeg (vp_nar .char ((((x1.toUInt64 >>> (((8 : Int32) * v4).toInt64.toUInt64 &&& Int64.toUInt64 63)).toInt64) &&& (255 : Int64)).toInt32.toUInt32 % 65536).toInt32)))]) kX5 f_X5_15 0 rfl rfl rfl rfl (Nat.le_of_ble_eq_true rfl) rfl (DX5_append 29 rfl) ?_
    refine r.iinc (v := (v4 + (-1 : Int32))) (lo' := [(4, .int (v4 + (-1 : Int32))), (0, .ref (a 25)), (1, .long x1)]) 2 (DX5_append 30 rfl) rfl rfl (Nat.le_of_ble_eq_true rfl) rfl ?_
    refine r.goto 5 (DX5_append 31 rfl) rfl ?_
    refine r.rel (lo' := [(0, .ref (a 25)), (1, .long x1), (4, .int (v4 + (-1 : Int32)))]) [1, 2, 0] rfl ?_
    exact ih (v4 + (-1 : Int32)) (mset (mset hM 25 (upd (mM 25) 1 (((mM 25) 1) + (1 : Int32)))) 26 (upd (mM 26) ((mM 25) 1).toNatClampNeg (vp_nar .char ((((x1.toUInt64 >>> (((8 : Int32) * v4).toInt64.toUInt64 &&& Int64.toUInt64 63)).toInt64) &&& (255 : Int64)).toInt32.toUInt32 % 65536).toInt32))) hxt
set_option maxRecDepth 100000 in
set_option maxHeartbeats 4000000 in
theorem t_X5_append (E : xE) (a : Nat → Nat) (x1 : Int64) (x3 : Int32) (hM : Mem) {o : Mem} (hxt : xt_X5_append x1 x3 hM = some o) : xMV (S := Unit) E yX5_append cX5_append 5 0 0 0 [.ref (a 25), .long x1, .int x3] [(a 25, oX5 a (hM 25)), (a 26, aC E 24 (hM 26))] (fun _ => [(a 25, oX5 a (o 25)), (a 26, aC E 24 (o 26))]) := by
  refine xMV.of (own := RX5) (lo0 := [(0, .ref (a 25)), (1, .long x1), (3, .int x3)]) (ini := false) (fun h => nomatch h) (by decide +kernel) rfl rfl (Nat.le_of_ble_eq_true rfl) (fun V r hret => ?_)
  unfold xt_X5_append at hxt
  refine r.iload_n 2 (DX5_append 0 rfl) rfl ?_
  refine r.iconst (v := (1 : Int32)) (DX5_append 1 rfl) rfl ?_
  refine r.isub (DX5_append 2 rfl) ?_
  refine r.istore (lo' := [(4, .int (x3 - (1 : Int32))), (0, .ref (a 25)), (1, .long x1), (3, .int x3)]) (DX5_append 3 rfl) (Nat.le_of_ble_eq_true rfl) rfl ?_
  refine r.rel (lo' := [(0, .ref (a 25)), (1, .long x1), (4, .int (x3 - (1 : Int32)))]) [1, 2, 0] rfl ?_
  refine l_X5_append_5 E a x1 hM r (fun m_1 hxt => ?_) 5000 (x3 - (1 : Int32)) hM hxt
  cases hxt
  exact hret _ _ _ (DX5_append 32 rfl) ⟨(), rfl⟩
end
section
set_option maxRecDepth 100000 in
set_option maxHeartbeats 4000000 in
theorem t_X4_length (E : xE) (a : Nat → Nat) (hM : Mem) {o : Int32} (hxt : xt_X4_length hM = some o) : xMI (S := Unit) E yX4_length cX4_length 1 .int 0 0 0 [.ref (a 23)] [(a 23, oX4 a (hM 23))] (fun _ => o) (fun _ => [(a 23, oX4 a (hM 23))]) := by
  refine xMI.of (own := RX4) (lo0 := [(0, .ref (a 23))]) (by decide +kernel) rfl rfl (Nat.le_of_ble_eq_true rfl) (fun V r hret => ?_)
  unfold xt_X4_length at hxt
  refine r.aload_n 0 (DX4_length 0 rfl) rfl ?_
  refine r.get (v := .int ((hM 23) 1)) kX4 f_X4_16 rfl 0 rfl rfl (DX4_length 1 rfl) ?_
  cases hxt
  exact hret _ _ _ _ (DX4_length 2 rfl) rfl ⟨(), rfl, rfl⟩
set_option maxRecDepth 100000 in
set_option maxHeartbeats 4000000 in
theorem t_X4_dropOldest (E : xE) (a : Nat → Nat) (ha : Nat → Nat) (hM : Mem) : xMV (S := Unit) E yX4_dropOldest cX4_dropOldest 3 0 0 0 [.ref (a 23)] [((a 23), .inr (4, [.ref (a 24), .int (hM 23 1)])), ((a 24), .inl (xO E, 6, .inr (.inr (.inr (.inr (fun i => some (ha i))))))), ((ha 0), oX6 (hM 60)), ((ha 1), oX6 (hM 61)), ((ha 2), oX6 (hM 62)), ((ha 3), oX6 (hM 63)), ((ha 4), oX6 (hM 64)), ((ha 5), oX6 (hM 65))] (fun _ => [((a 23), .inr (4, [.ref (a 24), .int (5 : Int32)])), ((a 24), .inl (xO E, 6, .inr (.inr (.inr (.inr (va_up (va_up (va_up (va_up (va_up (va_up (fun i => some (ha i)) ((1 : Int32) - (1 : Int32)).toNatClampNeg (some (ha 1))) (((1 : Int32) + (1 : Int32)) - (1 : Int32)).toNatClampNeg (some (ha 2))) ((((1 : Int32) + (1 : Int32)) + (1 : Int32)) - (1 : Int32)).toNatClampNeg (some (ha 3))) (((((1 : Int32) + (1 : Int32)) + (1 : Int32)) + (1 : Int32)) - (1 : Int32)).toNatClampNeg (some (ha 4))) ((((((1 : Int32) + (1 : Int32)) + (1 : Int32)) + (1 : Int32)) + (1 : Int32)) - (1 : Int32)).toNatClampNeg (some (ha 5))) (5 : Int32).toNatClampNeg (some (ha 0)))))))), ((ha 0), oX6 (hM 60)), ((ha 1), oX6 (hM 61)), ((ha 2), oX6 (hM 62)), ((ha 3), oX6 (hM 63)), ((ha 4), oX6 (hM 64)), ((ha 5), oX6 (hM 65))]) := by
  refine xMV.of (own := RX4) (lo0 := [(0, .ref (a 23))]) (ini := false) (fun h => nomatch h) (by decide +kernel) rfl rfl (Nat.le_of_ble_eq_true rfl) (fun V r hret => ?_)
  refine r.aload_n 0 (DX4_dropOldest 0 rfl) rfl ?_
  refine r.get (v := .ref (a 24)) kX4 f_X4_11 rfl 0 rfl rfl (DX4_dropOldest 1 rfl) ?_
  refine r.iconst (v := (0 : Int32)) (DX4_dropOldest 2 rfl) rfl ?_
  refine r.aald (b := (ha 0)) 1 rfl (by unfold vp_in; decide) rfl (DX4_dropOldest 3 rfl) ?_
  refine r.astore_n (lo' := [(1, .ref (ha 0)), (0, .ref (a 23))]) (DX4_dropOldest 4 rfl) (Nat.le_of_ble_eq_true rfl) rfl ?_
  refine r.iconst (v := (1 : Int32)) (DX4_dropOldest 5 rfl) rfl ?_
  refine r.istore_n (lo' := [(2, .int (1 : Int32)), (1, .ref (ha 0)), (0, .ref (a 23))]) (DX4_dropOldest 6 rfl) (Nat.le_of_ble_eq_true rfl) rfl ?_
  refine r.iload_n 0 (DX4_dropOldest 7 rfl) rfl ?_
  refine r.bipush (v := (6 : Int32)) (DX4_dropOldest 8 rfl) rfl ?_
  refine r.icmp_geF 35 (DX4_dropOldest 9 rfl) rfl (by decide) ?_
  refine r.aload_n 2 (DX4_dropOldest 10 rfl) rfl ?_
  refine r.get (v := .ref (a 24)) kX4 f_X4_11 rfl 0 rfl rfl (DX4_dropOldest 11 rfl) ?_
  refine r.iload_n 0 (DX4_dropOldest 12 rfl) rfl ?_
  refine r.iconst (v := (1 : Int32)) (DX4_dropOldest 13 rfl) rfl ?_
  refine r.isub (DX4_dropOldest 14 rfl) ?_
  refine r.aload_n 2 (DX4_dropOldest 15 rfl) rfl ?_
  refine r.get (v := .ref (a 24)) kX4 f_X4_11 rfl 0 rfl rfl (DX4_dropOldest 16 rfl) ?_
  refine r.iload_n 0 (DX4_dropOldest 17 rfl) rfl ?_
  refine r.aald (b := (ha 1)) 1 rfl (by unfold vp_in; decide) rfl (DX4_dropOldest 18 rfl) ?_
  refine r.aast (ws' := [((a 23), .inr (4, [.ref (a 24), .int (hM 23 1)])), ((a 24), .inl (xO E, 6, .inr (.inr (.inr (.inr (va_up (fun i => some (ha i)) ((1 : Int32) - (1 : Int32)).toNatClampNeg (some (ha 1)))))))), ((ha 0), oX6 (hM 60)), ((ha 1), oX6 (hM 61)), ((ha 2), oX6 (hM 62)), ((ha 3), oX6 (hM 63)), ((ha 4), oX6 (hM 64)), ((ha 5), oX6 (hM 65))]) 1 3 rfl rfl (by unfold vp_in; decide) rfl (DX4_dropOldest 19 rfl) ?_
  refine r.iinc (v := ((1 : Int32) + (1 : Int32))) (lo' := [(2, .int ((1 : Int32) + (1 : Int32))), (1, .ref (ha 0)), (0, .ref (a 23))]) 0 (DX4_dropOldest 20 rfl) rfl rfl (Nat.le_of_ble_eq_true rfl) rfl ?_
  refine r.goto 9 (DX4_dropOldest 21 rfl) rfl ?_
  refine r.iload_n 0 (DX4_dropOldest 7 rfl) rfl ?_
  refine r.bipush (v := (6 : Int32)) (DX4_dropOldest 8 rfl) rfl ?_
  refine r.icmp_geF 35 (DX4_dropOldest 9 rfl) rfl (by decide) ?_
  refine r.aload_n 2 (DX4_dropOldest 10 rfl) rfl ?_
  refine r.get (v := .ref (a 24)) kX4 f_X4_11 rfl 0 rfl rfl (DX4_dropOldest 11 rfl) ?_
  refine r.iload_n 0 (DX4_dropOldest 12 rfl) rfl ?_
  refine r.iconst (v := (1 : Int32)) (DX4_dropOldest 13 rfl) rfl ?_
  refine r.isub (DX4_dropOldest 14 rfl) ?_
  refine r.aload_n 2 (DX4_dropOldest 15 rfl) rfl ?_
  refine r.get (v := .ref (a 24)) kX4 f_X4_11 rfl 0 rfl rfl (DX4_dropOldest 16 rfl) ?_
  refine r.iload_n 0 (DX4_dropOldest 17 rfl) rfl ?_
  refine r.aald (b := (ha 2)) 1 rfl (by unfold vp_in; decide) rfl (DX4_dropOldest 18 rfl) ?_
  refine r.aast (ws' := [((a 23), .inr (4, [.ref (a 24), .int (hM 23 1)])), ((a 24), .inl (xO E, 6, .inr (.inr (.inr (.inr (va_up (va_up (fun i => some (ha i)) ((1 : Int32) - (1 : Int32)).toNatClampNeg (some (ha 1))) (((1 : Int32) + (1 : Int32)) - (1 : Int32)).toNatClampNeg (some (ha 2)))))))), ((ha 0), oX6 (hM 60)), ((ha 1), oX6 (hM 61)), ((ha 2), oX6 (hM 62)), ((ha 3), oX6 (hM 63)), ((ha 4), oX6 (hM 64)), ((ha 5), oX6 (hM 65))]) 1 4 rfl rfl (by unfold vp_in; decide) rfl (DX4_dropOldest 19 rfl) ?_
  refine r.iinc (v := (((1 : Int32) + (1 : Int32)) + (1 : Int32))) (lo' := [(2, .int (((1 : Int32) + (1 : Int32)) + (1 : Int32))), (1, .ref (ha 0)), (0, .ref (a 23))]) 0 (DX4_dropOldest 20 rfl) rfl rfl (Nat.le_of_ble_eq_true rfl) rfl ?_
  refine r.goto 9 (DX4_dropOldest 21 rfl) rfl ?_
  refine r.iload_n 0 (DX4_dropOldest 7 rfl) rfl ?_
  refine r.bipush (v := (6 : Int32)) (DX4_dropOldest 8 rfl) rfl ?_
  refine r.icmp_geF 35 (DX4_dropOldest 9 rfl) rfl (by decide) ?_
  refine r.aload_n 2 (DX4_dropOldest 10 rfl) rfl ?_
  refine r.get (v := .ref (a 24)) kX4 f_X4_11 rfl 0 rfl rfl (DX4_dropOldest 11 rfl) ?_
  refine r.iload_n 0 (DX4_dropOldest 12 rfl) rfl ?_
  refine r.iconst (v := (1 : Int32)) (DX4_dropOldest 13 rfl) rfl ?_
  refine r.isub (DX4_dropOldest 14 rfl) ?_
  refine r.aload_n 2 (DX4_dropOldest 15 rfl) rfl ?_
  refine r.get (v := .ref (a 24)) kX4 f_X4_11 rfl 0 rfl rfl (DX4_dropOldest 16 rfl) ?_
  refine r.iload_n 0 (DX4_dropOldest 17 rfl) rfl ?_
  refine r.aald (b := (ha 3)) 1 rfl (by unfold vp_in; decide) rfl (DX4_dropOldest 18 rfl) ?_
  refine r.aast (ws' := [((a 23), .inr (4, [.ref (a 24), .int (hM 23 1)])), ((a 24), .inl (xO E, 6, .inr (.inr (.inr (.inr (va_up (va_up (va_up (fun i => some (ha i)) ((1 : Int32) - (1 : Int32)).toNatClampNeg (some (ha 1))) (((1 : Int32) + (1 : Int32)) - (1 : Int32)).toNatClampNeg (some (ha 2))) ((((1 : Int32) + (1 : Int32)) + (1 : Int32)) - (1 : Int32)).toNatClampNeg (some (ha 3)))))))), ((ha 0), oX6 (hM 60)), ((ha 1), oX6 (hM 61)), ((ha 2), oX6 (hM 62)), ((ha 3), oX6 (hM 63)), ((ha 4), oX6 (hM 64)), ((ha 5), oX6 (hM 65))]) 1 5 rfl rfl (by unfold vp_in; decide) rfl (DX4_dropOldest 19 rfl) ?_
  refine r.iinc (v := ((((1 : Int32) + (1 : Int32)) + (1 : Int32)) + (1 : Int32))) (lo' := [(2, .int ((((1 : Int32) + (1 : Int32)) + (1 : Int32)) + (1 : Int32))), (1, .ref (ha 0)), (0, .ref (a 23))]) 0 (DX4_dropOldest 20 rfl) rfl rfl (Nat.le_of_ble_eq_true rfl) rfl ?_
  refine r.goto 9 (DX4_dropOldest 21 rfl) rfl ?_
  refine r.iload_n 0 (DX4_dropOldest 7 rfl) rfl ?_
  refine r.bipush (v := (6 : Int32)) (DX4_dropOldest 8 rfl) rfl ?_
  refine r.icmp_geF 35 (DX4_dropOldest 9 rfl) rfl (by decide) ?_
  refine r.aload_n 2 (DX4_dropOldest 10 rfl) rfl ?_
  refine r.get (v := .ref (a 24)) kX4 f_X4_11 rfl 0 rfl rfl (DX4_dropOldest 11 rfl) ?_
  refine r.iload_n 0 (DX4_dropOldest 12 rfl) rfl ?_
  refine r.iconst (v := (1 : Int32)) (DX4_dropOldest 13 rfl) rfl ?_
  refine r.isub (DX4_dropOldest 14 rfl) ?_
  refine r.aload_n 2 (DX4_dropOldest 15 rfl) rfl ?_
  refine r.get (v := .ref (a 24)) kX4 f_X4_11 rfl 0 rfl rfl (DX4_dropOldest 16 rfl) ?_
  refine r.iload_n 0 (DX4_dropOldest 17 rfl) rfl ?_
  refine r.aald (b := (ha 4)) 1 rfl (by unfold vp_in; decide) rfl (DX4_dropOldest 18 rfl) ?_
  refine r.aast (ws' := [((a 23), .inr (4, [.ref (a 24), .int (hM 23 1)])), ((a 24), .inl (xO E, 6, .inr (.inr (.inr (.inr (va_up (va_up (va_up (va_up (fun i => some (ha i)) ((1 : Int32) - (1 : Int32)).toNatClampNeg (some (ha 1))) (((1 : Int32) + (1 : Int32)) - (1 : Int32)).toNatClampNeg (some (ha 2))) ((((1 : Int32) + (1 : Int32)) + (1 : Int32)) - (1 : Int32)).toNatClampNeg (some (ha 3))) (((((1 : Int32) + (1 : Int32)) + (1 : Int32)) + (1 : Int32)) - (1 : Int32)).toNatClampNeg (some (ha 4)))))))), ((ha 0), oX6 (hM 60)), ((ha 1), oX6 (hM 61)), ((ha 2), oX6 (hM 62)), ((ha 3), oX6 (hM 63)), ((ha 4), oX6 (hM 64)), ((ha 5), oX6 (hM 65))]) 1 6 rfl rfl (by unfold vp_in; decide) rfl (DX4_dropOldest 19 rfl) ?_
  refine r.iinc (v := (((((1 : Int32) + (1 : Int32)) + (1 : Int32)) + (1 : Int32)) + (1 : Int32))) (lo' := [(2, .int (((((1 : Int32) + (1 : Int32)) + (1 : Int32)) + (1 : Int32)) + (1 : Int32))), (1, .ref (ha 0)), (0, .ref (a 23))]) 0 (DX4_dropOldest 20 rfl) rfl rfl (Nat.le_of_ble_eq_true rfl) rfl ?_
  refine r.goto 9 (DX4_dropOldest 21 rfl) rfl ?_
  refine r.iload_n 0 (DX4_dropOldest 7 rfl) rfl ?_
  refine r.bipush (v := (6 : Int32)) (DX4_dropOldest 8 rfl) rfl ?_
  refine r.icmp_geF 35 (DX4_dropOldest 9 rfl) rfl (by decide) ?_
  refine r.aload_n 2 (DX4_dropOldest 10 rfl) rfl ?_
  refine r.get (v := .ref (a 24)) kX4 f_X4_11 rfl 0 rfl rfl (DX4_dropOldest 11 rfl) ?_
  refine r.iload_n 0 (DX4_dropOldest 12 rfl) rfl ?_
  refine r.iconst (v := (1 : Int32)) (DX4_dropOldest 13 rfl) rfl ?_
  refine r.isub (DX4_dropOldest 14 rfl) ?_
  refine r.aload_n 2 (DX4_dropOldest 15 rfl) rfl ?_
  refine r.get (v := .ref (a 24)) kX4 f_X4_11 rfl 0 rfl rfl (DX4_dropOldest 16 rfl) ?_
  refine r.iload_n 0 (DX4_dropOldest 17 rfl) rfl ?_
  refine r.aald (b := (ha 5)) 1 rfl (by unfold vp_in; decide) rfl (DX4_dropOldest 18 rfl) ?_
  refine r.aast (ws' := [((a 23), .inr (4, [.ref (a 24), .int (hM 23 1)])), ((a 24), .inl (xO E, 6, .inr (.inr (.inr (.inr (va_up (va_up (va_up (va_up (va_up (fun i => some (ha i)) ((1 : Int32) - (1 : Int32)).toNatClampNeg (some (ha 1))) (((1 : Int32) + (1 : Int32)) - (1 : Int32)).toNatClampNeg (some (ha 2))) ((((1 : Int32) + (1 : Int32)) + (1 : Int32)) - (1 : Int32)).toNatClampNeg (some (ha 3))) (((((1 : Int32) + (1 : Int32)) + (1 : Int32)) + (1 : Int32)) - (1 : Int32)).toNatClampNeg (some (ha 4))) ((((((1 : Int32) + (1 : Int32)) + (1 : Int32)) + (1 : Int32)) + (1 : Int32)) - (1 : Int32)).toNatClampNeg (some (ha 5)))))))), ((ha 0), oX6 (hM 60)), ((ha 1), oX6 (hM 61)), ((ha 2), oX6 (hM 62)), ((ha 3), oX6 (hM 63)), ((ha 4), oX6 (hM 64)), ((ha 5), oX6 (hM 65))]) 1 7 rfl rfl (by unfold vp_in; decide) rfl (DX4_dropOldest 19 rfl) ?_
  refine r.iinc (v := ((((((1 : Int32) + (1 : Int32)) + (1 : Int32)) + (1 : Int32)) + (1 : Int32)) + (1 : Int32))) (lo' := [(2, .int ((((((1 : Int32) + (1 : Int32)) + (1 : Int32)) + (1 : Int32)) + (1 : Int32)) + (1 : Int32))), (1, .ref (ha 0)), (0, .ref (a 23))]) 0 (DX4_dropOldest 20 rfl) rfl rfl (Nat.le_of_ble_eq_true rfl) rfl ?_
  refine r.goto 9 (DX4_dropOldest 21 rfl) rfl ?_
  refine r.iload_n 0 (DX4_dropOldest 7 rfl) rfl ?_
  refine r.bipush (v := (6 : Int32)) (DX4_dropOldest 8 rfl) rfl ?_
  refine r.icmp_geT 35 (DX4_dropOldest 9 rfl) rfl (by decide) ?_
  refine r.aload_n 2 (DX4_dropOldest 22 rfl) rfl ?_
  refine r.get (v := .ref (a 24)) kX4 f_X4_11 rfl 0 rfl rfl (DX4_dropOldest 23 rfl) ?_
  refine r.iconst (v := (5 : Int32)) (DX4_dropOldest 24 rfl) rfl ?_
  refine r.aload_n 1 (DX4_dropOldest 25 rfl) rfl ?_
  refine r.aast (ws' := [((a 23), .inr (4, [.ref (a 24), .int (hM 23 1)])), ((a 24), .inl (xO E, 6, .inr (.inr (.inr (.inr (va_up (va_up (va_up (va_up (va_up (va_up (fun i => some (ha i)) ((1 : Int32) - (1 : Int32)).toNatClampNeg (some (ha 1))) (((1 : Int32) + (1 : Int32)) - (1 : Int32)).toNatClampNeg (some (ha 2))) ((((1 : Int32) + (1 : Int32)) + (1 : Int32)) - (1 : Int32)).toNatClampNeg (some (ha 3))) (((((1 : Int32) + (1 : Int32)) + (1 : Int32)) + (1 : Int32)) - (1 : Int32)).toNatClampNeg (some (ha 4))) ((((((1 : Int32) + (1 : Int32)) + (1 : Int32)) + (1 : Int32)) + (1 : Int32)) - (1 : Int32)).toNatClampNeg (some (ha 5))) (5 : Int32).toNatClampNeg (some (ha 0)))))))), ((ha 0), oX6 (hM 60)), ((ha 1), oX6 (hM 61)), ((ha 2), oX6 (hM 62)), ((ha 3), oX6 (hM 63)), ((ha 4), oX6 (hM 64)), ((ha 5), oX6 (hM 65))]) 1 2 rfl rfl (by unfold vp_in; decide) rfl (DX4_dropOldest 26 rfl) ?_
  refine r.aload_n 2 (DX4_dropOldest 27 rfl) rfl ?_
  refine r.iconst (v := (5 : Int32)) (DX4_dropOldest 28 rfl) rfl ?_
  refine r.put (ws' := [((a 23), .inr (4, [.ref (a 24), .int (5 : Int32)])), ((a 24), .inl (xO E, 6, .inr (.inr (.inr (.inr (va_up (va_up (va_up (va_up (va_up (va_up (fun i => some (ha i)) ((1 : Int32) - (1 : Int32)).toNatClampNeg (some (ha 1))) (((1 : Int32) + (1 : Int32)) - (1 : Int32)).toNatClampNeg (some (ha 2))) ((((1 : Int32) + (1 : Int32)) + (1 : Int32)) - (1 : Int32)).toNatClampNeg (some (ha 3))) (((((1 : Int32) + (1 : Int32)) + (1 : Int32)) + (1 : Int32)) - (1 : Int32)).toNatClampNeg (some (ha 4))) ((((((1 : Int32) + (1 : Int32)) + (1 : Int32)) + (1 : Int32)) + (1 : Int32)) - (1 : Int32)).toNatClampNeg (some (ha 5))) (5 : Int32).toNatClampNeg (some (ha 0)))))))), ((ha 0), oX6 (hM 60)), ((ha 1), oX6 (hM 61)), ((ha 2), oX6 (hM 62)), ((ha 3), oX6 (hM 63)), ((ha 4), oX6 (hM 64)), ((ha 5), oX6 (hM 65))]) kX4 f_X4_16 0 rfl rfl rfl rfl (Nat.le_of_ble_eq_true rfl) rfl (DX4_dropOldest 29 rfl) ?_
  exact hret _ _ _ (DX4_dropOldest 30 rfl) ⟨(), rfl⟩
set_option maxRecDepth 100000 in
set_option maxHeartbeats 4000000 in
def xrot (ha : Nat → Nat) : Nat → Nat := fun i => if i < 5 then ha (i + 1) else if i = 5 then ha 0 else ha i
set_option maxRecDepth 100000 in
set_option maxHeartbeats 4000000 in
theorem xrot_e (ha : Nat → Nat) : (va_up (va_up (va_up (va_up (va_up (va_up (fun i => some (ha i)) ((1 : Int32) - (1 : Int32)).toNatClampNeg (some (ha 1))) (((1 : Int32) + (1 : Int32)) - (1 : Int32)).toNatClampNeg (some (ha 2))) ((((1 : Int32) + (1 : Int32)) + (1 : Int32)) - (1 : Int32)).toNatClampNeg (some (ha 3))) (((((1 : Int32) + (1 : Int32)) + (1 : Int32)) + (1 : Int32)) - (1 : Int32)).toNatClampNeg (some (ha 4))) ((((((1 : Int32) + (1 : Int32)) + (1 : Int32)) + (1 : Int32)) + (1 : Int32)) - (1 : Int32)).toNatClampNeg (some (ha 5))) (5 : Int32).toNatClampNeg (some (ha 0))) = fun i => some (xrot ha i) := by
  funext i
  match i with
  | 0 => rfl
  | 1 => rfl
  | 2 => rfl
  | 3 => rfl
  | 4 => rfl
  | 5 => rfl
  | i + 6 =>
    have e : ∀ (f : Nat → Option Nat) (k : Nat) (v : Option Nat), k < 6 → va_up f k v (i + 6) = f (i + 6) := fun f k v h => if_neg (by omega)
    rw [e _ _ _ (by decide), e _ _ _ (by decide), e _ _ _ (by decide), e _ _ _ (by decide), e _ _ _ (by decide), e _ _ _ (by decide)]
    show some (ha (i + 6)) = some (xrot ha (i + 6))
    unfold xrot
    rw [if_neg (by omega), if_neg (by omega)]
set_option maxRecDepth 100000 in
set_option maxHeartbeats 4000000 in
theorem t_X4_record (E : xE) (a : Nat → Nat) (ha : Nat → Nat) (hp1 : Nat) (sp1 : Nat → Int32) (hM : Mem) {o : Mem} (hxt : xt_X4_record sp1 hM = some o) : xMV (S := Nat → Nat) E yX4_record cX4_record 2 1 0 0 [.ref (a 23), .ref hp1] [((a 23), .inr (4, [.ref (a 24), .int (hM 23 1)])), ((a 24), .inl (xO E, 6, .inr (.inr (.inr (.inr (fun i => some (ha i))))))), ((ha 0), oX6 (hM 60)), ((ha 1), oX6 (hM 61)), ((ha 2), oX6 (hM 62)), ((ha 3), oX6 (hM 63)), ((ha 4), oX6 (hM 64)), ((ha 5), oX6 (hM 65)), (hp1, oX6 sp1)] (fun u => [(a 23, oX4 a (o 23)), (a 24, .inl (xO E, 6, .inr (.inr (.inr (.inr (fun i => some (u i))))))), (u 0, oX6 (o 60)), (u 1, oX6 (o 61)), (u 2, oX6 (o 62)), (u 3, oX6 (o 63)), (u 4, oX6 (o 64)), (u 5, oX6 (o 65)), (hp1, oX6 sp1)]) := by
  refine xMV.of (own := RX4) (lo0 := [(0, .ref (a 23)), (1, .ref hp1)]) (ini := false) (fun h => nomatch h) (by decide +kernel) rfl rfl (Nat.le_of_ble_eq_true rfl) (fun V r hret => ?_)
  unfold xt_X4_record at hxt
  refine r.aload_n 0 (DX4_record 0 rfl) rfl ?_
  refine r.get (v := .int (hM 23 1)) kX4 f_X4_16 rfl 0 rfl rfl (DX4_record 1 rfl) ?_
  refine r.bipush (v := (6 : Int32)) (DX4_record 2 rfl) rfl ?_
  refine r.icmp_lt 13 (DX4_record 3 rfl) rfl hxt (fun _ hxt => ?_) (fun _ hxt => ?_)
  · refine r.aload_n 0 (DX4_record 6 rfl) rfl ?_
    refine r.get (v := .ref (a 24)) kX4 f_X4_11 rfl 0 rfl rfl (DX4_record 7 rfl) ?_
    refine r.aload_n 0 (DX4_record 8 rfl) rfl ?_
    refine r.get (v := .int (hM 23 1)) kX4 f_X4_16 rfl 0 rfl rfl (DX4_record 9 rfl) ?_
    refine xif hxt (fun hc hxt => ?_) (fun _ hxt => ?_)
    · refine r.aald (b := (ha 0)) 1 rfl (by rw [hc]; unfold vp_in; decide) (by rw [hc]; rfl) (DX4_record 10 rfl) ?_
      refine r.aload_n 1 (DX4_record 11 rfl) rfl ?_
      obtain ⟨o1, ho1, hxt⟩ := xbd hxt
      refine r.callVV 0 rfl rfl (t_X6_take E (fun _ => 0) (ha 0) hp1 (hM 60) sp1 ho1) g_X4_23 rfl (DX4_record 12 rfl) rfl ⟨(Nat.le_of_ble_eq_true rfl), (Nat.le_of_ble_eq_true rfl)⟩ ⟨(Nat.le_of_ble_eq_true rfl), (Nat.le_of_ble_eq_true rfl)⟩ (Nat.le_of_ble_eq_true rfl) [2, 8] [0, 1, 3, 4, 5, 6, 7] rfl rfl rfl rfl (by decide) [0, 1, 7, 2, 3, 4, 5, 6, 8] rfl (ws2 := fun _ => [((a 23), .inr (4, [.ref (a 24), .int (hM 23 1)])), ((a 24), .inl (xO E, 6, .inr (.inr (.inr (.inr (fun i => some (ha i))))))), ((ha 0), oX6 o1), ((ha 1), oX6 (hM 61)), ((ha 2), oX6 (hM 62)), ((ha 3), oX6 (hM 63)), ((ha 4), oX6 (hM 64)), ((ha 5), oX6 (hM 65)), (hp1, oX6 sp1)]) (fun _ => rfl) (fun _ => ?_)
      refine r.aload_n 0 (DX4_record 13 rfl) rfl ?_
      refine r.dup (DX4_record 14 rfl) rfl ?_
      refine r.get (v := .int (hM 23 1)) kX4 f_X4_16 rfl 0 rfl rfl (DX4_record 15 rfl) ?_
      refine r.iconst (v := (1 : Int32)) (DX4_record 16 rfl) rfl ?_
      refine r.iadd (DX4_record 17 rfl) ?_
      refine r.put (ws' := [((a 23), .inr (4, [.ref (a 24), .int ((hM 23 1) + (1 : Int32))])), ((a 24), .inl (xO E, 6, .inr (.inr (.inr (.inr (fun i => some (ha i))))))), ((ha 0), oX6 o1), ((ha 1), oX6 (hM 61)), ((ha 2), oX6 (hM 62)), ((ha 3), oX6 (hM 63)), ((ha 4), oX6 (hM 64)), ((ha 5), oX6 (hM 65)), (hp1, oX6 sp1)]) kX4 f_X4_16 0 rfl rfl rfl rfl (Nat.le_of_ble_eq_true rfl) rfl (DX4_record 18 rfl) ?_
      cases hxt
      exact hret _ _ _ (DX4_record 19 rfl) ⟨ha, rfl⟩
    refine xif hxt (fun hc hxt => ?_) (fun _ hxt => ?_)
    · refine r.aald (b := (ha 1)) 1 rfl (by rw [hc]; unfold vp_in; decide) (by rw [hc]; rfl) (DX4_record 10 rfl) ?_
      refine r.aload_n 1 (DX4_record 11 rfl) rfl ?_
      obtain ⟨o2, ho2, hxt⟩ := xbd hxt
      refine r.callVV 0 rfl rfl (t_X6_take E (fun _ => 0) (ha 1) hp1 (hM 61) sp1 ho2) g_X4_23 rfl (DX4_record 12 rfl) rfl ⟨(Nat.le_of_ble_eq_true rfl), (Nat.le_of_ble_eq_true rfl)⟩ ⟨(Nat.le_of_ble_eq_true rfl), (Nat.le_of_ble_eq_true rfl)⟩ (Nat.le_of_ble_eq_true rfl) [3, 8] [0, 1, 2, 4, 5, 6, 7] rfl rfl rfl rfl (by decide) [0, 1, 2, 7, 3, 4, 5, 6, 8] rfl (ws2 := fun _ => [((a 23), .inr (4, [.ref (a 24), .int (hM 23 1)])), ((a 24), .inl (xO E, 6, .inr (.inr (.inr (.inr (fun i => some (ha i))))))), ((ha 0), oX6 (hM 60)), ((ha 1), oX6 o2), ((ha 2), oX6 (hM 62)), ((ha 3), oX6 (hM 63)), ((ha 4), oX6 (hM 64)), ((ha 5), oX6 (hM 65)), (hp1, oX6 sp1)]) (fun _ => rfl) (fun _ => ?_)
      refine r.aload_n 0 (DX4_record 13 rfl) rfl ?_
      refine r.dup (DX4_record 14 rfl) rfl ?_
      refine r.get (v := .int (hM 23 1)) kX4 f_X4_16 rfl 0 rfl rfl (DX4_record 15 rfl) ?_
      refine r.iconst (v := (1 : Int32)) (DX4_record 16 rfl) rfl ?_
      refine r.iadd (DX4_record 17 rfl) ?_
      refine r.put (ws' := [((a 23), .inr (4, [.ref (a 24), .int ((hM 23 1) + (1 : Int32))])), ((a 24), .inl (xO E, 6, .inr (.inr (.inr (.inr (fun i => some (ha i))))))), ((ha 0), oX6 (hM 60)), ((ha 1), oX6 o2), ((ha 2), oX6 (hM 62)), ((ha 3), oX6 (hM 63)), ((ha 4), oX6 (hM 64)), ((ha 5), oX6 (hM 65)), (hp1, oX6 sp1)]) kX4 f_X4_16 0 rfl rfl rfl rfl (Nat.le_of_ble_eq_true rfl) rfl (DX4_record 18 rfl) ?_
      cases hxt
      exact hret _ _ _ (DX4_record 19 rfl) ⟨ha, rfl⟩
    refine xif hxt (fun hc hxt => ?_) (fun _ hxt => ?_)
    · refine r.aald (b := (ha 2)) 1 rfl (by rw [hc]; unfold vp_in; decide) (by rw [hc]; rfl) (DX4_record 10 rfl) ?_
      refine r.aload_n 1 (DX4_record 11 rfl) rfl ?_
      obtain ⟨o3, ho3, hxt⟩ := xbd hxt
      refine r.callVV 0 rfl rfl (t_X6_take E (fun _ => 0) (ha 2) hp1 (hM 62) sp1 ho3) g_X4_23 rfl (DX4_record 12 rfl) rfl ⟨(Nat.le_of_ble_eq_true rfl), (Nat.le_of_ble_eq_true rfl)⟩ ⟨(Nat.le_of_ble_eq_true rfl), (Nat.le_of_ble_eq_true rfl)⟩ (Nat.le_of_ble_eq_true rfl) [4, 8] [0, 1, 2, 3, 5, 6, 7] rfl rfl rfl rfl (by decide) [0, 1, 2, 3, 7, 4, 5, 6, 8] rfl (ws2 := fun _ => [((a 23), .inr (4, [.ref (a 24), .int (hM 23 1)])), ((a 24), .inl (xO E, 6, .inr (.inr (.inr (.inr (fun i => some (ha i))))))), ((ha 0), oX6 (hM 60)), ((ha 1), oX6 (hM 61)), ((ha 2), oX6 o3), ((ha 3), oX6 (hM 63)), ((ha 4), oX6 (hM 64)), ((ha 5), oX6 (hM 65)), (hp1, oX6 sp1)]) (fun _ => rfl) (fun _ => ?_)
      refine r.aload_n 0 (DX4_record 13 rfl) rfl ?_
      refine r.dup (DX4_record 14 rfl) rfl ?_
      refine r.get (v := .int (hM 23 1)) kX4 f_X4_16 rfl 0 rfl rfl (DX4_record 15 rfl) ?_
      refine r.iconst (v := (1 : Int32)) (DX4_record 16 rfl) rfl ?_
      refine r.iadd (DX4_record 17 rfl) ?_
      refine r.put (ws' := [((a 23), .inr (4, [.ref (a 24), .int ((hM 23 1) + (1 : Int32))])), ((a 24), .inl (xO E, 6, .inr (.inr (.inr (.inr (fun i => some (ha i))))))), ((ha 0), oX6 (hM 60)), ((ha 1), oX6 (hM 61)), ((ha 2), oX6 o3), ((ha 3), oX6 (hM 63)), ((ha 4), oX6 (hM 64)), ((ha 5), oX6 (hM 65)), (hp1, oX6 sp1)]) kX4 f_X4_16 0 rfl rfl rfl rfl (Nat.le_of_ble_eq_true rfl) rfl (DX4_record 18 rfl) ?_
      cases hxt
      exact hret _ _ _ (DX4_record 19 rfl) ⟨ha, rfl⟩
    refine xif hxt (fun hc hxt => ?_) (fun _ hxt => ?_)
    · refine r.aald (b := (ha 3)) 1 rfl (by rw [hc]; unfold vp_in; decide) (by rw [hc]; rfl) (DX4_record 10 rfl) ?_
      refine r.aload_n 1 (DX4_record 11 rfl) rfl ?_
      obtain ⟨o4, ho4, hxt⟩ := xbd hxt
      refine r.callVV 0 rfl rfl (t_X6_take E (fun _ => 0) (ha 3) hp1 (hM 63) sp1 ho4) g_X4_23 rfl (DX4_record 12 rfl) rfl ⟨(Nat.le_of_ble_eq_true rfl), (Nat.le_of_ble_eq_true rfl)⟩ ⟨(Nat.le_of_ble_eq_true rfl), (Nat.le_of_ble_eq_true rfl)⟩ (Nat.le_of_ble_eq_true rfl) [5, 8] [0, 1, 2, 3, 4, 6, 7] rfl rfl rfl rfl (by decide) [0, 1, 2, 3, 4, 7, 5, 6, 8] rfl (ws2 := fun _ => [((a 23), .inr (4, [.ref (a 24), .int (hM 23 1)])), ((a 24), .inl (xO E, 6, .inr (.inr (.inr (.inr (fun i => some (ha i))))))), ((ha 0), oX6 (hM 60)), ((ha 1), oX6 (hM 61)), ((ha 2), oX6 (hM 62)), ((ha 3), oX6 o4), ((ha 4), oX6 (hM 64)), ((ha 5), oX6 (hM 65)), (hp1, oX6 sp1)]) (fun _ => rfl) (fun _ => ?_)
      refine r.aload_n 0 (DX4_record 13 rfl) rfl ?_
      refine r.dup (DX4_record 14 rfl) rfl ?_
      refine r.get (v := .int (hM 23 1)) kX4 f_X4_16 rfl 0 rfl rfl (DX4_record 15 rfl) ?_
      refine r.iconst (v := (1 : Int32)) (DX4_record 16 rfl) rfl ?_
      refine r.iadd (DX4_record 17 rfl) ?_
      refine r.put (ws' := [((a 23), .inr (4, [.ref (a 24), .int ((hM 23 1) + (1 : Int32))])), ((a 24), .inl (xO E, 6, .inr (.inr (.inr (.inr (fun i => some (ha i))))))), ((ha 0), oX6 (hM 60)), ((ha 1), oX6 (hM 61)), ((ha 2), oX6 (hM 62)), ((ha 3), oX6 o4), ((ha 4), oX6 (hM 64)), ((ha 5), oX6 (hM 65)), (hp1, oX6 sp1)]) kX4 f_X4_16 0 rfl rfl rfl rfl (Nat.le_of_ble_eq_true rfl) rfl (DX4_record 18 rfl) ?_
      cases hxt
      exact hret _ _ _ (DX4_record 19 rfl) ⟨ha, rfl⟩
    refine xif hxt (fun hc hxt => ?_) (fun _ hxt => ?_)
    · refine r.aald (b := (ha 4)) 1 rfl (by rw [hc]; unfold vp_in; decide) (by rw [hc]; rfl) (DX4_record 10 rfl) ?_
      refine r.aload_n 1 (DX4_record 11 rfl) rfl ?_
      obtain ⟨o5, ho5, hxt⟩ := xbd hxt
      refine r.callVV 0 rfl rfl (t_X6_take E (fun _ => 0) (ha 4) hp1 (hM 64) sp1 ho5) g_X4_23 rfl (DX4_record 12 rfl) rfl ⟨(Nat.le_of_ble_eq_true rfl), (Nat.le_of_ble_eq_true rfl)⟩ ⟨(Nat.le_of_ble_eq_true rfl), (Nat.le_of_ble_eq_true rfl)⟩ (Nat.le_of_ble_eq_true rfl) [6, 8] [0, 1, 2, 3, 4, 5, 7] rfl rfl rfl rfl (by decide) [0, 1, 2, 3, 4, 5, 7, 6, 8] rfl (ws2 := fun _ => [((a 23), .inr (4, [.ref (a 24), .int (hM 23 1)])), ((a 24), .inl (xO E, 6, .inr (.inr (.inr (.inr (fun i => some (ha i))))))), ((ha 0), oX6 (hM 60)), ((ha 1), oX6 (hM 61)), ((ha 2), oX6 (hM 62)), ((ha 3), oX6 (hM 63)), ((ha 4), oX6 o5), ((ha 5), oX6 (hM 65)), (hp1, oX6 sp1)]) (fun _ => rfl) (fun _ => ?_)
      refine r.aload_n 0 (DX4_record 13 rfl) rfl ?_
      refine r.dup (DX4_record 14 rfl) rfl ?_
      refine r.get (v := .int (hM 23 1)) kX4 f_X4_16 rfl 0 rfl rfl (DX4_record 15 rfl) ?_
      refine r.iconst (v := (1 : Int32)) (DX4_record 16 rfl) rfl ?_
      refine r.iadd (DX4_record 17 rfl) ?_
      refine r.put (ws' := [((a 23), .inr (4, [.ref (a 24), .int ((hM 23 1) + (1 : Int32))])), ((a 24), .inl (xO E, 6, .inr (.inr (.inr (.inr (fun i => some (ha i))))))), ((ha 0), oX6 (hM 60)), ((ha 1), oX6 (hM 61)), ((ha 2), oX6 (hM 62)), ((ha 3), oX6 (hM 63)), ((ha 4), oX6 o5), ((ha 5), oX6 (hM 65)), (hp1, oX6 sp1)]) kX4 f_X4_16 0 rfl rfl rfl rfl (Nat.le_of_ble_eq_true rfl) rfl (DX4_record 18 rfl) ?_
      cases hxt
      exact hret _ _ _ (DX4_record 19 rfl) ⟨ha, rfl⟩
    refine xif hxt (fun hc hxt => ?_) (fun _ hxt => ?_)
    · refine r.aald (b := (ha 5)) 1 rfl (by rw [hc]; unfold vp_in; decide) (by rw [hc]; rfl) (DX4_record 10 rfl) ?_
      refine r.aload_n 1 (DX4_record 11 rfl) rfl ?_
      obtain ⟨o6, ho6, hxt⟩ := xbd hxt
      refine r.callVV 0 rfl rfl (t_X6_take E (fun _ => 0) (ha 5) hp1 (hM 65) sp1 ho6) g_X4_23 rfl (DX4_record 12 rfl) rfl ⟨(Nat.le_of_ble_eq_true rfl), (Nat.le_of_ble_eq_true rfl)⟩ ⟨(Nat.le_of_ble_eq_true rfl), (Nat.le_of_ble_eq_true rfl)⟩ (Nat.le_of_ble_eq_true rfl) [7, 8] [0, 1, 2, 3, 4, 5, 6] rfl rfl rfl rfl (by decide) [0, 1, 2, 3, 4, 5, 6, 7, 8] rfl (ws2 := fun _ => [((a 23), .inr (4, [.ref (a 24), .int (hM 23 1)])), ((a 24), .inl (xO E, 6, .inr (.inr (.inr (.inr (fun i => some (ha i))))))), ((ha 0), oX6 (hM 60)), ((ha 1), oX6 (hM 61)), ((ha 2), oX6 (hM 62)), ((ha 3), oX6 (hM 63)), ((ha 4), oX6 (hM 64)), ((ha 5), oX6 o6), (hp1, oX6 sp1)]) (fun _ => rfl) (fun _ => ?_)
      refine r.aload_n 0 (DX4_record 13 rfl) rfl ?_
      refine r.dup (DX4_record 14 rfl) rfl ?_
      refine r.get (v := .int (hM 23 1)) kX4 f_X4_16 rfl 0 rfl rfl (DX4_record 15 rfl) ?_
      refine r.iconst (v := (1 : Int32)) (DX4_record 16 rfl) rfl ?_
      refine r.iadd (DX4_record 17 rfl) ?_
      refine r.put (ws' := [((a 23), .inr (4, [.ref (a 24), .int ((hM 23 1) + (1 : Int32))])), ((a 24), .inl (xO E, 6, .inr (.inr (.inr (.inr (fun i => some (ha i))))))), ((ha 0), oX6 (hM 60)), ((ha 1), oX6 (hM 61)), ((ha 2), oX6 (hM 62)), ((ha 3), oX6 (hM 63)), ((ha 4), oX6 (hM 64)), ((ha 5), oX6 o6), (hp1, oX6 sp1)]) kX4 f_X4_16 0 rfl rfl rfl rfl (Nat.le_of_ble_eq_true rfl) rfl (DX4_record 18 rfl) ?_
      cases hxt
      exact hret _ _ _ (DX4_record 19 rfl) ⟨ha, rfl⟩
    cases hxt
  refine r.aload_n 0 (DX4_record 4 rfl) rfl ?_
  refine r.callVV 0 rfl rfl (t_X4_dropOldest E a ha hM) g_X4_20 rfl (DX4_record 5 rfl) rfl ⟨(Nat.le_of_ble_eq_true rfl), (Nat.le_of_ble_eq_true rfl)⟩ ⟨(Nat.le_of_ble_eq_true rfl), (Nat.le_of_ble_eq_true rfl)⟩ (Nat.le_of_ble_eq_true rfl) [0, 1, 2, 3, 4, 5, 6, 7] [8] rfl rfl rfl rfl (by decide) [1, 2, 3, 4, 5, 6, 7, 8, 0] rfl (ws2 := fun _ => [((a 23), .inr (4, [.ref (a 24), .int (5 : Int32)])), ((a 24), .inl (xO E, 6, .inr (.inr (.inr (.inr (va_up (va_up (va_up (va_up (va_up (va_up (fun i => some (ha i)) ((1 : Int32) - (1 : Int32)).toNatClampNeg (some (ha 1))) (((1 : Int32) + (1 : Int32)) - (1 : Int32)).toNatClampNeg (some (ha 2))) ((((1 : Int32) + (1 : Int32)) + (1 : Int32)) - (1 : Int32)).toNatClampNeg (some (ha 3))) (((((1 : Int32) + (1 : Int32)) + (1 : Int32)) + (1 : Int32)) - (1 : Int32)).toNatClampNeg (some (ha 4))) ((((((1 : Int32) + (1 : Int32)) + (1 : Int32)) + (1 : Int32)) + (1 : Int32)) - (1 : Int32)).toNatClampNeg (some (ha 5))) (5 : Int32).toNatClampNeg (some (ha 0)))))))), ((ha 0), oX6 (hM 60)), ((ha 1), oX6 (hM 61)), ((ha 2), oX6 (hM 62)), ((ha 3), oX6 (hM 63)), ((ha 4), oX6 (hM 64)), ((ha 5), oX6 (hM 65)), (hp1, oX6 sp1)]) (fun _ => rfl) (fun _ => ?_)
  refine r.aload_n 0 (DX4_record 6 rfl) rfl ?_
  refine r.get (v := .ref (a 24)) kX4 f_X4_11 rfl 0 rfl rfl (DX4_record 7 rfl) ?_
  refine r.aload_n 0 (DX4_record 8 rfl) rfl ?_
  refine r.get (v := .int (5 : Int32)) kX4 f_X4_16 rfl 0 rfl rfl (DX4_record 9 rfl) ?_
  refine r.aald (b := (ha 0)) 1 rfl (by unfold vp_in; decide) rfl (DX4_record 10 rfl) ?_
  refine r.aload_n 1 (DX4_record 11 rfl) rfl ?_
  obtain ⟨o7, ho7, hxt⟩ := xbd hxt
  refine r.callVV 0 rfl rfl (t_X6_take E (fun _ => 0) (ha 0) hp1 (hM 60) sp1 ho7) g_X4_23 rfl (DX4_record 12 rfl) rfl ⟨(Nat.le_of_ble_eq_true rfl), (Nat.le_of_ble_eq_true rfl)⟩ ⟨(Nat.le_of_ble_eq_true rfl), (Nat.le_of_ble_eq_true rfl)⟩ (Nat.le_of_ble_eq_true rfl) [2, 8] [0, 1, 3, 4, 5, 6, 7] rfl rfl rfl rfl (by decide) [0, 1, 7, 2, 3, 4, 5, 6, 8] rfl (ws2 := fun _ => [((a 23), .inr (4, [.ref (a 24), .int (5 : Int32)])), ((a 24), .inl (xO E, 6, .inr (.inr (.inr (.inr (va_up (va_up (va_up (va_up (va_up (va_up (fun i => some (ha i)) ((1 : Int32) - (1 : Int32)).toNatClampNeg (some (ha 1))) (((1 : Int32) + (1 : Int32)) - (1 : Int32)).toNatClampNeg (some (ha 2))) ((((1 : Int32) + (1 : Int32)) + (1 : Int32)) - (1 : Int32)).toNatClampNeg (some (ha 3))) (((((1 : Int32) + (1 : Int32)) + (1 : Int32)) + (1 : Int32)) - (1 : Int32)).toNatClampNeg (some (ha 4))) ((((((1 : Int32) + (1 : Int32)) + (1 : Int32)) + (1 : Int32)) + (1 : Int32)) - (1 : Int32)).toNatClampNeg (some (ha 5))) (5 : Int32).toNatClampNeg (some (ha 0)))))))), ((ha 0), oX6 o7), ((ha 1), oX6 (hM 61)), ((ha 2), oX6 (hM 62)), ((ha 3), oX6 (hM 63)), ((ha 4), oX6 (hM 64)), ((ha 5), oX6 (hM 65)), (hp1, oX6 sp1)]) (fun _ => rfl) (fun _ => ?_)
  refine r.aload_n 0 (DX4_record 13 rfl) rfl ?_
  refine r.dup (DX4_record 14 rfl) rfl ?_
  refine r.get (v := .int (5 : Int32)) kX4 f_X4_16 rfl 0 rfl rfl (DX4_record 15 rfl) ?_
  refine r.iconst (v := (1 : Int32)) (DX4_record 16 rfl) rfl ?_
  refine r.iadd (DX4_record 17 rfl) ?_
  refine r.put (ws' := [((a 23), .inr (4, [.ref (a 24), .int ((5 : Int32) + (1 : Int32))])), ((a 24), .inl (xO E, 6, .inr (.inr (.inr (.inr (va_up (va_up (va_up (va_up (va_up (va_up (fun i => some (ha i)) ((1 : Int32) - (1 : Int32)).toNatClampNeg (some (ha 1))) (((1 : Int32) + (1 : Int32)) - (1 : Int32)).toNatClampNeg (some (ha 2))) ((((1 : Int32) + (1 : Int32)) + (1 : Int32)) - (1 : Int32)).toNatClampNeg (some (ha 3))) (((((1 : Int32) + (1 : Int32)) + (1 : Int32)) + (1 : Int32)) - (1 : Int32)).toNatClampNeg (some (ha 4))) ((((((1 : Int32) + (1 : Int32)) + (1 : Int32)) + (1 : Int32)) + (1 : Int32)) - (1 : Int32)).toNatClampNeg (some (ha 5))) (5 : Int32).toNatClampNeg (some (ha 0)))))))), ((ha 0), oX6 o7), ((ha 1), oX6 (hM 61)), ((ha 2), oX6 (hM 62)), ((ha 3), oX6 (hM 63)), ((ha 4), oX6 (hM 64)), ((ha 5), oX6 (hM 65)), (hp1, oX6 sp1)]) kX4 f_X4_16 0 rfl rfl rfl rfl (Nat.le_of_ble_eq_true rfl) rfl (DX4_record 18 rfl) ?_
  cases hxt
  refine r.pmw (ws' := [((a 23), .inr (4, [.ref (a 24), .int ((5 : Int32) + (1 : Int32))])), ((a 24), .inl (xO E, 6, .inr (.inr (.inr (.inr (va_up (va_up (va_up (va_up (va_up (va_up (fun i => some (ha i)) ((1 : Int32) - (1 : Int32)).toNatClampNeg (some (ha 1))) (((1 : Int32) + (1 : Int32)) - (1 : Int32)).toNatClampNeg (some (ha 2))) ((((1 : Int32) + (1 : Int32)) + (1 : Int32)) - (1 : Int32)).toNatClampNeg (some (ha 3))) (((((1 : Int32) + (1 : Int32)) + (1 : Int32)) + (1 : Int32)) - (1 : Int32)).toNatClampNeg (some (ha 4))) ((((((1 : Int32) + (1 : Int32)) + (1 : Int32)) + (1 : Int32)) + (1 : Int32)) - (1 : Int32)).toNatClampNeg (some (ha 5))) (5 : Int32).toNatClampNeg (some (ha 0)))))))), ((ha 1), oX6 (hM 61)), ((ha 2), oX6 (hM 62)), ((ha 3), oX6 (hM 63)), ((ha 4), oX6 (hM 64)), ((ha 5), oX6 (hM 65)), ((ha 0), oX6 o7), (hp1, oX6 sp1)]) [0, 1, 3, 4, 5, 6, 7, 2, 8] rfl rfl ?_
  exact hret _ _ _ (DX4_record 19 rfl) ⟨xrot ha, by rw [xrot_e ha]; rfl⟩
set_option maxRecDepth 100000 in
set_option maxHeartbeats 4000000 in
theorem t_X4_takeBack (E : xE) (a : Nat → Nat) (ha : Nat → Nat) (hp1 : Nat) (sp1 : Nat → Int32) (hM : Mem) {o : (Nat → Int32) × Mem} (hxt : xt_X4_takeBack sp1 hM = some o) : xMV (S := Unit) E yX4_takeBack cX4_takeBack 2 1 0 0 [.ref (a 23), .ref hp1] [((a 23), .inr (4, [.ref (a 24), .int (hM 23 1)])), ((a 24), .inl (xO E, 6, .inr (.inr (.inr (.inr (fun i => some (ha i))))))), ((ha 0), oX6 (hM 60)), ((ha 1), oX6 (hM 61)), ((ha 2), oX6 (hM 62)), ((ha 3), oX6 (hM 63)), ((ha 4), oX6 (hM 64)), ((ha 5), oX6 (hM 65)), (hp1, oX6 sp1)] (fun _ => [(a 23, oX4 a (o.2 23)), (a 24, .inl (xO E, 6, .inr (.inr (.inr (.inr (fun i => some (ha i))))))), (ha 0, oX6 (hM 60)), (ha 1, oX6 (hM 61)), (ha 2, oX6 (hM 62)), (ha 3, oX6 (hM 63)), (ha 4, oX6 (hM 64)), (ha 5, oX6 (hM 65)), (hp1, oX6 o.1)]) := by
  refine xMV.of (own := RX4) (lo0 := [(0, .ref (a 23)), (1, .ref hp1)]) (ini := false) (fun h => nomatch h) (by decide +kernel) rfl rfl (Nat.le_of_ble_eq_true rfl) (fun V r hret => ?_)
  unfold xt_X4_takeBack at hxt
  refine r.aload_n 0 (DX4_takeBack 0 rfl) rfl ?_
  refine r.get (v := .int (hM 23 1)) kX4 f_X4_16 rfl 0 rfl rfl (DX4_takeBack 1 rfl) ?_
  refine r.if_le 30 (DX4_takeBack 2 rfl) rfl hxt (fun _ hxt => ?_) (fun _ hxt => ?_)
  · cases hxt
    exact hret _ _ _ (DX4_takeBack 16 rfl) ⟨(), rfl⟩
  refine r.aload_n 0 (DX4_takeBack 3 rfl) rfl ?_
  refine r.dup (DX4_takeBack 4 rfl) rfl ?_
  refine r.get (v := .int (hM 23 1)) kX4 f_X4_16 rfl 0 rfl rfl (DX4_takeBack 5 rfl) ?_
  refine r.iconst (v := (1 : Int32)) (DX4_takeBack 6 rfl) rfl ?_
  refine r.isub (DX4_takeBack 7 rfl) ?_
  refine r.put (ws' := [((a 23), .inr (4, [.ref (a 24), .int ((hM 23 1) - (1 : Int32))])), ((a 24), .inl (xO E, 6, .inr (.inr (.inr (.inr (fun i => some (ha i))))))), ((ha 0), oX6 (hM 60)), ((ha 1), oX6 (hM 61)), ((ha 2), oX6 (hM 62)), ((ha 3), oX6 (hM 63)), ((ha 4), oX6 (hM 64)), ((ha 5), oX6 (hM 65)), (hp1, oX6 sp1)]) kX4 f_X4_16 0 rfl rfl rfl rfl (Nat.le_of_ble_eq_true rfl) rfl (DX4_takeBack 8 rfl) ?_
  refine r.aload_n 1 (DX4_takeBack 9 rfl) rfl ?_
  refine r.aload_n 0 (DX4_takeBack 10 rfl) rfl ?_
  refine r.get (v := .ref (a 24)) kX4 f_X4_11 rfl 0 rfl rfl (DX4_takeBack 11 rfl) ?_
  refine r.aload_n 0 (DX4_takeBack 12 rfl) rfl ?_
  refine r.get (v := .int ((hM 23 1) - (1 : Int32))) kX4 f_X4_16 rfl 0 rfl rfl (DX4_takeBack 13 rfl) ?_
  refine xif hxt (fun hc hxt => ?_) (fun _ hxt => ?_)
  · refine r.aald (b := (ha 0)) 1 rfl (by rw [hc]; unfold vp_in; decide) (by rw [hc]; rfl) (DX4_takeBack 14 rfl) ?_
    obtain ⟨o1, ho1, hxt⟩ := xbd hxt
    refine r.callVV 0 rfl rfl (t_X6_take E (fun _ => 0) hp1 (ha 0) sp1 (hM 60) ho1) g_X4_23 rfl (DX4_takeBack 15 rfl) rfl ⟨(Nat.le_of_ble_eq_true rfl), (Nat.le_of_ble_eq_true rfl)⟩ ⟨(Nat.le_of_ble_eq_true rfl), (Nat.le_of_ble_eq_true rfl)⟩ (Nat.le_of_ble_eq_true rfl) [8, 2] [0, 1, 3, 4, 5, 6, 7] rfl rfl rfl rfl (by decide) [0, 1, 8, 2, 3, 4, 5, 6, 7] rfl (ws2 := fun _ => [((a 23), .inr (4, [.ref (a 24), .int ((hM 23 1) - (1 : Int32))])), ((a 24), .inl (xO E, 6, .inr (.inr (.inr (.inr (fun i => some (ha i))))))), ((ha 0), oX6 (hM 60)), ((ha 1), oX6 (hM 61)), ((ha 2), oX6 (hM 62)), ((ha 3), oX6 (hM 63)), ((ha 4), oX6 (hM 64)), ((ha 5), oX6 (hM 65)), (hp1, oX6 o1)]) (fun _ => rfl) (fun _ => ?_)
    cases hxt
    exact hret _ _ _ (DX4_takeBack 16 rfl) ⟨(), rfl⟩
  refine xif hxt (fun hc hxt => ?_) (fun _ hxt => ?_)
  · refine r.aald (b := (ha 1)) 1 rfl (by rw [hc]; unfold vp_in; decide) (by rw [hc]; rfl) (DX4_takeBack 14 rfl) ?_
    obtain ⟨o2, ho2, hxt⟩ := xbd hxt
    refine r.callVV 0 rfl rfl (t_X6_take E (fun _ => 0) hp1 (ha 1) sp1 (hM 61) ho2) g_X4_23 rfl (DX4_takeBack 15 rfl) rfl ⟨(Nat.le_of_ble_eq_true rfl), (Nat.le_of_ble_eq_true rfl)⟩ ⟨(Nat.le_of_ble_eq_true rfl), (Nat.le_of_ble_eq_true rfl)⟩ (Nat.le_of_ble_eq_true rfl) [8, 3] [0, 1, 2, 4, 5, 6, 7] rfl rfl rfl rfl (by decide) [0, 1, 2, 8, 3, 4, 5, 6, 7] rfl (ws2 := fun _ => [((a 23), .inr (4, [.ref (a 24), .int ((hM 23 1) - (1 : Int32))])), ((a 24), .inl (xO E, 6, .inr (.inr (.inr (.inr (fun i => some (ha i))))))), ((ha 0), oX6 (hM 60)), ((ha 1), oX6 (hM 61)), ((ha 2), oX6 (hM 62)), ((ha 3), oX6 (hM 63)), ((ha 4), oX6 (hM 64)), ((ha 5), oX6 (hM 65)), (hp1, oX6 o2)]) (fun _ => rfl) (fun _ => ?_)
    cases hxt
    exact hret _ _ _ (DX4_takeBack 16 rfl) ⟨(), rfl⟩
  refine xif hxt (fun hc hxt => ?_) (fun _ hxt => ?_)
  · refine r.aald (b := (ha 2)) 1 rfl (by rw [hc]; unfold vp_in; decide) (by rw [hc]; rfl) (DX4_takeBack 14 rfl) ?_
    obtain ⟨o3, ho3, hxt⟩ := xbd hxt
    refine r.callVV 0 rfl rfl (t_X6_take E (fun _ => 0) hp1 (ha 2) sp1 (hM 62) ho3) g_X4_23 rfl (DX4_takeBack 15 rfl) rfl ⟨(Nat.le_of_ble_eq_true rfl), (Nat.le_of_ble_eq_true rfl)⟩ ⟨(Nat.le_of_ble_eq_true rfl), (Nat.le_of_ble_eq_true rfl)⟩ (Nat.le_of_ble_eq_true rfl) [8, 4] [0, 1, 2, 3, 5, 6, 7] rfl rfl rfl rfl (by decide) [0, 1, 2, 3, 8, 4, 5, 6, 7] rfl (ws2 := fun _ => [((a 23), .inr (4, [.ref (a 24), .int ((hM 23 1) - (1 : Int32))])), ((a 24), .inl (xO E, 6, .inr (.inr (.inr (.inr (fun i => some (ha i))))))), ((ha 0), oX6 (hM 60)), ((ha 1), oX6 (hM 61)), ((ha 2), oX6 (hM 62)), ((ha 3), oX6 (hM 63)), ((ha 4), oX6 (hM 64)), ((ha 5), oX6 (hM 65)), (hp1, oX6 o3)]) (fun _ => rfl) (fun _ => ?_)
    cases hxt
    exact hret _ _ _ (DX4_takeBack 16 rfl) ⟨(), rfl⟩
  refine xif hxt (fun hc hxt => ?_) (fun _ hxt => ?_)
  · refine r.aald (b := (ha 3)) 1 rfl (by rw [hc]; unfold vp_in; decide) (by rw [hc]; rfl) (DX4_takeBack 14 rfl) ?_
    obtain ⟨o4, ho4, hxt⟩ := xbd hxt
    refine r.callVV 0 rfl rfl (t_X6_take E (fun _ => 0) hp1 (ha 3) sp1 (hM 63) ho4) g_X4_23 rfl (DX4_takeBack 15 rfl) rfl ⟨(Nat.le_of_ble_eq_true rfl), (Nat.le_of_ble_eq_true rfl)⟩ ⟨(Nat.le_of_ble_eq_true rfl), (Nat.le_of_ble_eq_true rfl)⟩ (Nat.le_of_ble_eq_true rfl) [8, 5] [0, 1, 2, 3, 4, 6, 7] rfl rfl rfl rfl (by decide) [0, 1, 2, 3, 4, 8, 5, 6, 7] rfl (ws2 := fun _ => [((a 23), .inr (4, [.ref (a 24), .int ((hM 23 1) - (1 : Int32))])), ((a 24), .inl (xO E, 6, .inr (.inr (.inr (.inr (fun i => some (ha i))))))), ((ha 0), oX6 (hM 60)), ((ha 1), oX6 (hM 61)), ((ha 2), oX6 (hM 62)), ((ha 3), oX6 (hM 63)), ((ha 4), oX6 (hM 64)), ((ha 5), oX6 (hM 65)), (hp1, oX6 o4)]) (fun _ => rfl) (fun _ => ?_)
    cases hxt
    exact hret _ _ _ (DX4_takeBack 16 rfl) ⟨(), rfl⟩
  refine xif hxt (fun hc hxt => ?_) (fun _ hxt => ?_)
  · refine r.aald (b := (ha 4)) 1 rfl (by rw [hc]; unfold vp_in; decide) (by rw [hc]; rfl) (DX4_takeBack 14 rfl) ?_
    obtain ⟨o5, ho5, hxt⟩ := xbd hxt
    refine r.callVV 0 rfl rfl (t_X6_take E (fun _ => 0) hp1 (ha 4) sp1 (hM 64) ho5) g_X4_23 rfl (DX4_takeBack 15 rfl) rfl ⟨(Nat.le_of_ble_eq_true rfl), (Nat.le_of_ble_eq_true rfl)⟩ ⟨(Nat.le_of_ble_eq_true rfl), (Nat.le_of_ble_eq_true rfl)⟩ (Nat.le_of_ble_eq_true rfl) [8, 6] [0, 1, 2, 3, 4, 5, 7] rfl rfl rfl rfl (by decide) [0, 1, 2, 3, 4, 5, 8, 6, 7] rfl (ws2 := fun _ => [((a 23), .inr (4, [.ref (a 24), .int ((hM 23 1) - (1 : Int32))])), ((a 24), .inl (xO E, 6, .inr (.inr (.inr (.inr (fun i => some (ha i))))))), ((ha 0), oX6 (hM 60)), ((ha 1), oX6 (hM 61)), ((ha 2), oX6 (hM 62)), ((ha 3), oX6 (hM 63)), ((ha 4), oX6 (hM 64)), ((ha 5), oX6 (hM 65)), (hp1, oX6 o5)]) (fun _ => rfl) (fun _ => ?_)
    cases hxt
    exact hret _ _ _ (DX4_takeBack 16 rfl) ⟨(), rfl⟩
  refine xif hxt (fun hc hxt => ?_) (fun _ hxt => ?_)
  · refine r.aald (b := (ha 5)) 1 rfl (by rw [hc]; unfold vp_in; decide) (by rw [hc]; rfl) (DX4_takeBack 14 rfl) ?_
    obtain ⟨o6, ho6, hxt⟩ := xbd hxt
    refine r.callVV 0 rfl rfl (t_X6_take E (fun _ => 0) hp1 (ha 5) sp1 (hM 65) ho6) g_X4_23 rfl (DX4_takeBack 15 rfl) rfl ⟨(Nat.le_of_ble_eq_true rfl), (Nat.le_of_ble_eq_true rfl)⟩ ⟨(Nat.le_of_ble_eq_true rfl), (Nat.le_of_ble_eq_true rfl)⟩ (Nat.le_of_ble_eq_true rfl) [8, 7] [0, 1, 2, 3, 4, 5, 6] rfl rfl rfl rfl (by decide) [0, 1, 2, 3, 4, 5, 6, 8, 7] rfl (ws2 := fun _ => [((a 23), .inr (4, [.ref (a 24), .int ((hM 23 1) - (1 : Int32))])), ((a 24), .inl (xO E, 6, .inr (.inr (.inr (.inr (fun i => some (ha i))))))), ((ha 0), oX6 (hM 60)), ((ha 1), oX6 (hM 61)), ((ha 2), oX6 (hM 62)), ((ha 3), oX6 (hM 63)), ((ha 4), oX6 (hM 64)), ((ha 5), oX6 (hM 65)), (hp1, oX6 o6)]) (fun _ => rfl) (fun _ => ?_)
    cases hxt
    exact hret _ _ _ (DX4_takeBack 16 rfl) ⟨(), rfl⟩
  cases hxt
end
