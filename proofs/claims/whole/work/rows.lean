section
-- ===== PART A: goes FIRST, ahead of the names: the tables' words, and 'selects' of the private methods out of them =====
/-- a private method of a class that the tables say can be made, by its rows of tables_1 -/
def lw_okq (q : MethodName × Nat) : Prop := (q.1.cls ≠ "java/lang/invoke/MethodHandle" ∧ q.1.cls ≠ "java/lang/invoke/VarHandle") ∧ Cond.instantiable q.1.cls q.2 ∈ tables_1 ∧ Cond.privateMethod q.1 ∈ tables_1 ∧ Cond.instanceMethod q.1 ∈ tables_1
theorem lw_p0 : lw_okq (⟨"CrookedFrames$Reader", "readItem", "(LCrookedFrames$Text;)Z"⟩, 2) := ⟨⟨by decide +kernel, by decide +kernel⟩, List.mem_of_getElem? (i := 47) (by decide +kernel), List.mem_of_getElem? (i := 328) (by decide +kernel), List.mem_of_getElem? (i := 329) (by decide +kernel)⟩
theorem lw_p1 : lw_okq (⟨"CrookedFrames$Reader", "readNumber", "(LCrookedFrames$Text;)I"⟩, 2) := ⟨⟨by decide +kernel, by decide +kernel⟩, List.mem_of_getElem? (i := 47) (by decide +kernel), List.mem_of_getElem? (i := 342) (by decide +kernel), List.mem_of_getElem? (i := 343) (by decide +kernel)⟩
theorem lw_p2 : lw_okq (⟨"CrookedFrames$House", "takeFrame", "(II)Z"⟩, 13) := ⟨⟨by decide +kernel, by decide +kernel⟩, List.mem_of_getElem? (i := 200) (by decide +kernel), List.mem_of_getElem? (i := 353) (by decide +kernel), List.mem_of_getElem? (i := 354) (by decide +kernel)⟩
theorem lw_p3 : lw_okq (⟨"CrookedFrames$House", "takeWire", "(II)Z"⟩, 13) := ⟨⟨by decide +kernel, by decide +kernel⟩, List.mem_of_getElem? (i := 200) (by decide +kernel), List.mem_of_getElem? (i := 358) (by decide +kernel), List.mem_of_getElem? (i := 359) (by decide +kernel)⟩
theorem lw_p4 : lw_okq (⟨"CrookedFrames$House", "takePerson", "(II)Z"⟩, 13) := ⟨⟨by decide +kernel, by decide +kernel⟩, List.mem_of_getElem? (i := 200) (by decide +kernel), List.mem_of_getElem? (i := 362) (by decide +kernel), List.mem_of_getElem? (i := 363) (by decide +kernel)⟩
theorem lw_p5 : lw_okq (⟨"CrookedFrames$House", "takeComing", "(III)Z"⟩, 13) := ⟨⟨by decide +kernel, by decide +kernel⟩, List.mem_of_getElem? (i := 200) (by decide +kernel), List.mem_of_getElem? (i := 366) (by decide +kernel), List.mem_of_getElem? (i := 367) (by decide +kernel)⟩
theorem lw_p6 : lw_okq (⟨"CrookedFrames$House", "takeTurn", "(III)Z"⟩, 13) := ⟨⟨by decide +kernel, by decide +kernel⟩, List.mem_of_getElem? (i := 200) (by decide +kernel), List.mem_of_getElem? (i := 370) (by decide +kernel), List.mem_of_getElem? (i := 371) (by decide +kernel)⟩
theorem lw_p7 : lw_okq (⟨"CrookedFrames$House", "takePatch", "(II)Z"⟩, 13) := ⟨⟨by decide +kernel, by decide +kernel⟩, List.mem_of_getElem? (i := 200) (by decide +kernel), List.mem_of_getElem? (i := 378) (by decide +kernel), List.mem_of_getElem? (i := 379) (by decide +kernel)⟩
theorem lw_p8 : lw_okq (⟨"CrookedFrames", "moveIn", "()V"⟩, 12) := ⟨⟨by decide +kernel, by decide +kernel⟩, List.mem_of_getElem? (i := 23) (by decide +kernel), List.mem_of_getElem? (i := 382) (by decide +kernel), List.mem_of_getElem? (i := 383) (by decide +kernel)⟩
theorem lw_p9 : lw_okq (⟨"CrookedFrames", "daysNow", "()LCrookedFrames$Days;"⟩, 12) := ⟨⟨by decide +kernel, by decide +kernel⟩, List.mem_of_getElem? (i := 23) (by decide +kernel), List.mem_of_getElem? (i := 466) (by decide +kernel), List.mem_of_getElem? (i := 467) (by decide +kernel)⟩
theorem lw_p10 : lw_okq (⟨"CrookedFrames$House", "firstTempting", "(II[I)I"⟩, 13) := ⟨⟨by decide +kernel, by decide +kernel⟩, List.mem_of_getElem? (i := 200) (by decide +kernel), List.mem_of_getElem? (i := 502) (by decide +kernel), List.mem_of_getElem? (i := 503) (by decide +kernel)⟩
theorem lw_p11 : lw_okq (⟨"CrookedFrames$Days", "isAsAhead", "(LCrookedFrames$House;I)Z"⟩, 5) := ⟨⟨by decide +kernel, by decide +kernel⟩, List.mem_of_getElem? (i := 101) (by decide +kernel), List.mem_of_getElem? (i := 537) (by decide +kernel), List.mem_of_getElem? (i := 538) (by decide +kernel)⟩
theorem lw_p12 : lw_okq (⟨"CrookedFrames$Days", "swaysOne", "(I)Z"⟩, 5) := ⟨⟨by decide +kernel, by decide +kernel⟩, List.mem_of_getElem? (i := 101) (by decide +kernel), List.mem_of_getElem? (i := 549) (by decide +kernel), List.mem_of_getElem? (i := 550) (by decide +kernel)⟩
theorem lw_p13 : lw_okq (⟨"CrookedFrames$Lures", "isWon", "(LCrookedFrames$House;[IIII)Z"⟩, 5) := ⟨⟨by decide +kernel, by decide +kernel⟩, List.mem_of_getElem? (i := 130) (by decide +kernel), List.mem_of_getElem? (i := 592) (by decide +kernel), List.mem_of_getElem? (i := 593) (by decide +kernel)⟩
theorem lw_p14 : lw_okq (⟨"CrookedFrames$Lures", "wonWith", "(LCrookedFrames$House;[III)I"⟩, 5) := ⟨⟨by decide +kernel, by decide +kernel⟩, List.mem_of_getElem? (i := 130) (by decide +kernel), List.mem_of_getElem? (i := 597) (by decide +kernel), List.mem_of_getElem? (i := 598) (by decide +kernel)⟩
theorem lw_p15 : lw_okq (⟨"CrookedFrames$Lures", "reachAll", "(LCrookedFrames$House;[I)V"⟩, 5) := ⟨⟨by decide +kernel, by decide +kernel⟩, List.mem_of_getElem? (i := 130) (by decide +kernel), List.mem_of_getElem? (i := 611) (by decide +kernel), List.mem_of_getElem? (i := 612) (by decide +kernel)⟩
def lw_privs_1 : List (MethodName × Nat) := [(⟨"CrookedFrames$Reader", "readItem", "(LCrookedFrames$Text;)Z"⟩, 2), (⟨"CrookedFrames$Reader", "readNumber", "(LCrookedFrames$Text;)I"⟩, 2), (⟨"CrookedFrames$House", "takeFrame", "(II)Z"⟩, 13), (⟨"CrookedFrames$House", "takeWire", "(II)Z"⟩, 13), (⟨"CrookedFrames$House", "takePerson", "(II)Z"⟩, 13), (⟨"CrookedFrames$House", "takeComing", "(III)Z"⟩, 13), (⟨"CrookedFrames$House", "takeTurn", "(III)Z"⟩, 13), (⟨"CrookedFrames$House", "takePatch", "(II)Z"⟩, 13), (⟨"CrookedFrames", "moveIn", "()V"⟩, 12), (⟨"CrookedFrames", "daysNow", "()LCrookedFrames$Days;"⟩, 12), (⟨"CrookedFrames$House", "firstTempting", "(II[I)I"⟩, 13), (⟨"CrookedFrames$Days", "isAsAhead", "(LCrookedFrames$House;I)Z"⟩, 5), (⟨"CrookedFrames$Days", "swaysOne", "(I)Z"⟩, 5), (⟨"CrookedFrames$Lures", "isWon", "(LCrookedFrames$House;[IIII)Z"⟩, 5), (⟨"CrookedFrames$Lures", "wonWith", "(LCrookedFrames$House;[III)I"⟩, 5), (⟨"CrookedFrames$Lures", "reachAll", "(LCrookedFrames$House;[I)V"⟩, 5)]
theorem lw_r1 : ∀ q ∈ lw_privs_1, lw_okq q := List.forall_mem_cons.mpr ⟨lw_p0, List.forall_mem_cons.mpr ⟨lw_p1, List.forall_mem_cons.mpr ⟨lw_p2, List.forall_mem_cons.mpr ⟨lw_p3, List.forall_mem_cons.mpr ⟨lw_p4, List.forall_mem_cons.mpr ⟨lw_p5, List.forall_mem_cons.mpr ⟨lw_p6, List.forall_mem_cons.mpr ⟨lw_p7, List.forall_mem_cons.mpr ⟨lw_p8, List.forall_mem_cons.mpr ⟨lw_p9, List.forall_mem_cons.mpr ⟨lw_p10, List.forall_mem_cons.mpr ⟨lw_p11, List.forall_mem_cons.mpr ⟨lw_p12, List.forall_mem_cons.mpr ⟨lw_p13, List.forall_mem_cons.mpr ⟨lw_p14, List.forall_mem_cons.mpr ⟨lw_p15, fun _ h => absurd h List.not_mem_nil⟩⟩⟩⟩⟩⟩⟩⟩⟩⟩⟩⟩⟩⟩⟩⟩
theorem lw_p16 : lw_okq (⟨"CrookedFrames$Lures", "findAlike", "(LCrookedFrames$House;)V"⟩, 5) := ⟨⟨by decide +kernel, by decide +kernel⟩, List.mem_of_getElem? (i := 130) (by decide +kernel), List.mem_of_getElem? (i := 615) (by decide +kernel), List.mem_of_getElem? (i := 616) (by decide +kernel)⟩
theorem lw_p17 : lw_okq (⟨"CrookedFrames$Lures", "areAlike", "(LCrookedFrames$House;II)Z"⟩, 5) := ⟨⟨by decide +kernel, by decide +kernel⟩, List.mem_of_getElem? (i := 130) (by decide +kernel), List.mem_of_getElem? (i := 619) (by decide +kernel), List.mem_of_getElem? (i := 620) (by decide +kernel)⟩
theorem lw_p18 : lw_okq (⟨"CrookedFrames$Lures", "reach", "(LCrookedFrames$House;III)V"⟩, 5) := ⟨⟨by decide +kernel, by decide +kernel⟩, List.mem_of_getElem? (i := 130) (by decide +kernel), List.mem_of_getElem? (i := 625) (by decide +kernel), List.mem_of_getElem? (i := 626) (by decide +kernel)⟩
theorem lw_p19 : lw_okq (⟨"CrookedFrames$Lures", "addReached", "(II)V"⟩, 5) := ⟨⟨by decide +kernel, by decide +kernel⟩, List.mem_of_getElem? (i := 130) (by decide +kernel), List.mem_of_getElem? (i := 632) (by decide +kernel), List.mem_of_getElem? (i := 633) (by decide +kernel)⟩
theorem lw_p20 : lw_okq (⟨"CrookedFrames$Lures", "isWonByReached", "(LCrookedFrames$House;[III)Z"⟩, 5) := ⟨⟨by decide +kernel, by decide +kernel⟩, List.mem_of_getElem? (i := 130) (by decide +kernel), List.mem_of_getElem? (i := 636) (by decide +kernel), List.mem_of_getElem? (i := 637) (by decide +kernel)⟩
theorem lw_p21 : lw_okq (⟨"CrookedFrames$Lures", "isWonByBoth", "(LCrookedFrames$House;[IIII)Z"⟩, 5) := ⟨⟨by decide +kernel, by decide +kernel⟩, List.mem_of_getElem? (i := 130) (by decide +kernel), List.mem_of_getElem? (i := 640) (by decide +kernel), List.mem_of_getElem? (i := 641) (by decide +kernel)⟩
theorem lw_p22 : lw_okq (⟨"CrookedFrames$Sights", "fits", "(II)Z"⟩, 4) := ⟨⟨by decide +kernel, by decide +kernel⟩, List.mem_of_getElem? (i := 153) (by decide +kernel), List.mem_of_getElem? (i := 682) (by decide +kernel), List.mem_of_getElem? (i := 683) (by decide +kernel)⟩
theorem lw_p23 : lw_okq (⟨"CrookedFrames$Draws", "turnOne", "(II)V"⟩, 2) := ⟨⟨by decide +kernel, by decide +kernel⟩, List.mem_of_getElem? (i := 173) (by decide +kernel), List.mem_of_getElem? (i := 761) (by decide +kernel), List.mem_of_getElem? (i := 762) (by decide +kernel)⟩
theorem lw_p24 : lw_okq (⟨"CrookedFramesModel", "orders", "()V"⟩, 32) := ⟨⟨by decide +kernel, by decide +kernel⟩, List.mem_of_getElem? (i := 785) (by decide +kernel), List.mem_of_getElem? (i := 794) (by decide +kernel), List.mem_of_getElem? (i := 795) (by decide +kernel)⟩
theorem lw_p25 : lw_okq (⟨"CrookedFramesModel", "readItem", "()Z"⟩, 32) := ⟨⟨by decide +kernel, by decide +kernel⟩, List.mem_of_getElem? (i := 785) (by decide +kernel), List.mem_of_getElem? (i := 910) (by decide +kernel), List.mem_of_getElem? (i := 911) (by decide +kernel)⟩
theorem lw_p26 : lw_okq (⟨"CrookedFramesModel", "letterAt", "(I)I"⟩, 32) := ⟨⟨by decide +kernel, by decide +kernel⟩, List.mem_of_getElem? (i := 785) (by decide +kernel), List.mem_of_getElem? (i := 914) (by decide +kernel), List.mem_of_getElem? (i := 915) (by decide +kernel)⟩
theorem lw_p27 : lw_okq (⟨"CrookedFramesModel", "readFrameOf", "()Z"⟩, 32) := ⟨⟨by decide +kernel, by decide +kernel⟩, List.mem_of_getElem? (i := 785) (by decide +kernel), List.mem_of_getElem? (i := 918) (by decide +kernel), List.mem_of_getElem? (i := 919) (by decide +kernel)⟩
theorem lw_p28 : lw_okq (⟨"CrookedFramesModel", "readNumbers", "(I)Z"⟩, 32) := ⟨⟨by decide +kernel, by decide +kernel⟩, List.mem_of_getElem? (i := 785) (by decide +kernel), List.mem_of_getElem? (i := 922) (by decide +kernel), List.mem_of_getElem? (i := 923) (by decide +kernel)⟩
theorem lw_p29 : lw_okq (⟨"CrookedFramesModel", "isTold", "(III)Z"⟩, 32) := ⟨⟨by decide +kernel, by decide +kernel⟩, List.mem_of_getElem? (i := 785) (by decide +kernel), List.mem_of_getElem? (i := 929) (by decide +kernel), List.mem_of_getElem? (i := 930) (by decide +kernel)⟩
theorem lw_p30 : lw_okq (⟨"CrookedFramesModel", "readTwist", "()Z"⟩, 32) := ⟨⟨by decide +kernel, by decide +kernel⟩, List.mem_of_getElem? (i := 785) (by decide +kernel), List.mem_of_getElem? (i := 933) (by decide +kernel), List.mem_of_getElem? (i := 934) (by decide +kernel)⟩
theorem lw_p31 : lw_okq (⟨"CrookedFramesModel", "readPersonOf", "()Z"⟩, 32) := ⟨⟨by decide +kernel, by decide +kernel⟩, List.mem_of_getElem? (i := 785) (by decide +kernel), List.mem_of_getElem? (i := 937) (by decide +kernel), List.mem_of_getElem? (i := 938) (by decide +kernel)⟩
def lw_privs_2 : List (MethodName × Nat) := [(⟨"CrookedFrames$Lures", "findAlike", "(LCrookedFrames$House;)V"⟩, 5), (⟨"CrookedFrames$Lures", "areAlike", "(LCrookedFrames$House;II)Z"⟩, 5), (⟨"CrookedFrames$Lures", "reach", "(LCrookedFrames$House;III)V"⟩, 5), (⟨"CrookedFrames$Lures", "addReached", "(II)V"⟩, 5), (⟨"CrookedFrames$Lures", "isWonByReached", "(LCrookedFrames$House;[III)Z"⟩, 5), (⟨"CrookedFrames$Lures", "isWonByBoth", "(LCrookedFrames$House;[IIII)Z"⟩, 5), (⟨"CrookedFrames$Sights", "fits", "(II)Z"⟩, 4), (⟨"CrookedFrames$Draws", "turnOne", "(II)V"⟩, 2), (⟨"CrookedFramesModel", "orders", "()V"⟩, 32), (⟨"CrookedFramesModel", "readItem", "()Z"⟩, 32), (⟨"CrookedFramesModel", "letterAt", "(I)I"⟩, 32), (⟨"CrookedFramesModel", "readFrameOf", "()Z"⟩, 32), (⟨"CrookedFramesModel", "readNumbers", "(I)Z"⟩, 32), (⟨"CrookedFramesModel", "isTold", "(III)Z"⟩, 32), (⟨"CrookedFramesModel", "readTwist", "()Z"⟩, 32), (⟨"CrookedFramesModel", "readPersonOf", "()Z"⟩, 32)]
theorem lw_r2 : ∀ q ∈ lw_privs_2, lw_okq q := List.forall_mem_cons.mpr ⟨lw_p16, List.forall_mem_cons.mpr ⟨lw_p17, List.forall_mem_cons.mpr ⟨lw_p18, List.forall_mem_cons.mpr ⟨lw_p19, List.forall_mem_cons.mpr ⟨lw_p20, List.forall_mem_cons.mpr ⟨lw_p21, List.forall_mem_cons.mpr ⟨lw_p22, List.forall_mem_cons.mpr ⟨lw_p23, List.forall_mem_cons.mpr ⟨lw_p24, List.forall_mem_cons.mpr ⟨lw_p25, List.forall_mem_cons.mpr ⟨lw_p26, List.forall_mem_cons.mpr ⟨lw_p27, List.forall_mem_cons.mpr ⟨lw_p28, List.forall_mem_cons.mpr ⟨lw_p29, List.forall_mem_cons.mpr ⟨lw_p30, List.forall_mem_cons.mpr ⟨lw_p31, fun _ h => absurd h List.not_mem_nil⟩⟩⟩⟩⟩⟩⟩⟩⟩⟩⟩⟩⟩⟩⟩⟩
theorem lw_p32 : lw_okq (⟨"CrookedFramesModel", "readComingOf", "()Z"⟩, 32) := ⟨⟨by decide +kernel, by decide +kernel⟩, List.mem_of_getElem? (i := 785) (by decide +kernel), List.mem_of_getElem? (i := 944) (by decide +kernel), List.mem_of_getElem? (i := 945) (by decide +kernel)⟩
theorem lw_p33 : lw_okq (⟨"CrookedFramesModel", "readTurn", "()Z"⟩, 32) := ⟨⟨by decide +kernel, by decide +kernel⟩, List.mem_of_getElem? (i := 785) (by decide +kernel), List.mem_of_getElem? (i := 948) (by decide +kernel), List.mem_of_getElem? (i := 949) (by decide +kernel)⟩
theorem lw_p34 : lw_okq (⟨"CrookedFramesModel", "readPatch", "()Z"⟩, 32) := ⟨⟨by decide +kernel, by decide +kernel⟩, List.mem_of_getElem? (i := 785) (by decide +kernel), List.mem_of_getElem? (i := 952) (by decide +kernel), List.mem_of_getElem? (i := 953) (by decide +kernel)⟩
theorem lw_p35 : lw_okq (⟨"CrookedFramesModel", "isFrame", "(I)Z"⟩, 32) := ⟨⟨by decide +kernel, by decide +kernel⟩, List.mem_of_getElem? (i := 785) (by decide +kernel), List.mem_of_getElem? (i := 965) (by decide +kernel), List.mem_of_getElem? (i := 966) (by decide +kernel)⟩
theorem lw_p36 : lw_okq (⟨"CrookedFramesModel", "isPerson", "(I)Z"⟩, 32) := ⟨⟨by decide +kernel, by decide +kernel⟩, List.mem_of_getElem? (i := 785) (by decide +kernel), List.mem_of_getElem? (i := 973) (by decide +kernel), List.mem_of_getElem? (i := 974) (by decide +kernel)⟩
theorem lw_p37 : lw_okq (⟨"CrookedFramesModel", "goes", "(I)V"⟩, 32) := ⟨⟨by decide +kernel, by decide +kernel⟩, List.mem_of_getElem? (i := 785) (by decide +kernel), List.mem_of_getElem? (i := 984) (by decide +kernel), List.mem_of_getElem? (i := 985) (by decide +kernel)⟩
theorem lw_p38 : lw_okq (⟨"CrookedFramesModel", "begins", "()V"⟩, 32) := ⟨⟨by decide +kernel, by decide +kernel⟩, List.mem_of_getElem? (i := 785) (by decide +kernel), List.mem_of_getElem? (i := 988) (by decide +kernel), List.mem_of_getElem? (i := 989) (by decide +kernel)⟩
theorem lw_p39 : lw_okq (⟨"CrookedFramesModel", "nightOf", "(I)V"⟩, 32) := ⟨⟨by decide +kernel, by decide +kernel⟩, List.mem_of_getElem? (i := 785) (by decide +kernel), List.mem_of_getElem? (i := 992) (by decide +kernel), List.mem_of_getElem? (i := 993) (by decide +kernel)⟩
theorem lw_p40 : lw_okq (⟨"CrookedFramesModel", "twists", "()V"⟩, 32) := ⟨⟨by decide +kernel, by decide +kernel⟩, List.mem_of_getElem? (i := 785) (by decide +kernel), List.mem_of_getElem? (i := 996) (by decide +kernel), List.mem_of_getElem? (i := 997) (by decide +kernel)⟩
theorem lw_p41 : lw_okq (⟨"CrookedFramesModel", "turnsBy", "(II)V"⟩, 32) := ⟨⟨by decide +kernel, by decide +kernel⟩, List.mem_of_getElem? (i := 785) (by decide +kernel), List.mem_of_getElem? (i := 1003) (by decide +kernel), List.mem_of_getElem? (i := 1004) (by decide +kernel)⟩
theorem lw_p42 : lw_okq (⟨"CrookedFramesModel", "morning", "()V"⟩, 32) := ⟨⟨by decide +kernel, by decide +kernel⟩, List.mem_of_getElem? (i := 785) (by decide +kernel), List.mem_of_getElem? (i := 1007) (by decide +kernel), List.mem_of_getElem? (i := 1008) (by decide +kernel)⟩
theorem lw_p43 : lw_okq (⟨"CrookedFramesModel", "comes", "(II)V"⟩, 32) := ⟨⟨by decide +kernel, by decide +kernel⟩, List.mem_of_getElem? (i := 785) (by decide +kernel), List.mem_of_getElem? (i := 1011) (by decide +kernel), List.mem_of_getElem? (i := 1012) (by decide +kernel)⟩
theorem lw_p44 : lw_okq (⟨"CrookedFramesModel", "madeBy", "(II)I"⟩, 32) := ⟨⟨by decide +kernel, by decide +kernel⟩, List.mem_of_getElem? (i := 785) (by decide +kernel), List.mem_of_getElem? (i := 1018) (by decide +kernel), List.mem_of_getElem? (i := 1019) (by decide +kernel)⟩
theorem lw_p45 : lw_okq (⟨"CrookedFramesModel", "remembers", "()V"⟩, 32) := ⟨⟨by decide +kernel, by decide +kernel⟩, List.mem_of_getElem? (i := 785) (by decide +kernel), List.mem_of_getElem? (i := 1055) (by decide +kernel), List.mem_of_getElem? (i := 1056) (by decide +kernel)⟩
theorem lw_p46 : lw_okq (⟨"CrookedFramesModel", "tempted", "(I)I"⟩, 32) := ⟨⟨by decide +kernel, by decide +kernel⟩, List.mem_of_getElem? (i := 785) (by decide +kernel), List.mem_of_getElem? (i := 1071) (by decide +kernel), List.mem_of_getElem? (i := 1072) (by decide +kernel)⟩
theorem lw_p47 : lw_okq (⟨"CrookedFramesModel", "tries", "(I)V"⟩, 32) := ⟨⟨by decide +kernel, by decide +kernel⟩, List.mem_of_getElem? (i := 785) (by decide +kernel), List.mem_of_getElem? (i := 1075) (by decide +kernel), List.mem_of_getElem? (i := 1076) (by decide +kernel)⟩
def lw_privs_3 : List (MethodName × Nat) := [(⟨"CrookedFramesModel", "readComingOf", "()Z"⟩, 32), (⟨"CrookedFramesModel", "readTurn", "()Z"⟩, 32), (⟨"CrookedFramesModel", "readPatch", "()Z"⟩, 32), (⟨"CrookedFramesModel", "isFrame", "(I)Z"⟩, 32), (⟨"CrookedFramesModel", "isPerson", "(I)Z"⟩, 32), (⟨"CrookedFramesModel", "goes", "(I)V"⟩, 32), (⟨"CrookedFramesModel", "begins", "()V"⟩, 32), (⟨"CrookedFramesModel", "nightOf", "(I)V"⟩, 32), (⟨"CrookedFramesModel", "twists", "()V"⟩, 32), (⟨"CrookedFramesModel", "turnsBy", "(II)V"⟩, 32), (⟨"CrookedFramesModel", "morning", "()V"⟩, 32), (⟨"CrookedFramesModel", "comes", "(II)V"⟩, 32), (⟨"CrookedFramesModel", "madeBy", "(II)I"⟩, 32), (⟨"CrookedFramesModel", "remembers", "()V"⟩, 32), (⟨"CrookedFramesModel", "tempted", "(I)I"⟩, 32), (⟨"CrookedFramesModel", "tries", "(I)V"⟩, 32)]
theorem lw_r3 : ∀ q ∈ lw_privs_3, lw_okq q := List.forall_mem_cons.mpr ⟨lw_p32, List.forall_mem_cons.mpr ⟨lw_p33, List.forall_mem_cons.mpr ⟨lw_p34, List.forall_mem_cons.mpr ⟨lw_p35, List.forall_mem_cons.mpr ⟨lw_p36, List.forall_mem_cons.mpr ⟨lw_p37, List.forall_mem_cons.mpr ⟨lw_p38, List.forall_mem_cons.mpr ⟨lw_p39, List.forall_mem_cons.mpr ⟨lw_p40, List.forall_mem_cons.mpr ⟨lw_p41, List.forall_mem_cons.mpr ⟨lw_p42, List.forall_mem_cons.mpr ⟨lw_p43, List.forall_mem_cons.mpr ⟨lw_p44, List.forall_mem_cons.mpr ⟨lw_p45, List.forall_mem_cons.mpr ⟨lw_p46, List.forall_mem_cons.mpr ⟨lw_p47, fun _ h => absurd h List.not_mem_nil⟩⟩⟩⟩⟩⟩⟩⟩⟩⟩⟩⟩⟩⟩⟩⟩
theorem lw_p48 : lw_okq (⟨"CrookedFramesModel", "fromDawn", "()V"⟩, 32) := ⟨⟨by decide +kernel, by decide +kernel⟩, List.mem_of_getElem? (i := 785) (by decide +kernel), List.mem_of_getElem? (i := 1079) (by decide +kernel), List.mem_of_getElem? (i := 1080) (by decide +kernel)⟩
theorem lw_p49 : lw_okq (⟨"CrookedFramesModel", "byOf", "(I)I"⟩, 32) := ⟨⟨by decide +kernel, by decide +kernel⟩, List.mem_of_getElem? (i := 785) (by decide +kernel), List.mem_of_getElem? (i := 1083) (by decide +kernel), List.mem_of_getElem? (i := 1084) (by decide +kernel)⟩
theorem lw_p50 : lw_okq (⟨"CrookedFramesModel", "borne", "(I)I"⟩, 32) := ⟨⟨by decide +kernel, by decide +kernel⟩, List.mem_of_getElem? (i := 785) (by decide +kernel), List.mem_of_getElem? (i := 1099) (by decide +kernel), List.mem_of_getElem? (i := 1100) (by decide +kernel)⟩
theorem lw_p51 : lw_okq (⟨"CrookedFramesModel", "bearsBy", "(I)I"⟩, 32) := ⟨⟨by decide +kernel, by decide +kernel⟩, List.mem_of_getElem? (i := 785) (by decide +kernel), List.mem_of_getElem? (i := 1115) (by decide +kernel), List.mem_of_getElem? (i := 1116) (by decide +kernel)⟩
def lw_privs_4 : List (MethodName × Nat) := [(⟨"CrookedFramesModel", "fromDawn", "()V"⟩, 32), (⟨"CrookedFramesModel", "byOf", "(I)I"⟩, 32), (⟨"CrookedFramesModel", "borne", "(I)I"⟩, 32), (⟨"CrookedFramesModel", "bearsBy", "(I)I"⟩, 32)]
theorem lw_r4 : ∀ q ∈ lw_privs_4, lw_okq q := List.forall_mem_cons.mpr ⟨lw_p48, List.forall_mem_cons.mpr ⟨lw_p49, List.forall_mem_cons.mpr ⟨lw_p50, List.forall_mem_cons.mpr ⟨lw_p51, fun _ h => absurd h List.not_mem_nil⟩⟩⟩⟩
def lw_privs : List (MethodName × Nat) := lw_privs_1 ++ (lw_privs_2 ++ (lw_privs_3 ++ (lw_privs_4)))
def lw_tbl : List Cond := k2_sels lw_privs ++ tables_1
theorem lw_privs_ok : ∀ q ∈ lw_privs, lw_okq q := by
  show ∀ q ∈ lw_privs_1 ++ (lw_privs_2 ++ (lw_privs_3 ++ (lw_privs_4))), lw_okq q
  exact List.forall_mem_append.mpr ⟨lw_r1, List.forall_mem_append.mpr ⟨lw_r2, List.forall_mem_append.mpr ⟨lw_r3, lw_r4⟩⟩⟩
-- ===== end of PART A; then your names; then what follows =====
end
section
def RX0 : String := "CrookedFrames$Chance"
def TX0 : u_T := fun k => match k with
  | 0 => ("CrookedFrames$Chance", "ways", "[I", false)
  | _ => ("CrookedFrames$Chance", "next", "[I", false)
def tyX0 : Nat → FieldType := fun k => match k with
  | 0 => .array .int
  | _ => .array .int
theorem nmX0 : ∀ a, a < 2 → ∀ b, b < 2 → a ≠ b → (TX0 a).2.1 ≠ (TX0 b).2.1 := by decide +kernel
theorem tyX0_ok : ∀ k, k < 2 → parseFieldDescriptor (TX0 k).2.2.1 = some (tyX0 k) := by decide +kernel
abbrev cX0_init : ByteArray := prog_2_method_1_code
def yX0_init : MethodName := ⟨RX0, "<init>", "()V"⟩
abbrev cX0_twist : ByteArray := prog_2_method_2_code
def yX0_twist : MethodName := ⟨RX0, "twist", "(III)V"⟩
abbrev cX0_waysWithin : ByteArray := prog_2_method_3_code
def yX0_waysWithin : MethodName := ⟨RX0, "waysWithin", "(II)I"⟩
abbrev cX0_allWays : ByteArray := prog_2_method_4_code
def yX0_allWays : MethodName := ⟨RX0, "allWays", "(I)I"⟩
abbrev cX0_commonDivisor : ByteArray := prog_2_method_5_code
def yX0_commonDivisor : MethodName := ⟨RX0, "commonDivisor", "(II)I"⟩
def RX1 : String := "CrookedFrames$Days"
def TX1 : u_T := fun k => match k with
  | 0 => ("CrookedFrames$Days", "mornings", "[[I", true)
  | 1 => ("CrookedFrames$Days", "evenings", "[[I", true)
  | 2 => ("CrookedFrames$Days", "righted", "[[I", true)
  | 3 => ("CrookedFrames$Days", "won", "[I", true)
  | _ => ("CrookedFrames$Days", "stale", "Z", false)
def tyX1 : Nat → FieldType := fun k => match k with
  | 0 => .array (.array .int)
  | 1 => .array (.array .int)
  | 2 => .array (.array .int)
  | 3 => .array .int
  | _ => .boolean
theorem nmX1 : ∀ a, a < 5 → ∀ b, b < 5 → a ≠ b → (TX1 a).2.1 ≠ (TX1 b).2.1 := by decide +kernel
theorem tyX1_ok : ∀ k, k < 5 → parseFieldDescriptor (TX1 k).2.2.1 = some (tyX1 k) := by decide +kernel
abbrev cX1_init : ByteArray := prog_3_method_1_code
def yX1_init : MethodName := ⟨RX1, "<init>", "()V"⟩
abbrev cX1_play : ByteArray := prog_3_method_2_code
def yX1_play : MethodName := ⟨RX1, "play", "(LCrookedFrames$House;LCrookedFrames$Turns;)V"⟩
abbrev cX1_firstOfRest : ByteArray := prog_3_method_3_code
def yX1_firstOfRest : MethodName := ⟨RX1, "firstOfRest", "(LCrookedFrames$House;)I"⟩
abbrev cX1_isAsAhead : ByteArray := prog_3_method_4_code
def yX1_isAsAhead : MethodName := ⟨RX1, "isAsAhead", "(LCrookedFrames$House;I)Z"⟩
abbrev cX1_swaying : ByteArray := prog_3_method_5_code
def yX1_swaying : MethodName := ⟨RX1, "swaying", "(I)I"⟩
abbrev cX1_swaysOne : ByteArray := prog_3_method_6_code
def yX1_swaysOne : MethodName := ⟨RX1, "swaysOne", "(I)Z"⟩
abbrev cX1_daysWon : ByteArray := prog_3_method_7_code
def yX1_daysWon : MethodName := ⟨RX1, "daysWon", "(I)I"⟩
def RX2 : String := "CrookedFrames$Draws"
def TX2 : u_T := fun k => match k with
  | 0 => ("CrookedFrames$Draws", "row", "[I", true)
  | _ => ("CrookedFrames$Draws", "righted", "[I", true)
def tyX2 : Nat → FieldType := fun k => match k with
  | 0 => .array .int
  | _ => .array .int
theorem nmX2 : ∀ a, a < 2 → ∀ b, b < 2 → a ≠ b → (TX2 a).2.1 ≠ (TX2 b).2.1 := by decide +kernel
theorem tyX2_ok : ∀ k, k < 2 → parseFieldDescriptor (TX2 k).2.2.1 = some (tyX2 k) := by decide +kernel
abbrev cX2_init : ByteArray := prog_4_method_1_code
def yX2_init : MethodName := ⟨RX2, "<init>", "()V"⟩
abbrev cX2_play : ByteArray := prog_4_method_2_code
def yX2_play : MethodName := ⟨RX2, "play", "(LCrookedFrames$House;I)I"⟩
abbrev cX2_turnOne : ByteArray := prog_4_method_3_code
def yX2_turnOne : MethodName := ⟨RX2, "turnOne", "(II)V"⟩
abbrev cX2_draw : ByteArray := prog_4_method_4_code
def yX2_draw : MethodName := ⟨RX2, "draw", "(II)I"⟩
def RX3 : String := "CrookedFrames$Habit"
def TX3 : u_T := fun k => match k with
  | _ => ("", "", "", false)
def tyX3 : Nat → FieldType := fun k => match k with
  | _ => .int
theorem nmX3 : ∀ a, a < 0 → ∀ b, b < 0 → a ≠ b → (TX3 a).2.1 ≠ (TX3 b).2.1 := by decide +kernel
theorem tyX3_ok : ∀ k, k < 0 → parseFieldDescriptor (TX3 k).2.2.1 = some (tyX3 k) := by decide +kernel
abbrev cX3_farthestBorne : ByteArray := prog_5_method_2_code
def yX3_farthestBorne : MethodName := ⟨RX3, "farthestBorne", "(II)I"⟩
abbrev cX3_settle : ByteArray := prog_5_method_3_code
def yX3_settle : MethodName := ⟨RX3, "settle", "(III)I"⟩
def RX4 : String := "CrookedFrames$House"
def TX4 : u_T := fun k => match k with
  | 0 => ("CrookedFrames$House", "rooms", "[I", true)
  | 1 => ("CrookedFrames$House", "angles", "[I", true)
  | 2 => ("CrookedFrames$House", "wires", "[I", true)
  | 3 => ("CrookedFrames$House", "patches", "[I", true)
  | 4 => ("CrookedFrames$House", "frames", "I", false)
  | 5 => ("CrookedFrames$House", "kinds", "[I", true)
  | 6 => ("CrookedFrames$House", "borne", "[I", true)
  | 7 => ("CrookedFrames$House", "persons", "I", false)
  | 8 => ("CrookedFrames$House", "comers", "[I", true)
  | 9 => ("CrookedFrames$House", "hours", "[I", true)
  | 10 => ("CrookedFrames$House", "places", "[I", true)
  | 11 => ("CrookedFrames$House", "comings", "I", false)
  | _ => ("CrookedFrames$House", "told", "LCrookedFrames$Turns;", true)
def tyX4 : Nat → FieldType := fun k => match k with
  | 0 => .array .int
  | 1 => .array .int
  | 2 => .array .int
  | 3 => .array .int
  | 4 => .int
  | 5 => .array .int
  | 6 => .array .int
  | 7 => .int
  | 8 => .array .int
  | 9 => .array .int
  | 10 => .array .int
  | 11 => .int
  | _ => .object "CrookedFrames$Turns"
theorem nmX4 : ∀ a, a < 13 → ∀ b, b < 13 → a ≠ b → (TX4 a).2.1 ≠ (TX4 b).2.1 := by decide +kernel
theorem tyX4_ok : ∀ k, k < 13 → parseFieldDescriptor (TX4 k).2.2.1 = some (tyX4 k) := by decide +kernel
abbrev cX4_init : ByteArray := prog_6_method_1_code
def yX4_init : MethodName := ⟨RX4, "<init>", "()V"⟩
abbrev cX4_empty : ByteArray := prog_6_method_2_code
def yX4_empty : MethodName := ⟨RX4, "empty", "()V"⟩
abbrev cX4_take : ByteArray := prog_6_method_3_code
def yX4_take : MethodName := ⟨RX4, "take", "(I[I)Z"⟩
abbrev cX4_takeFrame : ByteArray := prog_6_method_4_code
def yX4_takeFrame : MethodName := ⟨RX4, "takeFrame", "(II)Z"⟩
abbrev cX4_takeWire : ByteArray := prog_6_method_5_code
def yX4_takeWire : MethodName := ⟨RX4, "takeWire", "(II)Z"⟩
abbrev cX4_takePatch : ByteArray := prog_6_method_6_code
def yX4_takePatch : MethodName := ⟨RX4, "takePatch", "(II)Z"⟩
abbrev cX4_takePerson : ByteArray := prog_6_method_7_code
def yX4_takePerson : MethodName := ⟨RX4, "takePerson", "(II)Z"⟩
abbrev cX4_takeComing : ByteArray := prog_6_method_8_code
def yX4_takeComing : MethodName := ⟨RX4, "takeComing", "(III)Z"⟩
abbrev cX4_takeTurn : ByteArray := prog_6_method_9_code
def yX4_takeTurn : MethodName := ⟨RX4, "takeTurn", "(III)Z"⟩
abbrev cX4_setBy : ByteArray := prog_6_method_10_code
def yX4_setBy : MethodName := ⟨RX4, "setBy", "(II)I"⟩
abbrev cX4_twist : ByteArray := prog_6_method_11_code
def yX4_twist : MethodName := ⟨RX4, "twist", "([I)V"⟩
abbrev cX4_letCome : ByteArray := prog_6_method_12_code
def yX4_letCome : MethodName := ⟨RX4, "letCome", "([I[I)I"⟩
abbrev cX4_firstTempting : ByteArray := prog_6_method_13_code
def yX4_firstTempting : MethodName := ⟨RX4, "firstTempting", "(II[I)I"⟩
abbrev cX4_farthestBorneIn : ByteArray := prog_6_method_14_code
def yX4_farthestBorneIn : MethodName := ⟨RX4, "farthestBorneIn", "(I)I"⟩
def RX5 : String := "CrookedFrames$Lures"
def TX5 : u_T := fun k => match k with
  | 0 => ("CrookedFrames$Lures", "row", "[I", true)
  | 1 => ("CrookedFrames$Lures", "righted", "[I", true)
  | 2 => ("CrookedFrames$Lures", "alike", "[I", true)
  | 3 => ("CrookedFrames$Lures", "reached", "[[I", true)
  | _ => ("CrookedFrames$Lures", "reachedSize", "[I", true)
def tyX5 : Nat → FieldType := fun k => match k with
  | 0 => .array .int
  | 1 => .array .int
  | 2 => .array .int
  | 3 => .array (.array .int)
  | _ => .array .int
theorem nmX5 : ∀ a, a < 5 → ∀ b, b < 5 → a ≠ b → (TX5 a).2.1 ≠ (TX5 b).2.1 := by decide +kernel
theorem tyX5_ok : ∀ k, k < 5 → parseFieldDescriptor (TX5 k).2.2.1 = some (tyX5 k) := by decide +kernel
abbrev cX5_init : ByteArray := prog_7_method_1_code
def yX5_init : MethodName := ⟨RX5, "<init>", "()V"⟩
abbrev cX5_leastTurn : ByteArray := prog_7_method_2_code
def yX5_leastTurn : MethodName := ⟨RX5, "leastTurn", "(LCrookedFrames$House;[II)I"⟩
abbrev cX5_isWon : ByteArray := prog_7_method_3_code
def yX5_isWon : MethodName := ⟨RX5, "isWon", "(LCrookedFrames$House;[IIII)Z"⟩
abbrev cX5_anybodyByOne : ByteArray := prog_7_method_4_code
def yX5_anybodyByOne : MethodName := ⟨RX5, "anybodyByOne", "(LCrookedFrames$House;[I)I"⟩
abbrev cX5_oneOrTwo : ByteArray := prog_7_method_5_code
def yX5_oneOrTwo : MethodName := ⟨RX5, "oneOrTwo", "(LCrookedFrames$House;[II)I"⟩
abbrev cX5_isWonByReached : ByteArray := prog_7_method_6_code
def yX5_isWonByReached : MethodName := ⟨RX5, "isWonByReached", "(LCrookedFrames$House;[III)Z"⟩
abbrev cX5_isWonByBoth : ByteArray := prog_7_method_7_code
def yX5_isWonByBoth : MethodName := ⟨RX5, "isWonByBoth", "(LCrookedFrames$House;[IIII)Z"⟩
abbrev cX5_wonWith : ByteArray := prog_7_method_8_code
def yX5_wonWith : MethodName := ⟨RX5, "wonWith", "(LCrookedFrames$House;[III)I"⟩
abbrev cX5_reachAll : ByteArray := prog_7_method_9_code
def yX5_reachAll : MethodName := ⟨RX5, "reachAll", "(LCrookedFrames$House;[I)V"⟩
abbrev cX5_reach : ByteArray := prog_7_method_10_code
def yX5_reach : MethodName := ⟨RX5, "reach", "(LCrookedFrames$House;III)V"⟩
abbrev cX5_addReached : ByteArray := prog_7_method_11_code
def yX5_addReached : MethodName := ⟨RX5, "addReached", "(II)V"⟩
abbrev cX5_isEntered : ByteArray := prog_7_method_12_code
def yX5_isEntered : MethodName := ⟨RX5, "isEntered", "(LCrookedFrames$House;I)Z"⟩
abbrev cX5_findAlike : ByteArray := prog_7_method_13_code
def yX5_findAlike : MethodName := ⟨RX5, "findAlike", "(LCrookedFrames$House;)V"⟩
abbrev cX5_areAlike : ByteArray := prog_7_method_14_code
def yX5_areAlike : MethodName := ⟨RX5, "areAlike", "(LCrookedFrames$House;II)Z"⟩
def RX6 : String := "CrookedFrames$Reader"
def TX6 : u_T := fun k => match k with
  | 0 => ("CrookedFrames$Reader", "numbers", "[I", true)
  | _ => ("CrookedFrames$Reader", "place", "I", false)
def tyX6 : Nat → FieldType := fun k => match k with
  | 0 => .array .int
  | _ => .int
theorem nmX6 : ∀ a, a < 2 → ∀ b, b < 2 → a ≠ b → (TX6 a).2.1 ≠ (TX6 b).2.1 := by decide +kernel
theorem tyX6_ok : ∀ k, k < 2 → parseFieldDescriptor (TX6 k).2.2.1 = some (tyX6 k) := by decide +kernel
abbrev cX6_init : ByteArray := prog_8_method_1_code
def yX6_init : MethodName := ⟨RX6, "<init>", "()V"⟩
abbrev cX6_readAll : ByteArray := prog_8_method_2_code
def yX6_readAll : MethodName := ⟨RX6, "readAll", "(LCrookedFrames$Text;LCrookedFrames$House;)I"⟩
abbrev cX6_readItem : ByteArray := prog_8_method_3_code
def yX6_readItem : MethodName := ⟨RX6, "readItem", "(LCrookedFrames$Text;)Z"⟩
abbrev cX6_numbersBehind : ByteArray := prog_8_method_4_code
def yX6_numbersBehind : MethodName := ⟨RX6, "numbersBehind", "(I)I"⟩
abbrev cX6_readNumber : ByteArray := prog_8_method_5_code
def yX6_readNumber : MethodName := ⟨RX6, "readNumber", "(LCrookedFrames$Text;)I"⟩
abbrev cX6_figureAt : ByteArray := prog_8_method_6_code
def yX6_figureAt : MethodName := ⟨RX6, "figureAt", "(LCrookedFrames$Text;I)I"⟩
def RX7 : String := "CrookedFrames$Shelf"
def TX7 : u_T := fun k => match k with
  | 0 => ("CrookedFrames$Shelf", "rows", "[LCrookedFrames$Turns;", true)
  | _ => ("CrookedFrames$Shelf", "size", "I", false)
def tyX7 : Nat → FieldType := fun k => match k with
  | 0 => .array (.object "CrookedFrames$Turns")
  | _ => .int
theorem nmX7 : ∀ a, a < 2 → ∀ b, b < 2 → a ≠ b → (TX7 a).2.1 ≠ (TX7 b).2.1 := by decide +kernel
theorem tyX7_ok : ∀ k, k < 2 → parseFieldDescriptor (TX7 k).2.2.1 = some (tyX7 k) := by decide +kernel
abbrev cX7_init : ByteArray := prog_9_method_1_code
def yX7_init : MethodName := ⟨RX7, "<init>", "(I)V"⟩
abbrev cX7_put : ByteArray := prog_9_method_2_code
def yX7_put : MethodName := ⟨RX7, "put", "(LCrookedFrames$Turns;)V"⟩
abbrev cX7_takeLast : ByteArray := prog_9_method_3_code
def yX7_takeLast : MethodName := ⟨RX7, "takeLast", "(LCrookedFrames$Turns;)Z"⟩
def RX8 : String := "CrookedFrames$Sights"
def TX8 : u_T := fun k => match k with
  | 0 => ("CrookedFrames$Sights", "from", "[I", true)
  | 1 => ("CrookedFrames$Sights", "to", "[I", true)
  | 2 => ("CrookedFrames$Sights", "size", "I", false)
  | _ => ("CrookedFrames$Sights", "tally", "[I", true)
def tyX8 : Nat → FieldType := fun k => match k with
  | 0 => .array .int
  | 1 => .array .int
  | 2 => .int
  | _ => .array .int
theorem nmX8 : ∀ a, a < 4 → ∀ b, b < 4 → a ≠ b → (TX8 a).2.1 ≠ (TX8 b).2.1 := by decide +kernel
theorem tyX8_ok : ∀ k, k < 4 → parseFieldDescriptor (TX8 k).2.2.1 = some (tyX8 k) := by decide +kernel
abbrev cX8_init : ByteArray := prog_10_method_1_code
def yX8_init : MethodName := ⟨RX8, "<init>", "()V"⟩
abbrev cX8_add : ByteArray := prog_10_method_2_code
def yX8_add : MethodName := ⟨RX8, "add", "(II)Z"⟩
abbrev cX8_empty : ByteArray := prog_10_method_3_code
def yX8_empty : MethodName := ⟨RX8, "empty", "()I"⟩
abbrev cX8_fitting : ByteArray := prog_10_method_4_code
def yX8_fitting : MethodName := ⟨RX8, "fitting", "(I)I"⟩
abbrev cX8_fits : ByteArray := prog_10_method_5_code
def yX8_fits : MethodName := ⟨RX8, "fits", "(II)Z"⟩
abbrev cX8_bestLook : ByteArray := prog_10_method_6_code
def yX8_bestLook : MethodName := ⟨RX8, "bestLook", "(II)I"⟩
abbrev cX8_mostAlike : ByteArray := prog_10_method_7_code
def yX8_mostAlike : MethodName := ⟨RX8, "mostAlike", "(III)I"⟩
def RX9 : String := "CrookedFrames$Text"
def TX9 : u_T := fun k => match k with
  | 0 => ("CrookedFrames$Text", "letters", "[I", true)
  | _ => ("CrookedFrames$Text", "length", "I", false)
def tyX9 : Nat → FieldType := fun k => match k with
  | 0 => .array .int
  | _ => .int
theorem nmX9 : ∀ a, a < 2 → ∀ b, b < 2 → a ≠ b → (TX9 a).2.1 ≠ (TX9 b).2.1 := by decide +kernel
theorem tyX9_ok : ∀ k, k < 2 → parseFieldDescriptor (TX9 k).2.2.1 = some (tyX9 k) := by decide +kernel
abbrev cX9_init : ByteArray := prog_11_method_1_code
def yX9_init : MethodName := ⟨RX9, "<init>", "()V"⟩
abbrev cX9_add : ByteArray := prog_11_method_2_code
def yX9_add : MethodName := ⟨RX9, "add", "(I)Z"⟩
abbrev cX9_letterAt : ByteArray := prog_11_method_3_code
def yX9_letterAt : MethodName := ⟨RX9, "letterAt", "(I)I"⟩
abbrev cX9_empty : ByteArray := prog_11_method_4_code
def yX9_empty : MethodName := ⟨RX9, "empty", "()I"⟩
def RX10 : String := "CrookedFrames$Turns"
def TX10 : u_T := fun k => match k with
  | 0 => ("CrookedFrames$Turns", "nights", "[I", true)
  | 1 => ("CrookedFrames$Turns", "frames", "[I", true)
  | 2 => ("CrookedFrames$Turns", "by", "[I", true)
  | _ => ("CrookedFrames$Turns", "size", "I", false)
def tyX10 : Nat → FieldType := fun k => match k with
  | 0 => .array .int
  | 1 => .array .int
  | 2 => .array .int
  | _ => .int
theorem nmX10 : ∀ a, a < 4 → ∀ b, b < 4 → a ≠ b → (TX10 a).2.1 ≠ (TX10 b).2.1 := by decide +kernel
theorem tyX10_ok : ∀ k, k < 4 → parseFieldDescriptor (TX10 k).2.2.1 = some (tyX10 k) := by decide +kernel
abbrev cX10_init : ByteArray := prog_12_method_1_code
def yX10_init : MethodName := ⟨RX10, "<init>", "()V"⟩
abbrev cX10_add : ByteArray := prog_12_method_2_code
def yX10_add : MethodName := ⟨RX10, "add", "(III)V"⟩
abbrev cX10_remove : ByteArray := prog_12_method_3_code
def yX10_remove : MethodName := ⟨RX10, "remove", "(I)V"⟩
abbrev cX10_copy : ByteArray := prog_12_method_4_code
def yX10_copy : MethodName := ⟨RX10, "copy", "(LCrookedFrames$Turns;)V"⟩
abbrev cX10_turnAll : ByteArray := prog_12_method_5_code
def yX10_turnAll : MethodName := ⟨RX10, "turnAll", "(I[I)V"⟩
def RX11 : String := "CrookedFrames"
def TX11 : u_T := fun k => match k with
  | 0 => ("CrookedFrames", "text", "LCrookedFrames$Text;", true)
  | 1 => ("CrookedFrames", "reader", "LCrookedFrames$Reader;", true)
  | 2 => ("CrookedFrames", "turns", "LCrookedFrames$Turns;", true)
  | 3 => ("CrookedFrames", "undoable", "LCrookedFrames$Shelf;", true)
  | 4 => ("CrookedFrames", "kept", "LCrookedFrames$Shelf;", true)
  | 5 => ("CrookedFrames", "days", "LCrookedFrames$Days;", true)
  | 6 => ("CrookedFrames", "lures", "LCrookedFrames$Lures;", true)
  | 7 => ("CrookedFrames", "sights", "LCrookedFrames$Sights;", true)
  | 8 => ("CrookedFrames", "draws", "LCrookedFrames$Draws;", true)
  | 9 => ("CrookedFrames", "chance", "LCrookedFrames$Chance;", true)
  | 10 => ("CrookedFrames", "house", "LCrookedFrames$House;", false)
  | _ => ("CrookedFrames", "draft", "LCrookedFrames$House;", false)
def tyX11 : Nat → FieldType := fun k => match k with
  | 0 => .object "CrookedFrames$Text"
  | 1 => .object "CrookedFrames$Reader"
  | 2 => .object "CrookedFrames$Turns"
  | 3 => .object "CrookedFrames$Shelf"
  | 4 => .object "CrookedFrames$Shelf"
  | 5 => .object "CrookedFrames$Days"
  | 6 => .object "CrookedFrames$Lures"
  | 7 => .object "CrookedFrames$Sights"
  | 8 => .object "CrookedFrames$Draws"
  | 9 => .object "CrookedFrames$Chance"
  | 10 => .object "CrookedFrames$House"
  | _ => .object "CrookedFrames$House"
theorem nmX11 : ∀ a, a < 12 → ∀ b, b < 12 → a ≠ b → (TX11 a).2.1 ≠ (TX11 b).2.1 := by decide +kernel
theorem tyX11_ok : ∀ k, k < 12 → parseFieldDescriptor (TX11 k).2.2.1 = some (tyX11 k) := by decide +kernel
abbrev cX11_init : ByteArray := prog_1_method_1_code
def yX11_init : MethodName := ⟨RX11, "<init>", "()V"⟩
abbrev cX11_write : ByteArray := prog_1_method_2_code
def yX11_write : MethodName := ⟨RX11, "write", "(I)I"⟩
abbrev cX11_wipe : ByteArray := prog_1_method_3_code
def yX11_wipe : MethodName := ⟨RX11, "wipe", "()I"⟩
abbrev cX11_fault : ByteArray := prog_1_method_4_code
def yX11_fault : MethodName := ⟨RX11, "fault", "()I"⟩
abbrev cX11_lay : ByteArray := prog_1_method_5_code
def yX11_lay : MethodName := ⟨RX11, "lay", "()I"⟩
abbrev cX11_frame : ByteArray := prog_1_method_6_code
def yX11_frame : MethodName := ⟨RX11, "frame", "(II)I"⟩
abbrev cX11_person : ByteArray := prog_1_method_7_code
def yX11_person : MethodName := ⟨RX11, "person", "(II)I"⟩
abbrev cX11_angle : ByteArray := prog_1_method_8_code
def yX11_angle : MethodName := ⟨RX11, "angle", "(II)I"⟩
abbrev cX11_hers : ByteArray := prog_1_method_9_code
def yX11_hers : MethodName := ⟨RX11, "hers", "(I)I"⟩
abbrev cX11_sets : ByteArray := prog_1_method_10_code
def yX11_sets : MethodName := ⟨RX11, "sets", "(II)I"⟩
abbrev cX11_rest : ByteArray := prog_1_method_11_code
def yX11_rest : MethodName := ⟨RX11, "rest", "()I"⟩
abbrev cX11_sways : ByteArray := prog_1_method_12_code
def yX11_sways : MethodName := ⟨RX11, "sways", "()I"⟩
abbrev cX11_told : ByteArray := prog_1_method_13_code
def yX11_told : MethodName := ⟨RX11, "told", "(II)I"⟩
abbrev cX11_turn : ByteArray := prog_1_method_14_code
def yX11_turn : MethodName := ⟨RX11, "turn", "(III)I"⟩
abbrev cX11_leave : ByteArray := prog_1_method_15_code
def yX11_leave : MethodName := ⟨RX11, "leave", "(I)I"⟩
abbrev cX11_undo : ByteArray := prog_1_method_16_code
def yX11_undo : MethodName := ⟨RX11, "undo", "()I"⟩
abbrev cX11_tempt : ByteArray := prog_1_method_17_code
def yX11_tempt : MethodName := ⟨RX11, "tempt", "(II)I"⟩
abbrev cX11_fewest : ByteArray := prog_1_method_18_code
def yX11_fewest : MethodName := ⟨RX11, "fewest", "(II)I"⟩
abbrev cX11_safe : ByteArray := prog_1_method_19_code
def yX11_safe : MethodName := ⟨RX11, "safe", "(I)I"⟩
abbrev cX11_hang : ByteArray := prog_1_method_20_code
def yX11_hang : MethodName := ⟨RX11, "hang", "(I)I"⟩
abbrev cX11_seen : ByteArray := prog_1_method_21_code
def yX11_seen : MethodName := ⟨RX11, "seen", "(II)I"⟩
abbrev cX11_forget : ByteArray := prog_1_method_22_code
def yX11_forget : MethodName := ⟨RX11, "forget", "()I"⟩
abbrev cX11_bears : ByteArray := prog_1_method_23_code
def yX11_bears : MethodName := ⟨RX11, "bears", "(I)I"⟩
abbrev cX11_look : ByteArray := prog_1_method_24_code
def yX11_look : MethodName := ⟨RX11, "look", "(II)I"⟩
abbrev cX11_who : ByteArray := prog_1_method_25_code
def yX11_who : MethodName := ⟨RX11, "who", "(II)I"⟩
abbrev cX11_ends : ByteArray := prog_1_method_26_code
def yX11_ends : MethodName := ⟨RX11, "ends", "(IIII)I"⟩
abbrev cX11_wire : ByteArray := prog_1_method_27_code
def yX11_wire : MethodName := ⟨RX11, "wire", "(IIIIII)I"⟩
abbrev cX11_most : ByteArray := prog_1_method_28_code
def yX11_most : MethodName := ⟨RX11, "most", "(I)I"⟩
abbrev cX11_patches : ByteArray := prog_1_method_29_code
def yX11_patches : MethodName := ⟨RX11, "patches", "(I)I"⟩
abbrev cX11_night : ByteArray := prog_1_method_30_code
def yX11_night : MethodName := ⟨RX11, "night", "(II)I"⟩
abbrev cX11_keep : ByteArray := prog_1_method_31_code
def yX11_keep : MethodName := ⟨RX11, "keep", "()I"⟩
abbrev cX11_back : ByteArray := prog_1_method_32_code
def yX11_back : MethodName := ⟨RX11, "back", "()I"⟩
abbrev cX11_count : ByteArray := prog_1_method_33_code
def yX11_count : MethodName := ⟨RX11, "count", "(I)I"⟩
abbrev cX11_moveIn : ByteArray := prog_1_method_34_code
def yX11_moveIn : MethodName := ⟨RX11, "moveIn", "()V"⟩
abbrev cX11_daysNow : ByteArray := prog_1_method_35_code
def yX11_daysNow : MethodName := ⟨RX11, "daysNow", "()LCrookedFrames$Days;"⟩
abbrev cX11_outside : ByteArray := prog_1_method_36_code
def yX11_outside : MethodName := ⟨RX11, "outside", "(II)Z"⟩
abbrev cX11_keptWithin : ByteArray := prog_1_method_37_code
def yX11_keptWithin : MethodName := ⟨RX11, "keptWithin", "(I)I"⟩
def RX12 : String := "CrookedFramesModel"
def TX12 : u_T := fun k => match k with
  | 0 => ("CrookedFramesModel", "frames", "I", false)
  | 1 => ("CrookedFramesModel", "frame", "[I", true)
  | 2 => ("CrookedFramesModel", "persons", "I", false)
  | 3 => ("CrookedFramesModel", "person", "[I", true)
  | 4 => ("CrookedFramesModel", "comings", "I", false)
  | 5 => ("CrookedFramesModel", "coming", "[I", true)
  | 6 => ("CrookedFramesModel", "order", "[I", true)
  | 7 => ("CrookedFramesModel", "st", "[I", true)
  | 8 => ("CrookedFramesModel", "acts", "I", false)
  | 9 => ("CrookedFramesModel", "was", "[I", true)
  | 10 => ("CrookedFramesModel", "keeps", "I", false)
  | 11 => ("CrookedFramesModel", "kept", "[I", true)
  | 12 => ("CrookedFramesModel", "seens", "I", false)
  | 13 => ("CrookedFramesModel", "seen", "[I", true)
  | 14 => ("CrookedFramesModel", "text", "[I", true)
  | 15 => ("CrookedFramesModel", "texted", "I", false)
  | 16 => ("CrookedFramesModel", "at", "I", false)
  | 17 => ("CrookedFramesModel", "told", "[I", true)
  | 18 => ("CrookedFramesModel", "readFrames", "I", false)
  | 19 => ("CrookedFramesModel", "readFrame", "[I", true)
  | 20 => ("CrookedFramesModel", "readPersons", "I", false)
  | 21 => ("CrookedFramesModel", "readPerson", "[I", true)
  | 22 => ("CrookedFramesModel", "readComings", "I", false)
  | 23 => ("CrookedFramesModel", "readComing", "[I", true)
  | 24 => ("CrookedFramesModel", "readSt", "[I", true)
  | 25 => ("CrookedFramesModel", "angle", "[I", true)
  | 26 => ("CrookedFramesModel", "dawn", "[I", true)
  | 27 => ("CrookedFramesModel", "setBy", "[I", true)
  | 28 => ("CrookedFramesModel", "hers", "I", false)
  | 29 => ("CrookedFramesModel", "ahead", "[I", true)
  | 30 => ("CrookedFramesModel", "ways", "[I", true)
  | _ => ("CrookedFramesModel", "often", "[I", true)
def tyX12 : Nat → FieldType := fun k => match k with
  | 0 => .int
  | 1 => .array .int
  | 2 => .int
  | 3 => .array .int
  | 4 => .int
  | 5 => .array .int
  | 6 => .array .int
  | 7 => .array .int
  | 8 => .int
  | 9 => .array .int
  | 10 => .int
  | 11 => .array .int
  | 12 => .int
  | 13 => .array .int
  | 14 => .array .int
  | 15 => .int
  | 16 => .int
  | 17 => .array .int
  | 18 => .int
  | 19 => .array .int
  | 20 => .int
  | 21 => .array .int
  | 22 => .int
  | 23 => .array .int
  | 24 => .array .int
  | 25 => .array .int
  | 26 => .array .int
  | 27 => .array .int
  | 28 => .int
  | 29 => .array .int
  | 30 => .array .int
  | _ => .array .int
theorem nmX12 : ∀ a, a < 32 → ∀ b, b < 32 → a ≠ b → (TX12 a).2.1 ≠ (TX12 b).2.1 := by decide +kernel
theorem tyX12_ok : ∀ k, k < 32 → parseFieldDescriptor (TX12 k).2.2.1 = some (tyX12 k) := by decide +kernel
abbrev cX12_init : ByteArray := prog_14_method_1_code
def yX12_init : MethodName := ⟨RX12, "<init>", "()V"⟩
abbrev cX12_lays : ByteArray := prog_14_method_3_code
def yX12_lays : MethodName := ⟨RX12, "lays", "([IIIII)V"⟩
abbrev cX12_in : ByteArray := prog_14_method_4_code
def yX12_in : MethodName := ⟨RX12, "in", "(III)Z"⟩
abbrev cX12_has : ByteArray := prog_14_method_5_code
def yX12_has : MethodName := ⟨RX12, "has", "(II)Z"⟩
abbrev cX12_bits : ByteArray := prog_14_method_6_code
def yX12_bits : MethodName := ⟨RX12, "bits", "(I)I"⟩
abbrev cX12_size : ByteArray := prog_14_method_7_code
def yX12_size : MethodName := ⟨RX12, "size", "(I)I"⟩
abbrev cX12_within : ByteArray := prog_14_method_8_code
def yX12_within : MethodName := ⟨RX12, "within", "(I)I"⟩
abbrev cX12_isFrame : ByteArray := prog_14_method_9_code
def yX12_isFrame : MethodName := ⟨RX12, "isFrame", "(I)Z"⟩
abbrev cX12_isPerson : ByteArray := prog_14_method_10_code
def yX12_isPerson : MethodName := ⟨RX12, "isPerson", "(I)Z"⟩
abbrev cX12_isDay : ByteArray := prog_14_method_11_code
def yX12_isDay : MethodName := ⟨RX12, "isDay", "(I)Z"⟩
abbrev cX12_orders : ByteArray := prog_14_method_12_code
def yX12_orders : MethodName := ⟨RX12, "orders", "()V"⟩
abbrev cX12_write : ByteArray := prog_14_method_13_code
def yX12_write : MethodName := ⟨RX12, "write", "(I)I"⟩
abbrev cX12_wipe : ByteArray := prog_14_method_14_code
def yX12_wipe : MethodName := ⟨RX12, "wipe", "()I"⟩
abbrev cX12_letterAt : ByteArray := prog_14_method_15_code
def yX12_letterAt : MethodName := ⟨RX12, "letterAt", "(I)I"⟩
abbrev cX12_isFigure : ByteArray := prog_14_method_16_code
def yX12_isFigure : MethodName := ⟨RX12, "isFigure", "(I)Z"⟩
abbrev cX12_readNumbers : ByteArray := prog_14_method_17_code
def yX12_readNumbers : MethodName := ⟨RX12, "readNumbers", "(I)Z"⟩
abbrev cX12_isTold : ByteArray := prog_14_method_18_code
def yX12_isTold : MethodName := ⟨RX12, "isTold", "(III)Z"⟩
abbrev cX12_put : ByteArray := prog_14_method_19_code
def yX12_put : MethodName := ⟨RX12, "put", "([II[II)V"⟩
abbrev cX12_readFrameOf : ByteArray := prog_14_method_20_code
def yX12_readFrameOf : MethodName := ⟨RX12, "readFrameOf", "()Z"⟩
abbrev cX12_readTwist : ByteArray := prog_14_method_21_code
def yX12_readTwist : MethodName := ⟨RX12, "readTwist", "()Z"⟩
abbrev cX12_readPatch : ByteArray := prog_14_method_22_code
def yX12_readPatch : MethodName := ⟨RX12, "readPatch", "()Z"⟩
abbrev cX12_readPersonOf : ByteArray := prog_14_method_23_code
def yX12_readPersonOf : MethodName := ⟨RX12, "readPersonOf", "()Z"⟩
abbrev cX12_readComingOf : ByteArray := prog_14_method_24_code
def yX12_readComingOf : MethodName := ⟨RX12, "readComingOf", "()Z"⟩
abbrev cX12_readTurn : ByteArray := prog_14_method_25_code
def yX12_readTurn : MethodName := ⟨RX12, "readTurn", "()Z"⟩
abbrev cX12_readItem : ByteArray := prog_14_method_26_code
def yX12_readItem : MethodName := ⟨RX12, "readItem", "()Z"⟩
abbrev cX12_fault : ByteArray := prog_14_method_27_code
def yX12_fault : MethodName := ⟨RX12, "fault", "()I"⟩
abbrev cX12_lay : ByteArray := prog_14_method_28_code
def yX12_lay : MethodName := ⟨RX12, "lay", "()I"⟩
abbrev cX12_frame : ByteArray := prog_14_method_29_code
def yX12_frame : MethodName := ⟨RX12, "frame", "(II)I"⟩
abbrev cX12_person : ByteArray := prog_14_method_30_code
def yX12_person : MethodName := ⟨RX12, "person", "(II)I"⟩
abbrev cX12_madeOf : ByteArray := prog_14_method_31_code
def yX12_madeOf : MethodName := ⟨RX12, "madeOf", "(III)I"⟩
abbrev cX12_madeBy : ByteArray := prog_14_method_32_code
def yX12_madeBy : MethodName := ⟨RX12, "madeBy", "(II)I"⟩
abbrev cX12_begins : ByteArray := prog_14_method_33_code
def yX12_begins : MethodName := ⟨RX12, "begins", "()V"⟩
abbrev cX12_twists : ByteArray := prog_14_method_34_code
def yX12_twists : MethodName := ⟨RX12, "twists", "()V"⟩
abbrev cX12_turnsBy : ByteArray := prog_14_method_35_code
def yX12_turnsBy : MethodName := ⟨RX12, "turnsBy", "(II)V"⟩
abbrev cX12_nightOf : ByteArray := prog_14_method_36_code
def yX12_nightOf : MethodName := ⟨RX12, "nightOf", "(I)V"⟩
abbrev cX12_comes : ByteArray := prog_14_method_37_code
def yX12_comes : MethodName := ⟨RX12, "comes", "(II)V"⟩
abbrev cX12_morning : ByteArray := prog_14_method_38_code
def yX12_morning : MethodName := ⟨RX12, "morning", "()V"⟩
abbrev cX12_goes : ByteArray := prog_14_method_39_code
def yX12_goes : MethodName := ⟨RX12, "goes", "(I)V"⟩
abbrev cX12_angle : ByteArray := prog_14_method_40_code
def yX12_angle : MethodName := ⟨RX12, "angle", "(II)I"⟩
abbrev cX12_hers : ByteArray := prog_14_method_41_code
def yX12_hers : MethodName := ⟨RX12, "hers", "(I)I"⟩
abbrev cX12_sets : ByteArray := prog_14_method_42_code
def yX12_sets : MethodName := ⟨RX12, "sets", "(II)I"⟩
abbrev cX12_rest : ByteArray := prog_14_method_43_code
def yX12_rest : MethodName := ⟨RX12, "rest", "()I"⟩
abbrev cX12_sways : ByteArray := prog_14_method_44_code
def yX12_sways : MethodName := ⟨RX12, "sways", "()I"⟩
abbrev cX12_told : ByteArray := prog_14_method_45_code
def yX12_told : MethodName := ⟨RX12, "told", "(II)I"⟩
abbrev cX12_remembers : ByteArray := prog_14_method_46_code
def yX12_remembers : MethodName := ⟨RX12, "remembers", "()V"⟩
abbrev cX12_turn : ByteArray := prog_14_method_47_code
def yX12_turn : MethodName := ⟨RX12, "turn", "(III)I"⟩
abbrev cX12_leave : ByteArray := prog_14_method_48_code
def yX12_leave : MethodName := ⟨RX12, "leave", "(I)I"⟩
abbrev cX12_undo : ByteArray := prog_14_method_49_code
def yX12_undo : MethodName := ⟨RX12, "undo", "()I"⟩
abbrev cX12_fromDawn : ByteArray := prog_14_method_50_code
def yX12_fromDawn : MethodName := ⟨RX12, "fromDawn", "()V"⟩
abbrev cX12_tries : ByteArray := prog_14_method_51_code
def yX12_tries : MethodName := ⟨RX12, "tries", "(I)V"⟩
abbrev cX12_byOf : ByteArray := prog_14_method_52_code
def yX12_byOf : MethodName := ⟨RX12, "byOf", "(I)I"⟩
abbrev cX12_tempted : ByteArray := prog_14_method_53_code
def yX12_tempted : MethodName := ⟨RX12, "tempted", "(I)I"⟩
abbrev cX12_tempt : ByteArray := prog_14_method_54_code
def yX12_tempt : MethodName := ⟨RX12, "tempt", "(II)I"⟩
abbrev cX12_fewest : ByteArray := prog_14_method_55_code
def yX12_fewest : MethodName := ⟨RX12, "fewest", "(II)I"⟩
abbrev cX12_safe : ByteArray := prog_14_method_56_code
def yX12_safe : MethodName := ⟨RX12, "safe", "(I)I"⟩
abbrev cX12_borne : ByteArray := prog_14_method_57_code
def yX12_borne : MethodName := ⟨RX12, "borne", "(I)I"⟩
abbrev cX12_hang : ByteArray := prog_14_method_58_code
def yX12_hang : MethodName := ⟨RX12, "hang", "(I)I"⟩
abbrev cX12_seen : ByteArray := prog_14_method_59_code
def yX12_seen : MethodName := ⟨RX12, "seen", "(II)I"⟩
abbrev cX12_forget : ByteArray := prog_14_method_60_code
def yX12_forget : MethodName := ⟨RX12, "forget", "()I"⟩
abbrev cX12_bearsBy : ByteArray := prog_14_method_61_code
def yX12_bearsBy : MethodName := ⟨RX12, "bearsBy", "(I)I"⟩
abbrev cX12_bears : ByteArray := prog_14_method_62_code
def yX12_bears : MethodName := ⟨RX12, "bears", "(I)I"⟩
abbrev cX12_alike : ByteArray := prog_14_method_63_code
def yX12_alike : MethodName := ⟨RX12, "alike", "(III)I"⟩
abbrev cX12_look : ByteArray := prog_14_method_64_code
def yX12_look : MethodName := ⟨RX12, "look", "(II)I"⟩
abbrev cX12_who : ByteArray := prog_14_method_65_code
def yX12_who : MethodName := ⟨RX12, "who", "(II)I"⟩
abbrev cX12_ends : ByteArray := prog_14_method_66_code
def yX12_ends : MethodName := ⟨RX12, "ends", "(IIII)I"⟩
abbrev cX12_wire : ByteArray := prog_14_method_67_code
def yX12_wire : MethodName := ⟨RX12, "wire", "(IIIIII)I"⟩
abbrev cX12_most : ByteArray := prog_14_method_68_code
def yX12_most : MethodName := ⟨RX12, "most", "(I)I"⟩
abbrev cX12_patches : ByteArray := prog_14_method_69_code
def yX12_patches : MethodName := ⟨RX12, "patches", "(I)I"⟩
abbrev cX12_night : ByteArray := prog_14_method_70_code
def yX12_night : MethodName := ⟨RX12, "night", "(II)I"⟩
abbrev cX12_keep : ByteArray := prog_14_method_71_code
def yX12_keep : MethodName := ⟨RX12, "keep", "()I"⟩
abbrev cX12_back : ByteArray := prog_14_method_72_code
def yX12_back : MethodName := ⟨RX12, "back", "()I"⟩
abbrev cX12_count : ByteArray := prog_14_method_73_code
def yX12_count : MethodName := ⟨RX12, "count", "(I)I"⟩
def RJ6 : String := "java/lang/Integer"
def TJ6 : u_T := fun k => match k with
  | _ => ("", "", "", false)
def tyJ6 : Nat → FieldType := fun k => match k with
  | _ => .int
theorem nmJ6 : ∀ a, a < 0 → ∀ b, b < 0 → a ≠ b → (TJ6 a).2.1 ≠ (TJ6 b).2.1 := by decide +kernel
theorem tyJ6_ok : ∀ k, k < 0 → parseFieldDescriptor (TJ6 k).2.2.1 = some (tyJ6 k) := by decide +kernel
abbrev cJ6_bitCount_0f7a4 : ByteArray := prog_15_method_49_code
def yJ6_bitCount_0f7a4 : MethodName := ⟨RJ6, "bitCount", "(I)I"⟩
def RJ9 : String := "java/lang/Math"
def TJ9 : u_T := fun k => match k with
  | _ => ("", "", "", false)
def tyJ9 : Nat → FieldType := fun k => match k with
  | _ => .int
theorem nmJ9 : ∀ a, a < 0 → ∀ b, b < 0 → a ≠ b → (TJ9 a).2.1 ≠ (TJ9 b).2.1 := by decide +kernel
theorem tyJ9_ok : ∀ k, k < 0 → parseFieldDescriptor (TJ9 k).2.2.1 = some (tyJ9 k) := by decide +kernel
abbrev cJ9_abs_0f7a4 : ByteArray := prog_16_method_59_code
def yJ9_abs_0f7a4 : MethodName := ⟨RJ9, "abs", "(I)I"⟩
abbrev cJ9_max_7cf53 : ByteArray := prog_16_method_65_code
def yJ9_max_7cf53 : MethodName := ⟨RJ9, "max", "(II)I"⟩
abbrev cJ9_min_7cf53 : ByteArray := prog_16_method_69_code
def yJ9_min_7cf53 : MethodName := ⟨RJ9, "min", "(II)I"⟩
def RJ0 : String := "java/lang/String"
def TJ0 : u_T := fun k => match k with
  | _ => ("", "", "", false)
def tyJ0 : Nat → FieldType := fun k => match k with
  | _ => .int
theorem nmJ0 : ∀ a, a < 0 → ∀ b, b < 0 → a ≠ b → (TJ0 a).2.1 ≠ (TJ0 b).2.1 := by decide +kernel
theorem tyJ0_ok : ∀ k, k < 0 → parseFieldDescriptor (TJ0 k).2.2.1 = some (tyJ0 k) := by decide +kernel
abbrev cJ0_length_8abf5 : ByteArray := prog_17_method_54_code
def yJ0_length_8abf5 : MethodName := ⟨RJ0, "length", "()I"⟩
abbrev cJ0_charAt_5068e : ByteArray := prog_17_method_56_code
def yJ0_charAt_5068e : MethodName := ⟨RJ0, "charAt", "(I)C"⟩
abbrev cJ0_coder_7d493 : ByteArray := prog_17_method_152_code
def yJ0_coder_7d493 : MethodName := ⟨RJ0, "coder", "()B"⟩
abbrev cJ0_isLatin1_aae02 : ByteArray := prog_17_method_154_code
def yJ0_isLatin1_aae02 : MethodName := ⟨RJ0, "isLatin1", "()Z"⟩
abbrev cJ0_checkIndex_df160 : ByteArray := prog_17_method_155_code
def yJ0_checkIndex_df160 : MethodName := ⟨RJ0, "checkIndex", "(II)V"⟩
def RJ1 : String := "java/lang/StringLatin1"
def TJ1 : u_T := fun k => match k with
  | _ => ("", "", "", false)
def tyJ1 : Nat → FieldType := fun k => match k with
  | _ => .int
theorem nmJ1 : ∀ a, a < 0 → ∀ b, b < 0 → a ≠ b → (TJ1 a).2.1 ≠ (TJ1 b).2.1 := by decide +kernel
theorem tyJ1_ok : ∀ k, k < 0 → parseFieldDescriptor (TJ1 k).2.2.1 = some (tyJ1 k) := by decide +kernel
abbrev cJ1_charAt_3b067 : ByteArray := prog_18_method_2_code
def yJ1_charAt_3b067 : MethodName := ⟨RJ1, "charAt", "([BI)C"⟩
def RJ2 : String := "java/lang/StringUTF16"
def TJ2 : u_T := fun k => match k with
  | _ => ("", "", "", false)
def tyJ2 : Nat → FieldType := fun k => match k with
  | _ => .int
theorem nmJ2 : ∀ a, a < 0 → ∀ b, b < 0 → a ≠ b → (TJ2 a).2.1 ≠ (TJ2 b).2.1 := by decide +kernel
theorem tyJ2_ok : ∀ k, k < 0 → parseFieldDescriptor (TJ2 k).2.2.1 = some (tyJ2 k) := by decide +kernel
abbrev cJ2_getChar_3b067 : ByteArray := prog_19_method_5_code
def yJ2_getChar_3b067 : MethodName := ⟨RJ2, "getChar", "([BI)C"⟩
abbrev cJ2_length_9d52b : ByteArray := prog_19_method_6_code
def yJ2_length_9d52b : MethodName := ⟨RJ2, "length", "([B)I"⟩
abbrev cJ2_charAt_3b067 : ByteArray := prog_19_method_83_code
def yJ2_charAt_3b067 : MethodName := ⟨RJ2, "charAt", "([BI)C"⟩
abbrev cJ2_checkIndex_2214a : ByteArray := prog_19_method_91_code
def yJ2_checkIndex_2214a : MethodName := ⟨RJ2, "checkIndex", "(I[B)V"⟩
def RJ10 : String := "java/lang/System"
def TJ10 : u_T := fun k => match k with
  | _ => ("", "", "", false)
def tyJ10 : Nat → FieldType := fun k => match k with
  | _ => .int
theorem nmJ10 : ∀ a, a < 0 → ∀ b, b < 0 → a ≠ b → (TJ10 a).2.1 ≠ (TJ10 b).2.1 := by decide +kernel
theorem tyJ10_ok : ∀ k, k < 0 → parseFieldDescriptor (TJ10 k).2.2.1 = some (tyJ10 k) := by decide +kernel
def RJ7 : String := "java/util/Arrays"
def TJ7 : u_T := fun k => match k with
  | _ => ("", "", "", false)
def tyJ7 : Nat → FieldType := fun k => match k with
  | _ => .int
theorem nmJ7 : ∀ a, a < 0 → ∀ b, b < 0 → a ≠ b → (TJ7 a).2.1 ≠ (TJ7 b).2.1 := by decide +kernel
theorem tyJ7_ok : ∀ k, k < 0 → parseFieldDescriptor (TJ7 k).2.2.1 = some (tyJ7 k) := by decide +kernel
abbrev cJ7_fill_53178 : ByteArray := prog_21_method_103_code
def yJ7_fill_53178 : MethodName := ⟨RJ7, "fill", "([II)V"⟩
def RJ3 : String := "jdk/internal/util/Preconditions"
def TJ3 : u_T := fun k => match k with
  | _ => ("", "", "", false)
def tyJ3 : Nat → FieldType := fun k => match k with
  | _ => .int
theorem nmJ3 : ∀ a, a < 0 → ∀ b, b < 0 → a ≠ b → (TJ3 a).2.1 ≠ (TJ3 b).2.1 := by decide +kernel
theorem tyJ3_ok : ∀ k, k < 0 → parseFieldDescriptor (TJ3 k).2.2.1 = some (tyJ3 k) := by decide +kernel
abbrev cJ3_checkIndex_8e157 : ByteArray := prog_22_method_11_code
def yJ3_checkIndex_8e157 : MethodName := ⟨RJ3, "checkIndex", "(IILjava/util/function/BiFunction;)I"⟩
def RL : String := "CrookedFramesLaw"
abbrev cL_law : ByteArray := code
def yL_law : MethodName := ⟨RL, "law", "([I)Z"⟩
abbrev vwCl : List vw_C := [(RX0, TX0, 2), (RX1, TX1, 5), (RX2, TX2, 2), (RX4, TX4, 13), (RX5, TX5, 5), (RX6, TX6, 2), (RX7, TX7, 2), (RX8, TX8, 4), (RX9, TX9, 2), (RX10, TX10, 4), (RX11, TX11, 12), (RX12, TX12, 32)]
end
section
theorem dX0_init_0 : decode cX0_init 0 = .ok (.aload_n 0, 1) := by decide +kernel
theorem dX0_init_1 : decode cX0_init 1 = .ok (.invokespecial 3, 3) := by decide +kernel
theorem dX0_init_4 : decode cX0_init 4 = .ok (.aload_n 0, 1) := by decide +kernel
theorem dX0_init_5 : decode cX0_init 5 = .ok (.bipush 15, 2) := by decide +kernel
theorem dX0_init_7 : decode cX0_init 7 = .ok (.newarray .int, 2) := by decide +kernel
theorem dX0_init_9 : decode cX0_init 9 = .ok (.putfield 11, 3) := by decide +kernel
theorem dX0_init_12 : decode cX0_init 12 = .ok (.aload_n 0, 1) := by decide +kernel
theorem dX0_init_13 : decode cX0_init 13 = .ok (.bipush 15, 2) := by decide +kernel
theorem dX0_init_15 : decode cX0_init 15 = .ok (.newarray .int, 2) := by decide +kernel
theorem dX0_init_17 : decode cX0_init 17 = .ok (.putfield 15, 3) := by decide +kernel
theorem dX0_init_20 : decode cX0_init 20 = .ok (.return_, 1) := by decide +kernel
theorem dX0_twist_0 : decode cX0_twist 0 = .ok (.aload_n 0, 1) := by decide +kernel
theorem dX0_twist_1 : decode cX0_twist 1 = .ok (.getfield 11, 3) := by decide +kernel
theorem dX0_twist_4 : decode cX0_twist 4 = .ok (.iconst 0, 1) := by decide +kernel
theorem dX0_twist_5 : decode cX0_twist 5 = .ok (.invokestatic 18, 3) := by decide +kernel
theorem dX0_twist_8 : decode cX0_twist 8 = .ok (.aload_n 0, 1) := by decide +kernel
theorem dX0_twist_9 : decode cX0_twist 9 = .ok (.getfield 15, 3) := by decide +kernel
theorem dX0_twist_12 : decode cX0_twist 12 = .ok (.iconst 0, 1) := by decide +kernel
theorem dX0_twist_13 : decode cX0_twist 13 = .ok (.invokestatic 18, 3) := by decide +kernel
theorem dX0_twist_16 : decode cX0_twist 16 = .ok (.aload_n 0, 1) := by decide +kernel
theorem dX0_twist_17 : decode cX0_twist 17 = .ok (.getfield 11, 3) := by decide +kernel
theorem dX0_twist_20 : decode cX0_twist 20 = .ok (.bipush 7, 2) := by decide +kernel
theorem dX0_twist_22 : decode cX0_twist 22 = .ok (.iconst 1, 1) := by decide +kernel
theorem dX0_twist_23 : decode cX0_twist 23 = .ok (.iastore, 1) := by decide +kernel
theorem dX0_twist_24 : decode cX0_twist 24 = .ok (.iconst 0, 1) := by decide +kernel
theorem dX0_twist_25 : decode cX0_twist 25 = .ok (.istore 4, 2) := by decide +kernel
theorem dX0_twist_27 : decode cX0_twist 27 = .ok (.iload 4, 2) := by decide +kernel
theorem dX0_twist_29 : decode cX0_twist 29 = .ok (.iload_n 1, 1) := by decide +kernel
theorem dX0_twist_30 : decode cX0_twist 30 = .ok (.if_icmp .ge 90, 3) := by decide +kernel
theorem dX0_twist_33 : decode cX0_twist 33 = .ok (.iconst 1, 1) := by decide +kernel
theorem dX0_twist_34 : decode cX0_twist 34 = .ok (.istore 5, 2) := by decide +kernel
theorem dX0_twist_36 : decode cX0_twist 36 = .ok (.iload 5, 2) := by decide +kernel
theorem dX0_twist_38 : decode cX0_twist 38 = .ok (.bipush 14, 2) := by decide +kernel
theorem dX0_twist_40 : decode cX0_twist 40 = .ok (.if_icmp .ge 54, 3) := by decide +kernel
theorem dX0_twist_43 : decode cX0_twist 43 = .ok (.aload_n 0, 1) := by decide +kernel
theorem dX0_twist_44 : decode cX0_twist 44 = .ok (.getfield 15, 3) := by decide +kernel
theorem dX0_twist_47 : decode cX0_twist 47 = .ok (.iload 5, 2) := by decide +kernel
theorem dX0_twist_49 : decode cX0_twist 49 = .ok (.aload_n 0, 1) := by decide +kernel
theorem dX0_twist_50 : decode cX0_twist 50 = .ok (.getfield 11, 3) := by decide +kernel
theorem dX0_twist_53 : decode cX0_twist 53 = .ok (.iload 5, 2) := by decide +kernel
theorem dX0_twist_55 : decode cX0_twist 55 = .ok (.iconst 1, 1) := by decide +kernel
theorem dX0_twist_56 : decode cX0_twist 56 = .ok (.isub, 1) := by decide +kernel
theorem dX0_twist_57 : decode cX0_twist 57 = .ok (.iaload, 1) := by decide +kernel
theorem dX0_twist_58 : decode cX0_twist 58 = .ok (.iload_n 2, 1) := by decide +kernel
theorem dX0_twist_59 : decode cX0_twist 59 = .ok (.imul, 1) := by decide +kernel
theorem dX0_twist_60 : decode cX0_twist 60 = .ok (.aload_n 0, 1) := by decide +kernel
theorem dX0_twist_61 : decode cX0_twist 61 = .ok (.getfield 11, 3) := by decide +kernel
theorem dX0_twist_64 : decode cX0_twist 64 = .ok (.iload 5, 2) := by decide +kernel
theorem dX0_twist_66 : decode cX0_twist 66 = .ok (.iconst 1, 1) := by decide +kernel
theorem dX0_twist_67 : decode cX0_twist 67 = .ok (.iadd, 1) := by decide +kernel
theorem dX0_twist_68 : decode cX0_twist 68 = .ok (.iaload, 1) := by decide +kernel
theorem dX0_twist_69 : decode cX0_twist 69 = .ok (.iload_n 3, 1) := by decide +kernel
theorem dX0_twist_70 : decode cX0_twist 70 = .ok (.imul, 1) := by decide +kernel
theorem dX0_twist_71 : decode cX0_twist 71 = .ok (.iadd, 1) := by decide +kernel
theorem dX0_twist_72 : decode cX0_twist 72 = .ok (.aload_n 0, 1) := by decide +kernel
theorem dX0_twist_73 : decode cX0_twist 73 = .ok (.getfield 11, 3) := by decide +kernel
theorem dX0_twist_76 : decode cX0_twist 76 = .ok (.iload 5, 2) := by decide +kernel
theorem dX0_twist_78 : decode cX0_twist 78 = .ok (.iaload, 1) := by decide +kernel
theorem dX0_twist_79 : decode cX0_twist 79 = .ok (.bipush 10, 2) := by decide +kernel
theorem dX0_twist_81 : decode cX0_twist 81 = .ok (.iload_n 2, 1) := by decide +kernel
theorem dX0_twist_82 : decode cX0_twist 82 = .ok (.isub, 1) := by decide +kernel
theorem dX0_twist_83 : decode cX0_twist 83 = .ok (.iload_n 3, 1) := by decide +kernel
theorem dX0_twist_84 : decode cX0_twist 84 = .ok (.isub, 1) := by decide +kernel
theorem dX0_twist_85 : decode cX0_twist 85 = .ok (.imul, 1) := by decide +kernel
theorem dX0_twist_86 : decode cX0_twist 86 = .ok (.iadd, 1) := by decide +kernel
theorem dX0_twist_87 : decode cX0_twist 87 = .ok (.iastore, 1) := by decide +kernel
theorem dX0_twist_88 : decode cX0_twist 88 = .ok (.iinc 5 1, 3) := by decide +kernel
theorem dX0_twist_91 : decode cX0_twist 91 = .ok (.goto (-55), 3) := by decide +kernel
theorem dX0_twist_94 : decode cX0_twist 94 = .ok (.aload_n 0, 1) := by decide +kernel
theorem dX0_twist_95 : decode cX0_twist 95 = .ok (.getfield 11, 3) := by decide +kernel
theorem dX0_twist_98 : decode cX0_twist 98 = .ok (.astore 5, 2) := by decide +kernel
theorem dX0_twist_100 : decode cX0_twist 100 = .ok (.aload_n 0, 1) := by decide +kernel
theorem dX0_twist_101 : decode cX0_twist 101 = .ok (.aload_n 0, 1) := by decide +kernel
theorem dX0_twist_102 : decode cX0_twist 102 = .ok (.getfield 15, 3) := by decide +kernel
theorem dX0_twist_105 : decode cX0_twist 105 = .ok (.putfield 11, 3) := by decide +kernel
theorem dX0_twist_108 : decode cX0_twist 108 = .ok (.aload_n 0, 1) := by decide +kernel
theorem dX0_twist_109 : decode cX0_twist 109 = .ok (.aload 5, 2) := by decide +kernel
theorem dX0_twist_111 : decode cX0_twist 111 = .ok (.putfield 15, 3) := by decide +kernel
theorem dX0_twist_114 : decode cX0_twist 114 = .ok (.iinc 4 1, 3) := by decide +kernel
theorem dX0_twist_117 : decode cX0_twist 117 = .ok (.goto (-90), 3) := by decide +kernel
theorem dX0_twist_120 : decode cX0_twist 120 = .ok (.return_, 1) := by decide +kernel
theorem dX0_waysWithin_0 : decode cX0_waysWithin 0 = .ok (.iconst 0, 1) := by decide +kernel
theorem dX0_waysWithin_1 : decode cX0_waysWithin 1 = .ok (.istore_n 3, 1) := by decide +kernel
theorem dX0_waysWithin_2 : decode cX0_waysWithin 2 = .ok (.bipush (-6), 2) := by decide +kernel
theorem dX0_waysWithin_4 : decode cX0_waysWithin 4 = .ok (.istore 4, 2) := by decide +kernel
theorem dX0_waysWithin_6 : decode cX0_waysWithin 6 = .ok (.iload 4, 2) := by decide +kernel
theorem dX0_waysWithin_8 : decode cX0_waysWithin 8 = .ok (.bipush 6, 2) := by decide +kernel
theorem dX0_waysWithin_10 : decode cX0_waysWithin 10 = .ok (.if_icmp .gt 33, 3) := by decide +kernel
theorem dX0_waysWithin_13 : decode cX0_waysWithin 13 = .ok (.iload_n 1, 1) := by decide +kernel
theorem dX0_waysWithin_14 : decode cX0_waysWithin 14 = .ok (.iload 4, 2) := by decide +kernel
theorem dX0_waysWithin_16 : decode cX0_waysWithin 16 = .ok (.iadd, 1) := by decide +kernel
theorem dX0_waysWithin_17 : decode cX0_waysWithin 17 = .ok (.invokestatic 24, 3) := by decide +kernel
theorem dX0_waysWithin_20 : decode cX0_waysWithin 20 = .ok (.iload_n 2, 1) := by decide +kernel
theorem dX0_waysWithin_21 : decode cX0_waysWithin 21 = .ok (.if_icmp .gt 16, 3) := by decide +kernel
theorem dX0_waysWithin_24 : decode cX0_waysWithin 24 = .ok (.iload_n 3, 1) := by decide +kernel
theorem dX0_waysWithin_25 : decode cX0_waysWithin 25 = .ok (.aload_n 0, 1) := by decide +kernel
theorem dX0_waysWithin_26 : decode cX0_waysWithin 26 = .ok (.getfield 11, 3) := by decide +kernel
theorem dX0_waysWithin_29 : decode cX0_waysWithin 29 = .ok (.bipush 7, 2) := by decide +kernel
theorem dX0_waysWithin_31 : decode cX0_waysWithin 31 = .ok (.iload 4, 2) := by decide +kernel
theorem dX0_waysWithin_33 : decode cX0_waysWithin 33 = .ok (.iadd, 1) := by decide +kernel
theorem dX0_waysWithin_34 : decode cX0_waysWithin 34 = .ok (.iaload, 1) := by decide +kernel
theorem dX0_waysWithin_35 : decode cX0_waysWithin 35 = .ok (.iadd, 1) := by decide +kernel
theorem dX0_waysWithin_36 : decode cX0_waysWithin 36 = .ok (.istore_n 3, 1) := by decide +kernel
theorem dX0_waysWithin_37 : decode cX0_waysWithin 37 = .ok (.iinc 4 1, 3) := by decide +kernel
theorem dX0_waysWithin_40 : decode cX0_waysWithin 40 = .ok (.goto (-34), 3) := by decide +kernel
theorem dX0_waysWithin_43 : decode cX0_waysWithin 43 = .ok (.iload_n 3, 1) := by decide +kernel
theorem dX0_waysWithin_44 : decode cX0_waysWithin 44 = .ok (.ireturn, 1) := by decide +kernel
theorem dX0_allWays_0 : decode cX0_allWays 0 = .ok (.iconst 1, 1) := by decide +kernel
theorem dX0_allWays_1 : decode cX0_allWays 1 = .ok (.istore_n 2, 1) := by decide +kernel
theorem dX0_allWays_2 : decode cX0_allWays 2 = .ok (.iconst 0, 1) := by decide +kernel
theorem dX0_allWays_3 : decode cX0_allWays 3 = .ok (.istore_n 3, 1) := by decide +kernel
theorem dX0_allWays_4 : decode cX0_allWays 4 = .ok (.iload_n 3, 1) := by decide +kernel
theorem dX0_allWays_5 : decode cX0_allWays 5 = .ok (.iload_n 1, 1) := by decide +kernel
theorem dX0_allWays_6 : decode cX0_allWays 6 = .ok (.if_icmp .ge 14, 3) := by decide +kernel
theorem dX0_allWays_9 : decode cX0_allWays 9 = .ok (.iload_n 2, 1) := by decide +kernel
theorem dX0_allWays_10 : decode cX0_allWays 10 = .ok (.bipush 10, 2) := by decide +kernel
theorem dX0_allWays_12 : decode cX0_allWays 12 = .ok (.imul, 1) := by decide +kernel
theorem dX0_allWays_13 : decode cX0_allWays 13 = .ok (.istore_n 2, 1) := by decide +kernel
theorem dX0_allWays_14 : decode cX0_allWays 14 = .ok (.iinc 3 1, 3) := by decide +kernel
theorem dX0_allWays_17 : decode cX0_allWays 17 = .ok (.goto (-13), 3) := by decide +kernel
theorem dX0_allWays_20 : decode cX0_allWays 20 = .ok (.iload_n 2, 1) := by decide +kernel
theorem dX0_allWays_21 : decode cX0_allWays 21 = .ok (.ireturn, 1) := by decide +kernel
theorem dX0_commonDivisor_0 : decode cX0_commonDivisor 0 = .ok (.iload_n 0, 1) := by decide +kernel
theorem dX0_commonDivisor_1 : decode cX0_commonDivisor 1 = .ok (.istore_n 2, 1) := by decide +kernel
theorem dX0_commonDivisor_2 : decode cX0_commonDivisor 2 = .ok (.iload_n 1, 1) := by decide +kernel
theorem dX0_commonDivisor_3 : decode cX0_commonDivisor 3 = .ok (.istore_n 3, 1) := by decide +kernel
theorem dX0_commonDivisor_4 : decode cX0_commonDivisor 4 = .ok (.iconst 0, 1) := by decide +kernel
theorem dX0_commonDivisor_5 : decode cX0_commonDivisor 5 = .ok (.istore 4, 2) := by decide +kernel
theorem dX0_commonDivisor_7 : decode cX0_commonDivisor 7 = .ok (.iload 4, 2) := by decide +kernel
theorem dX0_commonDivisor_9 : decode cX0_commonDivisor 9 = .ok (.bipush 100, 2) := by decide +kernel
theorem dX0_commonDivisor_11 : decode cX0_commonDivisor 11 = .ok (.if_icmp .ge 23, 3) := by decide +kernel
theorem dX0_commonDivisor_14 : decode cX0_commonDivisor 14 = .ok (.iload_n 3, 1) := by decide +kernel
theorem dX0_commonDivisor_15 : decode cX0_commonDivisor 15 = .ok (.ifCond .eq 19, 3) := by decide +kernel
theorem dX0_commonDivisor_18 : decode cX0_commonDivisor 18 = .ok (.iload_n 2, 1) := by decide +kernel
theorem dX0_commonDivisor_19 : decode cX0_commonDivisor 19 = .ok (.iload_n 3, 1) := by decide +kernel
theorem dX0_commonDivisor_20 : decode cX0_commonDivisor 20 = .ok (.irem, 1) := by decide +kernel
theorem dX0_commonDivisor_21 : decode cX0_commonDivisor 21 = .ok (.istore 5, 2) := by decide +kernel
theorem dX0_commonDivisor_23 : decode cX0_commonDivisor 23 = .ok (.iload_n 3, 1) := by decide +kernel
theorem dX0_commonDivisor_24 : decode cX0_commonDivisor 24 = .ok (.istore_n 2, 1) := by decide +kernel
theorem dX0_commonDivisor_25 : decode cX0_commonDivisor 25 = .ok (.iload 5, 2) := by decide +kernel
theorem dX0_commonDivisor_27 : decode cX0_commonDivisor 27 = .ok (.istore_n 3, 1) := by decide +kernel
theorem dX0_commonDivisor_28 : decode cX0_commonDivisor 28 = .ok (.iinc 4 1, 3) := by decide +kernel
theorem dX0_commonDivisor_31 : decode cX0_commonDivisor 31 = .ok (.goto (-24), 3) := by decide +kernel
theorem dX0_commonDivisor_34 : decode cX0_commonDivisor 34 = .ok (.iload_n 2, 1) := by decide +kernel
theorem dX0_commonDivisor_35 : decode cX0_commonDivisor 35 = .ok (.ireturn, 1) := by decide +kernel
theorem dX1_init_0 : decode cX1_init 0 = .ok (.aload_n 0, 1) := by decide +kernel
theorem dX1_init_1 : decode cX1_init 1 = .ok (.invokespecial 3, 3) := by decide +kernel
theorem dX1_init_4 : decode cX1_init 4 = .ok (.aload_n 0, 1) := by decide +kernel
theorem dX1_init_5 : decode cX1_init 5 = .ok (.bipush 31, 2) := by decide +kernel
theorem dX1_init_7 : decode cX1_init 7 = .ok (.bipush 7, 2) := by decide +kernel
theorem dX1_init_9 : decode cX1_init 9 = .ok (.multianewarray 9 2, 4) := by decide +kernel
theorem dX1_init_13 : decode cX1_init 13 = .ok (.putfield 11, 3) := by decide +kernel
theorem dX1_init_16 : decode cX1_init 16 = .ok (.aload_n 0, 1) := by decide +kernel
theorem dX1_init_17 : decode cX1_init 17 = .ok (.bipush 31, 2) := by decide +kernel
theorem dX1_init_19 : decode cX1_init 19 = .ok (.bipush 7, 2) := by decide +kernel
theorem dX1_init_21 : decode cX1_init 21 = .ok (.multianewarray 9 2, 4) := by decide +kernel
theorem dX1_init_25 : decode cX1_init 25 = .ok (.putfield 16, 3) := by decide +kernel
theorem dX1_init_28 : decode cX1_init 28 = .ok (.aload_n 0, 1) := by decide +kernel
theorem dX1_init_29 : decode cX1_init 29 = .ok (.bipush 31, 2) := by decide +kernel
theorem dX1_init_31 : decode cX1_init 31 = .ok (.iconst 5, 1) := by decide +kernel
theorem dX1_init_32 : decode cX1_init 32 = .ok (.multianewarray 9 2, 4) := by decide +kernel
theorem dX1_init_36 : decode cX1_init 36 = .ok (.putfield 19, 3) := by decide +kernel
theorem dX1_init_39 : decode cX1_init 39 = .ok (.aload_n 0, 1) := by decide +kernel
theorem dX1_init_40 : decode cX1_init 40 = .ok (.bipush 31, 2) := by decide +kernel
theorem dX1_init_42 : decode cX1_init 42 = .ok (.newarray .int, 2) := by decide +kernel
theorem dX1_init_44 : decode cX1_init 44 = .ok (.putfield 22, 3) := by decide +kernel
theorem dX1_init_47 : decode cX1_init 47 = .ok (.aload_n 0, 1) := by decide +kernel
theorem dX1_init_48 : decode cX1_init 48 = .ok (.iconst 1, 1) := by decide +kernel
theorem dX1_init_49 : decode cX1_init 49 = .ok (.putfield 26, 3) := by decide +kernel
theorem dX1_init_52 : decode cX1_init 52 = .ok (.return_, 1) := by decide +kernel
theorem dX1_play_0 : decode cX1_play 0 = .ok (.aload_n 1, 1) := by decide +kernel
theorem dX1_play_1 : decode cX1_play 1 = .ok (.getfield 30, 3) := by decide +kernel
theorem dX1_play_4 : decode cX1_play 4 = .ok (.astore_n 3, 1) := by decide +kernel
theorem dX1_play_5 : decode cX1_play 5 = .ok (.iconst 0, 1) := by decide +kernel
theorem dX1_play_6 : decode cX1_play 6 = .ok (.istore 4, 2) := by decide +kernel
theorem dX1_play_8 : decode cX1_play 8 = .ok (.iload 4, 2) := by decide +kernel
theorem dX1_play_10 : decode cX1_play 10 = .ok (.bipush 31, 2) := by decide +kernel
theorem dX1_play_12 : decode cX1_play 12 = .ok (.if_icmp .ge 85, 3) := by decide +kernel
theorem dX1_play_15 : decode cX1_play 15 = .ok (.aload_n 0, 1) := by decide +kernel
theorem dX1_play_16 : decode cX1_play 16 = .ok (.getfield 11, 3) := by decide +kernel
theorem dX1_play_19 : decode cX1_play 19 = .ok (.iload 4, 2) := by decide +kernel
theorem dX1_play_21 : decode cX1_play 21 = .ok (.aaload, 1) := by decide +kernel
theorem dX1_play_22 : decode cX1_play 22 = .ok (.astore 5, 2) := by decide +kernel
theorem dX1_play_24 : decode cX1_play 24 = .ok (.aload_n 0, 1) := by decide +kernel
theorem dX1_play_25 : decode cX1_play 25 = .ok (.getfield 16, 3) := by decide +kernel
theorem dX1_play_28 : decode cX1_play 28 = .ok (.iload 4, 2) := by decide +kernel
theorem dX1_play_30 : decode cX1_play 30 = .ok (.aaload, 1) := by decide +kernel
theorem dX1_play_31 : decode cX1_play 31 = .ok (.astore 6, 2) := by decide +kernel
theorem dX1_play_33 : decode cX1_play 33 = .ok (.aload_n 3, 1) := by decide +kernel
theorem dX1_play_34 : decode cX1_play 34 = .ok (.iconst 0, 1) := by decide +kernel
theorem dX1_play_35 : decode cX1_play 35 = .ok (.aload 5, 2) := by decide +kernel
theorem dX1_play_37 : decode cX1_play 37 = .ok (.iconst 0, 1) := by decide +kernel
theorem dX1_play_38 : decode cX1_play 38 = .ok (.bipush 7, 2) := by decide +kernel
theorem dX1_play_40 : decode cX1_play 40 = .ok (.invokestatic 35, 3) := by decide +kernel
theorem dX1_play_43 : decode cX1_play 43 = .ok (.aload_n 1, 1) := by decide +kernel
theorem dX1_play_44 : decode cX1_play 44 = .ok (.aload 5, 2) := by decide +kernel
theorem dX1_play_46 : decode cX1_play 46 = .ok (.invokevirtual 41, 3) := by decide +kernel
theorem dX1_play_49 : decode cX1_play 49 = .ok (.aload_n 2, 1) := by decide +kernel
theorem dX1_play_50 : decode cX1_play 50 = .ok (.iload 4, 2) := by decide +kernel
theorem dX1_play_52 : decode cX1_play 52 = .ok (.aload 5, 2) := by decide +kernel
theorem dX1_play_54 : decode cX1_play 54 = .ok (.invokevirtual 45, 3) := by decide +kernel
theorem dX1_play_57 : decode cX1_play 57 = .ok (.aload 5, 2) := by decide +kernel
theorem dX1_play_59 : decode cX1_play 59 = .ok (.iconst 0, 1) := by decide +kernel
theorem dX1_play_60 : decode cX1_play 60 = .ok (.aload 6, 2) := by decide +kernel
theorem dX1_play_62 : decode cX1_play 62 = .ok (.iconst 0, 1) := by decide +kernel
theorem dX1_play_63 : decode cX1_play 63 = .ok (.bipush 7, 2) := by decide +kernel
theorem dX1_play_65 : decode cX1_play 65 = .ok (.invokestatic 35, 3) := by decide +kernel
theorem dX1_play_68 : decode cX1_play 68 = .ok (.aload_n 0, 1) := by decide +kernel
theorem dX1_play_69 : decode cX1_play 69 = .ok (.getfield 22, 3) := by decide +kernel
theorem dX1_play_72 : decode cX1_play 72 = .ok (.iload 4, 2) := by decide +kernel
theorem dX1_play_74 : decode cX1_play 74 = .ok (.aload_n 1, 1) := by decide +kernel
theorem dX1_play_75 : decode cX1_play 75 = .ok (.aload 6, 2) := by decide +kernel
theorem dX1_play_77 : decode cX1_play 77 = .ok (.aload_n 0, 1) := by decide +kernel
theorem dX1_play_78 : decode cX1_play 78 = .ok (.getfield 19, 3) := by decide +kernel
theorem dX1_play_81 : decode cX1_play 81 = .ok (.iload 4, 2) := by decide +kernel
theorem dX1_play_83 : decode cX1_play 83 = .ok (.aaload, 1) := by decide +kernel
theorem dX1_play_84 : decode cX1_play 84 = .ok (.invokevirtual 51, 3) := by decide +kernel
theorem dX1_play_87 : decode cX1_play 87 = .ok (.iastore, 1) := by decide +kernel
theorem dX1_play_88 : decode cX1_play 88 = .ok (.aload 6, 2) := by decide +kernel
theorem dX1_play_90 : decode cX1_play 90 = .ok (.astore_n 3, 1) := by decide +kernel
theorem dX1_play_91 : decode cX1_play 91 = .ok (.iinc 4 1, 3) := by decide +kernel
theorem dX1_play_94 : decode cX1_play 94 = .ok (.goto (-86), 3) := by decide +kernel
theorem dX1_play_97 : decode cX1_play 97 = .ok (.aload_n 0, 1) := by decide +kernel
theorem dX1_play_98 : decode cX1_play 98 = .ok (.iconst 0, 1) := by decide +kernel
theorem dX1_play_99 : decode cX1_play 99 = .ok (.putfield 26, 3) := by decide +kernel
theorem dX1_play_102 : decode cX1_play 102 = .ok (.return_, 1) := by decide +kernel
theorem dX1_firstOfRest_0 : decode cX1_firstOfRest 0 = .ok (.bipush 31, 2) := by decide +kernel
theorem dX1_firstOfRest_2 : decode cX1_firstOfRest 2 = .ok (.istore_n 2, 1) := by decide +kernel
theorem dX1_firstOfRest_3 : decode cX1_firstOfRest 3 = .ok (.iload_n 2, 1) := by decide +kernel
theorem dX1_firstOfRest_4 : decode cX1_firstOfRest 4 = .ok (.ifCond .le 20, 3) := by decide +kernel
theorem dX1_firstOfRest_7 : decode cX1_firstOfRest 7 = .ok (.aload_n 0, 1) := by decide +kernel
theorem dX1_firstOfRest_8 : decode cX1_firstOfRest 8 = .ok (.aload_n 1, 1) := by decide +kernel
theorem dX1_firstOfRest_9 : decode cX1_firstOfRest 9 = .ok (.iload_n 2, 1) := by decide +kernel
theorem dX1_firstOfRest_10 : decode cX1_firstOfRest 10 = .ok (.iconst 1, 1) := by decide +kernel
theorem dX1_firstOfRest_11 : decode cX1_firstOfRest 11 = .ok (.isub, 1) := by decide +kernel
theorem dX1_firstOfRest_12 : decode cX1_firstOfRest 12 = .ok (.invokevirtual 55, 3) := by decide +kernel
theorem dX1_firstOfRest_15 : decode cX1_firstOfRest 15 = .ok (.ifCond .eq 9, 3) := by decide +kernel
theorem dX1_firstOfRest_18 : decode cX1_firstOfRest 18 = .ok (.iinc 2 (-1), 3) := by decide +kernel
theorem dX1_firstOfRest_21 : decode cX1_firstOfRest 21 = .ok (.goto (-18), 3) := by decide +kernel
theorem dX1_firstOfRest_24 : decode cX1_firstOfRest 24 = .ok (.iload_n 2, 1) := by decide +kernel
theorem dX1_firstOfRest_25 : decode cX1_firstOfRest 25 = .ok (.bipush 31, 2) := by decide +kernel
theorem dX1_firstOfRest_27 : decode cX1_firstOfRest 27 = .ok (.if_icmp .ge 7, 3) := by decide +kernel
theorem dX1_firstOfRest_30 : decode cX1_firstOfRest 30 = .ok (.iload_n 2, 1) := by decide +kernel
theorem dX1_firstOfRest_31 : decode cX1_firstOfRest 31 = .ok (.goto 5, 3) := by decide +kernel
theorem dX1_firstOfRest_34 : decode cX1_firstOfRest 34 = .ok (.bipush (-4), 2) := by decide +kernel
theorem dX1_firstOfRest_36 : decode cX1_firstOfRest 36 = .ok (.ireturn, 1) := by decide +kernel
theorem dX1_isAsAhead_0 : decode cX1_isAsAhead 0 = .ok (.iload_n 2, 1) := by decide +kernel
theorem dX1_isAsAhead_1 : decode cX1_isAsAhead 1 = .ok (.ifCond .le 14, 3) := by decide +kernel
theorem dX1_isAsAhead_4 : decode cX1_isAsAhead 4 = .ok (.aload_n 0, 1) := by decide +kernel
theorem dX1_isAsAhead_5 : decode cX1_isAsAhead 5 = .ok (.getfield 16, 3) := by decide +kernel
theorem dX1_isAsAhead_8 : decode cX1_isAsAhead 8 = .ok (.iload_n 2, 1) := by decide +kernel
theorem dX1_isAsAhead_9 : decode cX1_isAsAhead 9 = .ok (.iconst 1, 1) := by decide +kernel
theorem dX1_isAsAhead_10 : decode cX1_isAsAhead 10 = .ok (.isub, 1) := by decide +kernel
theorem dX1_isAsAhead_11 : decode cX1_isAsAhead 11 = .ok (.aaload, 1) := by decide +kernel
theorem dX1_isAsAhead_12 : decode cX1_isAsAhead 12 = .ok (.goto 7, 3) := by decide +kernel
theorem dX1_isAsAhead_15 : decode cX1_isAsAhead 15 = .ok (.aload_n 1, 1) := by decide +kernel
theorem dX1_isAsAhead_16 : decode cX1_isAsAhead 16 = .ok (.getfield 30, 3) := by decide +kernel
theorem dX1_isAsAhead_19 : decode cX1_isAsAhead 19 = .ok (.astore_n 3, 1) := by decide +kernel
theorem dX1_isAsAhead_20 : decode cX1_isAsAhead 20 = .ok (.iconst 0, 1) := by decide +kernel
theorem dX1_isAsAhead_21 : decode cX1_isAsAhead 21 = .ok (.istore 4, 2) := by decide +kernel
theorem dX1_isAsAhead_23 : decode cX1_isAsAhead 23 = .ok (.iload 4, 2) := by decide +kernel
theorem dX1_isAsAhead_25 : decode cX1_isAsAhead 25 = .ok (.aload_n 1, 1) := by decide +kernel
theorem dX1_isAsAhead_26 : decode cX1_isAsAhead 26 = .ok (.getfield 59, 3) := by decide +kernel
theorem dX1_isAsAhead_29 : decode cX1_isAsAhead 29 = .ok (.if_icmp .ge 27, 3) := by decide +kernel
theorem dX1_isAsAhead_32 : decode cX1_isAsAhead 32 = .ok (.aload_n 0, 1) := by decide +kernel
theorem dX1_isAsAhead_33 : decode cX1_isAsAhead 33 = .ok (.getfield 16, 3) := by decide +kernel
theorem dX1_isAsAhead_36 : decode cX1_isAsAhead 36 = .ok (.iload_n 2, 1) := by decide +kernel
theorem dX1_isAsAhead_37 : decode cX1_isAsAhead 37 = .ok (.aaload, 1) := by decide +kernel
theorem dX1_isAsAhead_38 : decode cX1_isAsAhead 38 = .ok (.iload 4, 2) := by decide +kernel
theorem dX1_isAsAhead_40 : decode cX1_isAsAhead 40 = .ok (.iaload, 1) := by decide +kernel
theorem dX1_isAsAhead_41 : decode cX1_isAsAhead 41 = .ok (.aload_n 3, 1) := by decide +kernel
theorem dX1_isAsAhead_42 : decode cX1_isAsAhead 42 = .ok (.iload 4, 2) := by decide +kernel
theorem dX1_isAsAhead_44 : decode cX1_isAsAhead 44 = .ok (.iaload, 1) := by decide +kernel
theorem dX1_isAsAhead_45 : decode cX1_isAsAhead 45 = .ok (.if_icmp .eq 5, 3) := by decide +kernel
theorem dX1_isAsAhead_48 : decode cX1_isAsAhead 48 = .ok (.iconst 0, 1) := by decide +kernel
theorem dX1_isAsAhead_49 : decode cX1_isAsAhead 49 = .ok (.ireturn, 1) := by decide +kernel
theorem dX1_isAsAhead_50 : decode cX1_isAsAhead 50 = .ok (.iinc 4 1, 3) := by decide +kernel
theorem dX1_isAsAhead_53 : decode cX1_isAsAhead 53 = .ok (.goto (-30), 3) := by decide +kernel
theorem dX1_isAsAhead_56 : decode cX1_isAsAhead 56 = .ok (.iconst 1, 1) := by decide +kernel
theorem dX1_isAsAhead_57 : decode cX1_isAsAhead 57 = .ok (.ireturn, 1) := by decide +kernel
theorem dX1_swaying_0 : decode cX1_swaying 0 = .ok (.iconst 0, 1) := by decide +kernel
theorem dX1_swaying_1 : decode cX1_swaying 1 = .ok (.istore_n 2, 1) := by decide +kernel
theorem dX1_swaying_2 : decode cX1_swaying 2 = .ok (.iconst 0, 1) := by decide +kernel
theorem dX1_swaying_3 : decode cX1_swaying 3 = .ok (.istore_n 3, 1) := by decide +kernel
theorem dX1_swaying_4 : decode cX1_swaying 4 = .ok (.iload_n 3, 1) := by decide +kernel
theorem dX1_swaying_5 : decode cX1_swaying 5 = .ok (.iload_n 1, 1) := by decide +kernel
theorem dX1_swaying_6 : decode cX1_swaying 6 = .ok (.if_icmp .ge 20, 3) := by decide +kernel
theorem dX1_swaying_9 : decode cX1_swaying 9 = .ok (.aload_n 0, 1) := by decide +kernel
theorem dX1_swaying_10 : decode cX1_swaying 10 = .ok (.iload_n 3, 1) := by decide +kernel
theorem dX1_swaying_11 : decode cX1_swaying 11 = .ok (.invokevirtual 63, 3) := by decide +kernel
theorem dX1_swaying_14 : decode cX1_swaying 14 = .ok (.ifCond .eq 6, 3) := by decide +kernel
theorem dX1_swaying_17 : decode cX1_swaying 17 = .ok (.iinc 2 1, 3) := by decide +kernel
theorem dX1_swaying_20 : decode cX1_swaying 20 = .ok (.iinc 3 1, 3) := by decide +kernel
theorem dX1_swaying_23 : decode cX1_swaying 23 = .ok (.goto (-19), 3) := by decide +kernel
theorem dX1_swaying_26 : decode cX1_swaying 26 = .ok (.iload_n 2, 1) := by decide +kernel
theorem dX1_swaying_27 : decode cX1_swaying 27 = .ok (.ireturn, 1) := by decide +kernel
theorem dX1_swaysOne_0 : decode cX1_swaysOne 0 = .ok (.iconst 1, 1) := by decide +kernel
theorem dX1_swaysOne_1 : decode cX1_swaysOne 1 = .ok (.istore_n 2, 1) := by decide +kernel
theorem dX1_swaysOne_2 : decode cX1_swaysOne 2 = .ok (.iload_n 2, 1) := by decide +kernel
theorem dX1_swaysOne_3 : decode cX1_swaysOne 3 = .ok (.bipush 31, 2) := by decide +kernel
theorem dX1_swaysOne_5 : decode cX1_swaysOne 5 = .ok (.if_icmp .ge 30, 3) := by decide +kernel
theorem dX1_swaysOne_8 : decode cX1_swaysOne 8 = .ok (.aload_n 0, 1) := by decide +kernel
theorem dX1_swaysOne_9 : decode cX1_swaysOne 9 = .ok (.getfield 16, 3) := by decide +kernel
theorem dX1_swaysOne_12 : decode cX1_swaysOne 12 = .ok (.iload_n 2, 1) := by decide +kernel
theorem dX1_swaysOne_13 : decode cX1_swaysOne 13 = .ok (.aaload, 1) := by decide +kernel
theorem dX1_swaysOne_14 : decode cX1_swaysOne 14 = .ok (.iload_n 1, 1) := by decide +kernel
theorem dX1_swaysOne_15 : decode cX1_swaysOne 15 = .ok (.iaload, 1) := by decide +kernel
theorem dX1_swaysOne_16 : decode cX1_swaysOne 16 = .ok (.aload_n 0, 1) := by decide +kernel
theorem dX1_swaysOne_17 : decode cX1_swaysOne 17 = .ok (.getfield 16, 3) := by decide +kernel
theorem dX1_swaysOne_20 : decode cX1_swaysOne 20 = .ok (.iconst 0, 1) := by decide +kernel
theorem dX1_swaysOne_21 : decode cX1_swaysOne 21 = .ok (.aaload, 1) := by decide +kernel
theorem dX1_swaysOne_22 : decode cX1_swaysOne 22 = .ok (.iload_n 1, 1) := by decide +kernel
theorem dX1_swaysOne_23 : decode cX1_swaysOne 23 = .ok (.iaload, 1) := by decide +kernel
theorem dX1_swaysOne_24 : decode cX1_swaysOne 24 = .ok (.if_icmp .eq 5, 3) := by decide +kernel
theorem dX1_swaysOne_27 : decode cX1_swaysOne 27 = .ok (.iconst 1, 1) := by decide +kernel
theorem dX1_swaysOne_28 : decode cX1_swaysOne 28 = .ok (.ireturn, 1) := by decide +kernel
theorem dX1_swaysOne_29 : decode cX1_swaysOne 29 = .ok (.iinc 2 1, 3) := by decide +kernel
theorem dX1_swaysOne_32 : decode cX1_swaysOne 32 = .ok (.goto (-30), 3) := by decide +kernel
theorem dX1_swaysOne_35 : decode cX1_swaysOne 35 = .ok (.iconst 0, 1) := by decide +kernel
theorem dX1_swaysOne_36 : decode cX1_swaysOne 36 = .ok (.ireturn, 1) := by decide +kernel
theorem dX1_daysWon_0 : decode cX1_daysWon 0 = .ok (.iconst 0, 1) := by decide +kernel
theorem dX1_daysWon_1 : decode cX1_daysWon 1 = .ok (.istore_n 2, 1) := by decide +kernel
theorem dX1_daysWon_2 : decode cX1_daysWon 2 = .ok (.iconst 0, 1) := by decide +kernel
theorem dX1_daysWon_3 : decode cX1_daysWon 3 = .ok (.istore_n 3, 1) := by decide +kernel
theorem dX1_daysWon_4 : decode cX1_daysWon 4 = .ok (.iload_n 3, 1) := by decide +kernel
theorem dX1_daysWon_5 : decode cX1_daysWon 5 = .ok (.bipush 31, 2) := by decide +kernel
theorem dX1_daysWon_7 : decode cX1_daysWon 7 = .ok (.if_icmp .ge 22, 3) := by decide +kernel
theorem dX1_daysWon_10 : decode cX1_daysWon 10 = .ok (.iload_n 2, 1) := by decide +kernel
theorem dX1_daysWon_11 : decode cX1_daysWon 11 = .ok (.aload_n 0, 1) := by decide +kernel
theorem dX1_daysWon_12 : decode cX1_daysWon 12 = .ok (.getfield 22, 3) := by decide +kernel
theorem dX1_daysWon_15 : decode cX1_daysWon 15 = .ok (.iload_n 3, 1) := by decide +kernel
theorem dX1_daysWon_16 : decode cX1_daysWon 16 = .ok (.iaload, 1) := by decide +kernel
theorem dX1_daysWon_17 : decode cX1_daysWon 17 = .ok (.iload_n 1, 1) := by decide +kernel
theorem dX1_daysWon_18 : decode cX1_daysWon 18 = .ok (.ishr, 1) := by decide +kernel
theorem dX1_daysWon_19 : decode cX1_daysWon 19 = .ok (.iconst 1, 1) := by decide +kernel
theorem dX1_daysWon_20 : decode cX1_daysWon 20 = .ok (.iand, 1) := by decide +kernel
theorem dX1_daysWon_21 : decode cX1_daysWon 21 = .ok (.iadd, 1) := by decide +kernel
theorem dX1_daysWon_22 : decode cX1_daysWon 22 = .ok (.istore_n 2, 1) := by decide +kernel
theorem dX1_daysWon_23 : decode cX1_daysWon 23 = .ok (.iinc 3 1, 3) := by decide +kernel
theorem dX1_daysWon_26 : decode cX1_daysWon 26 = .ok (.goto (-22), 3) := by decide +kernel
theorem dX1_daysWon_29 : decode cX1_daysWon 29 = .ok (.iload_n 2, 1) := by decide +kernel
theorem dX1_daysWon_30 : decode cX1_daysWon 30 = .ok (.ireturn, 1) := by decide +kernel
theorem dX2_init_0 : decode cX2_init 0 = .ok (.aload_n 0, 1) := by decide +kernel
theorem dX2_init_1 : decode cX2_init 1 = .ok (.invokespecial 3, 3) := by decide +kernel
theorem dX2_init_4 : decode cX2_init 4 = .ok (.aload_n 0, 1) := by decide +kernel
theorem dX2_init_5 : decode cX2_init 5 = .ok (.bipush 7, 2) := by decide +kernel
theorem dX2_init_7 : decode cX2_init 7 = .ok (.newarray .int, 2) := by decide +kernel
theorem dX2_init_9 : decode cX2_init 9 = .ok (.putfield 9, 3) := by decide +kernel
theorem dX2_init_12 : decode cX2_init 12 = .ok (.aload_n 0, 1) := by decide +kernel
theorem dX2_init_13 : decode cX2_init 13 = .ok (.iconst 5, 1) := by decide +kernel
theorem dX2_init_14 : decode cX2_init 14 = .ok (.newarray .int, 2) := by decide +kernel
theorem dX2_init_16 : decode cX2_init 16 = .ok (.putfield 15, 3) := by decide +kernel
theorem dX2_init_19 : decode cX2_init 19 = .ok (.return_, 1) := by decide +kernel
theorem dX2_play_0 : decode cX2_play 0 = .ok (.aload_n 1, 1) := by decide +kernel
theorem dX2_play_1 : decode cX2_play 1 = .ok (.getfield 18, 3) := by decide +kernel
theorem dX2_play_4 : decode cX2_play 4 = .ok (.iconst 0, 1) := by decide +kernel
theorem dX2_play_5 : decode cX2_play 5 = .ok (.aload_n 0, 1) := by decide +kernel
theorem dX2_play_6 : decode cX2_play 6 = .ok (.getfield 9, 3) := by decide +kernel
theorem dX2_play_9 : decode cX2_play 9 = .ok (.iconst 0, 1) := by decide +kernel
theorem dX2_play_10 : decode cX2_play 10 = .ok (.bipush 7, 2) := by decide +kernel
theorem dX2_play_12 : decode cX2_play 12 = .ok (.invokestatic 23, 3) := by decide +kernel
theorem dX2_play_15 : decode cX2_play 15 = .ok (.iconst 0, 1) := by decide +kernel
theorem dX2_play_16 : decode cX2_play 16 = .ok (.istore_n 3, 1) := by decide +kernel
theorem dX2_play_17 : decode cX2_play 17 = .ok (.iconst 0, 1) := by decide +kernel
theorem dX2_play_18 : decode cX2_play 18 = .ok (.istore 4, 2) := by decide +kernel
theorem dX2_play_20 : decode cX2_play 20 = .ok (.iload 4, 2) := by decide +kernel
theorem dX2_play_22 : decode cX2_play 22 = .ok (.bipush 31, 2) := by decide +kernel
theorem dX2_play_24 : decode cX2_play 24 = .ok (.if_icmp .ge 49, 3) := by decide +kernel
theorem dX2_play_27 : decode cX2_play 27 = .ok (.aload_n 1, 1) := by decide +kernel
theorem dX2_play_28 : decode cX2_play 28 = .ok (.aload_n 0, 1) := by decide +kernel
theorem dX2_play_29 : decode cX2_play 29 = .ok (.getfield 9, 3) := by decide +kernel
theorem dX2_play_32 : decode cX2_play 32 = .ok (.invokevirtual 29, 3) := by decide +kernel
theorem dX2_play_35 : decode cX2_play 35 = .ok (.aload_n 0, 1) := by decide +kernel
theorem dX2_play_36 : decode cX2_play 36 = .ok (.aload_n 1, 1) := by decide +kernel
theorem dX2_play_37 : decode cX2_play 37 = .ok (.getfield 33, 3) := by decide +kernel
theorem dX2_play_40 : decode cX2_play 40 = .ok (.iload_n 2, 1) := by decide +kernel
theorem dX2_play_41 : decode cX2_play 41 = .ok (.iload 4, 2) := by decide +kernel
theorem dX2_play_43 : decode cX2_play 43 = .ok (.invokestatic 37, 3) := by decide +kernel
theorem dX2_play_46 : decode cX2_play 46 = .ok (.invokevirtual 41, 3) := by decide +kernel
theorem dX2_play_49 : decode cX2_play 49 = .ok (.iload_n 3, 1) := by decide +kernel
theorem dX2_play_50 : decode cX2_play 50 = .ok (.aload_n 1, 1) := by decide +kernel
theorem dX2_play_51 : decode cX2_play 51 = .ok (.aload_n 0, 1) := by decide +kernel
theorem dX2_play_52 : decode cX2_play 52 = .ok (.getfield 9, 3) := by decide +kernel
theorem dX2_play_55 : decode cX2_play 55 = .ok (.aload_n 0, 1) := by decide +kernel
theorem dX2_play_56 : decode cX2_play 56 = .ok (.getfield 15, 3) := by decide +kernel
theorem dX2_play_59 : decode cX2_play 59 = .ok (.invokevirtual 45, 3) := by decide +kernel
theorem dX2_play_62 : decode cX2_play 62 = .ok (.invokestatic 49, 3) := by decide +kernel
theorem dX2_play_65 : decode cX2_play 65 = .ok (.iadd, 1) := by decide +kernel
theorem dX2_play_66 : decode cX2_play 66 = .ok (.istore_n 3, 1) := by decide +kernel
theorem dX2_play_67 : decode cX2_play 67 = .ok (.iinc 4 1, 3) := by decide +kernel
theorem dX2_play_70 : decode cX2_play 70 = .ok (.goto (-50), 3) := by decide +kernel
theorem dX2_play_73 : decode cX2_play 73 = .ok (.iload_n 3, 1) := by decide +kernel
theorem dX2_play_74 : decode cX2_play 74 = .ok (.ireturn, 1) := by decide +kernel
theorem dX2_turnOne_0 : decode cX2_turnOne 0 = .ok (.iload_n 1, 1) := by decide +kernel
theorem dX2_turnOne_1 : decode cX2_turnOne 1 = .ok (.ifCond .le 33, 3) := by decide +kernel
theorem dX2_turnOne_4 : decode cX2_turnOne 4 = .ok (.iload_n 2, 1) := by decide +kernel
theorem dX2_turnOne_5 : decode cX2_turnOne 5 = .ok (.iload_n 1, 1) := by decide +kernel
theorem dX2_turnOne_6 : decode cX2_turnOne 6 = .ok (.irem, 1) := by decide +kernel
theorem dX2_turnOne_7 : decode cX2_turnOne 7 = .ok (.istore_n 3, 1) := by decide +kernel
theorem dX2_turnOne_8 : decode cX2_turnOne 8 = .ok (.aload_n 0, 1) := by decide +kernel
theorem dX2_turnOne_9 : decode cX2_turnOne 9 = .ok (.getfield 9, 3) := by decide +kernel
theorem dX2_turnOne_12 : decode cX2_turnOne 12 = .ok (.iload_n 3, 1) := by decide +kernel
theorem dX2_turnOne_13 : decode cX2_turnOne 13 = .ok (.aload_n 0, 1) := by decide +kernel
theorem dX2_turnOne_14 : decode cX2_turnOne 14 = .ok (.getfield 9, 3) := by decide +kernel
theorem dX2_turnOne_17 : decode cX2_turnOne 17 = .ok (.iload_n 3, 1) := by decide +kernel
theorem dX2_turnOne_18 : decode cX2_turnOne 18 = .ok (.iaload, 1) := by decide +kernel
theorem dX2_turnOne_19 : decode cX2_turnOne 19 = .ok (.iload_n 2, 1) := by decide +kernel
theorem dX2_turnOne_20 : decode cX2_turnOne 20 = .ok (.bipush 8, 2) := by decide +kernel
theorem dX2_turnOne_22 : decode cX2_turnOne 22 = .ok (.idiv, 1) := by decide +kernel
theorem dX2_turnOne_23 : decode cX2_turnOne 23 = .ok (.bipush 41, 2) := by decide +kernel
theorem dX2_turnOne_25 : decode cX2_turnOne 25 = .ok (.irem, 1) := by decide +kernel
theorem dX2_turnOne_26 : decode cX2_turnOne 26 = .ok (.iadd, 1) := by decide +kernel
theorem dX2_turnOne_27 : decode cX2_turnOne 27 = .ok (.bipush 20, 2) := by decide +kernel
theorem dX2_turnOne_29 : decode cX2_turnOne 29 = .ok (.isub, 1) := by decide +kernel
theorem dX2_turnOne_30 : decode cX2_turnOne 30 = .ok (.invokestatic 55, 3) := by decide +kernel
theorem dX2_turnOne_33 : decode cX2_turnOne 33 = .ok (.iastore, 1) := by decide +kernel
theorem dX2_turnOne_34 : decode cX2_turnOne 34 = .ok (.return_, 1) := by decide +kernel
theorem dX2_draw_0 : decode cX2_draw 0 = .ok (.ldc2_w 58, 3) := by decide +kernel
theorem dX2_draw_3 : decode cX2_draw 3 = .ok (.iload_n 0, 1) := by decide +kernel
theorem dX2_draw_4 : decode cX2_draw 4 = .ok (.i2l, 1) := by decide +kernel
theorem dX2_draw_5 : decode cX2_draw 5 = .ok (.lmul, 1) := by decide +kernel
theorem dX2_draw_6 : decode cX2_draw 6 = .ok (.ldc2_w 60, 3) := by decide +kernel
theorem dX2_draw_9 : decode cX2_draw 9 = .ok (.iload_n 1, 1) := by decide +kernel
theorem dX2_draw_10 : decode cX2_draw 10 = .ok (.i2l, 1) := by decide +kernel
theorem dX2_draw_11 : decode cX2_draw 11 = .ok (.lmul, 1) := by decide +kernel
theorem dX2_draw_12 : decode cX2_draw 12 = .ok (.ladd, 1) := by decide +kernel
theorem dX2_draw_13 : decode cX2_draw 13 = .ok (.lconst 1, 1) := by decide +kernel
theorem dX2_draw_14 : decode cX2_draw 14 = .ok (.ladd, 1) := by decide +kernel
theorem dX2_draw_15 : decode cX2_draw 15 = .ok (.lstore_n 2, 1) := by decide +kernel
theorem dX2_draw_16 : decode cX2_draw 16 = .ok (.lload_n 2, 1) := by decide +kernel
theorem dX2_draw_17 : decode cX2_draw 17 = .ok (.lload_n 2, 1) := by decide +kernel
theorem dX2_draw_18 : decode cX2_draw 18 = .ok (.lmul, 1) := by decide +kernel
theorem dX2_draw_19 : decode cX2_draw 19 = .ok (.ldc2_w 62, 3) := by decide +kernel
theorem dX2_draw_22 : decode cX2_draw 22 = .ok (.lrem, 1) := by decide +kernel
theorem dX2_draw_23 : decode cX2_draw 23 = .ok (.l2i, 1) := by decide +kernel
theorem dX2_draw_24 : decode cX2_draw 24 = .ok (.ireturn, 1) := by decide +kernel
theorem dX3_farthestBorne_0 : decode cX3_farthestBorne 0 = .ok (.iload_n 0, 1) := by decide +kernel
theorem dX3_farthestBorne_1 : decode cX3_farthestBorne 1 = .ok (.iconst 3, 1) := by decide +kernel
theorem dX3_farthestBorne_2 : decode cX3_farthestBorne 2 = .ok (.if_icmp .ne 9, 3) := by decide +kernel
theorem dX3_farthestBorne_5 : decode cX3_farthestBorne 5 = .ok (.iconst 2, 1) := by decide +kernel
theorem dX3_farthestBorne_6 : decode cX3_farthestBorne 6 = .ok (.iload_n 1, 1) := by decide +kernel
theorem dX3_farthestBorne_7 : decode cX3_farthestBorne 7 = .ok (.imul, 1) := by decide +kernel
theorem dX3_farthestBorne_8 : decode cX3_farthestBorne 8 = .ok (.goto 4, 3) := by decide +kernel
theorem dX3_farthestBorne_11 : decode cX3_farthestBorne 11 = .ok (.iload_n 1, 1) := by decide +kernel
theorem dX3_farthestBorne_12 : decode cX3_farthestBorne 12 = .ok (.ireturn, 1) := by decide +kernel
theorem dX3_settle_0 : decode cX3_settle 0 = .ok (.iload_n 2, 1) := by decide +kernel
theorem dX3_settle_1 : decode cX3_settle 1 = .ok (.invokestatic 9, 3) := by decide +kernel
theorem dX3_settle_4 : decode cX3_settle 4 = .ok (.iload_n 0, 1) := by decide +kernel
theorem dX3_settle_5 : decode cX3_settle 5 = .ok (.iload_n 1, 1) := by decide +kernel
theorem dX3_settle_6 : decode cX3_settle 6 = .ok (.invokestatic 15, 3) := by decide +kernel
theorem dX3_settle_9 : decode cX3_settle 9 = .ok (.if_icmp .gt 5, 3) := by decide +kernel
theorem dX3_settle_12 : decode cX3_settle 12 = .ok (.iload_n 2, 1) := by decide +kernel
theorem dX3_settle_13 : decode cX3_settle 13 = .ok (.ireturn, 1) := by decide +kernel
theorem dX3_settle_14 : decode cX3_settle 14 = .ok (.iload_n 0, 1) := by decide +kernel
theorem dX3_settle_15 : decode cX3_settle 15 = .ok (.tableswitch 45 1 3 #[25, 29, 34], 25) := by decide +kernel
theorem dX3_settle_40 : decode cX3_settle 40 = .ok (.iload_n 2, 1) := by decide +kernel
theorem dX3_settle_41 : decode cX3_settle 41 = .ok (.iconst 2, 1) := by decide +kernel
theorem dX3_settle_42 : decode cX3_settle 42 = .ok (.idiv, 1) := by decide +kernel
theorem dX3_settle_43 : decode cX3_settle 43 = .ok (.ireturn, 1) := by decide +kernel
theorem dX3_settle_44 : decode cX3_settle 44 = .ok (.iload_n 2, 1) := by decide +kernel
theorem dX3_settle_45 : decode cX3_settle 45 = .ok (.iconst 2, 1) := by decide +kernel
theorem dX3_settle_46 : decode cX3_settle 46 = .ok (.idiv, 1) := by decide +kernel
theorem dX3_settle_47 : decode cX3_settle 47 = .ok (.ineg, 1) := by decide +kernel
theorem dX3_settle_48 : decode cX3_settle 48 = .ok (.ireturn, 1) := by decide +kernel
theorem dX3_settle_49 : decode cX3_settle 49 = .ok (.iload_n 2, 1) := by decide +kernel
theorem dX3_settle_50 : decode cX3_settle 50 = .ok (.ifCond .le 7, 3) := by decide +kernel
theorem dX3_settle_53 : decode cX3_settle 53 = .ok (.iload_n 1, 1) := by decide +kernel
theorem dX3_settle_54 : decode cX3_settle 54 = .ok (.goto 5, 3) := by decide +kernel
theorem dX3_settle_57 : decode cX3_settle 57 = .ok (.iload_n 1, 1) := by decide +kernel
theorem dX3_settle_58 : decode cX3_settle 58 = .ok (.ineg, 1) := by decide +kernel
theorem dX3_settle_59 : decode cX3_settle 59 = .ok (.ireturn, 1) := by decide +kernel
theorem dX3_settle_60 : decode cX3_settle 60 = .ok (.iconst 0, 1) := by decide +kernel
theorem dX3_settle_61 : decode cX3_settle 61 = .ok (.ireturn, 1) := by decide +kernel
theorem dX4_init_0 : decode cX4_init 0 = .ok (.aload_n 0, 1) := by decide +kernel
theorem dX4_init_1 : decode cX4_init 1 = .ok (.invokespecial 3, 3) := by decide +kernel
theorem dX4_init_4 : decode cX4_init 4 = .ok (.aload_n 0, 1) := by decide +kernel
theorem dX4_init_5 : decode cX4_init 5 = .ok (.bipush 7, 2) := by decide +kernel
theorem dX4_init_7 : decode cX4_init 7 = .ok (.newarray .int, 2) := by decide +kernel
theorem dX4_init_9 : decode cX4_init 9 = .ok (.putfield 9, 3) := by decide +kernel
theorem dX4_init_12 : decode cX4_init 12 = .ok (.aload_n 0, 1) := by decide +kernel
theorem dX4_init_13 : decode cX4_init 13 = .ok (.bipush 7, 2) := by decide +kernel
theorem dX4_init_15 : decode cX4_init 15 = .ok (.newarray .int, 2) := by decide +kernel
theorem dX4_init_17 : decode cX4_init 17 = .ok (.putfield 15, 3) := by decide +kernel
theorem dX4_init_20 : decode cX4_init 20 = .ok (.aload_n 0, 1) := by decide +kernel
theorem dX4_init_21 : decode cX4_init 21 = .ok (.bipush 7, 2) := by decide +kernel
theorem dX4_init_23 : decode cX4_init 23 = .ok (.newarray .int, 2) := by decide +kernel
theorem dX4_init_25 : decode cX4_init 25 = .ok (.putfield 18, 3) := by decide +kernel
theorem dX4_init_28 : decode cX4_init 28 = .ok (.aload_n 0, 1) := by decide +kernel
theorem dX4_init_29 : decode cX4_init 29 = .ok (.bipush 7, 2) := by decide +kernel
theorem dX4_init_31 : decode cX4_init 31 = .ok (.newarray .int, 2) := by decide +kernel
theorem dX4_init_33 : decode cX4_init 33 = .ok (.putfield 21, 3) := by decide +kernel
theorem dX4_init_36 : decode cX4_init 36 = .ok (.aload_n 0, 1) := by decide +kernel
theorem dX4_init_37 : decode cX4_init 37 = .ok (.iconst 5, 1) := by decide +kernel
theorem dX4_init_38 : decode cX4_init 38 = .ok (.newarray .int, 2) := by decide +kernel
theorem dX4_init_40 : decode cX4_init 40 = .ok (.putfield 24, 3) := by decide +kernel
theorem dX4_init_43 : decode cX4_init 43 = .ok (.aload_n 0, 1) := by decide +kernel
theorem dX4_init_44 : decode cX4_init 44 = .ok (.iconst 5, 1) := by decide +kernel
theorem dX4_init_45 : decode cX4_init 45 = .ok (.newarray .int, 2) := by decide +kernel
theorem dX4_init_47 : decode cX4_init 47 = .ok (.putfield 27, 3) := by decide +kernel
theorem dX4_init_50 : decode cX4_init 50 = .ok (.aload_n 0, 1) := by decide +kernel
theorem dX4_init_51 : decode cX4_init 51 = .ok (.bipush 10, 2) := by decide +kernel
theorem dX4_init_53 : decode cX4_init 53 = .ok (.newarray .int, 2) := by decide +kernel
theorem dX4_init_55 : decode cX4_init 55 = .ok (.putfield 30, 3) := by decide +kernel
theorem dX4_init_58 : decode cX4_init 58 = .ok (.aload_n 0, 1) := by decide +kernel
theorem dX4_init_59 : decode cX4_init 59 = .ok (.bipush 10, 2) := by decide +kernel
theorem dX4_init_61 : decode cX4_init 61 = .ok (.newarray .int, 2) := by decide +kernel
theorem dX4_init_63 : decode cX4_init 63 = .ok (.putfield 33, 3) := by decide +kernel
theorem dX4_init_66 : decode cX4_init 66 = .ok (.aload_n 0, 1) := by decide +kernel
theorem dX4_init_67 : decode cX4_init 67 = .ok (.bipush 10, 2) := by decide +kernel
theorem dX4_init_69 : decode cX4_init 69 = .ok (.newarray .int, 2) := by decide +kernel
theorem dX4_init_71 : decode cX4_init 71 = .ok (.putfield 36, 3) := by decide +kernel
theorem dX4_init_74 : decode cX4_init 74 = .ok (.aload_n 0, 1) := by decide +kernel
theorem dX4_init_75 : decode cX4_init 75 = .ok (.new 39, 3) := by decide +kernel
theorem dX4_init_78 : decode cX4_init 78 = .ok (.dup, 1) := by decide +kernel
theorem dX4_init_79 : decode cX4_init 79 = .ok (.invokespecial 41, 3) := by decide +kernel
theorem dX4_init_82 : decode cX4_init 82 = .ok (.putfield 42, 3) := by decide +kernel
theorem dX4_init_85 : decode cX4_init 85 = .ok (.return_, 1) := by decide +kernel
theorem dX4_empty_0 : decode cX4_empty 0 = .ok (.aload_n 0, 1) := by decide +kernel
theorem dX4_empty_1 : decode cX4_empty 1 = .ok (.iconst 0, 1) := by decide +kernel
theorem dX4_empty_2 : decode cX4_empty 2 = .ok (.putfield 46, 3) := by decide +kernel
theorem dX4_empty_5 : decode cX4_empty 5 = .ok (.aload_n 0, 1) := by decide +kernel
theorem dX4_empty_6 : decode cX4_empty 6 = .ok (.iconst 0, 1) := by decide +kernel
theorem dX4_empty_7 : decode cX4_empty 7 = .ok (.putfield 50, 3) := by decide +kernel
theorem dX4_empty_10 : decode cX4_empty 10 = .ok (.aload_n 0, 1) := by decide +kernel
theorem dX4_empty_11 : decode cX4_empty 11 = .ok (.iconst 0, 1) := by decide +kernel
theorem dX4_empty_12 : decode cX4_empty 12 = .ok (.putfield 53, 3) := by decide +kernel
theorem dX4_empty_15 : decode cX4_empty 15 = .ok (.aload_n 0, 1) := by decide +kernel
theorem dX4_empty_16 : decode cX4_empty 16 = .ok (.getfield 42, 3) := by decide +kernel
theorem dX4_empty_19 : decode cX4_empty 19 = .ok (.iconst 0, 1) := by decide +kernel
theorem dX4_empty_20 : decode cX4_empty 20 = .ok (.putfield 56, 3) := by decide +kernel
theorem dX4_empty_23 : decode cX4_empty 23 = .ok (.return_, 1) := by decide +kernel
theorem dX4_take_0 : decode cX4_take 0 = .ok (.aload_n 2, 1) := by decide +kernel
theorem dX4_take_1 : decode cX4_take 1 = .ok (.iconst 0, 1) := by decide +kernel
theorem dX4_take_2 : decode cX4_take 2 = .ok (.iaload, 1) := by decide +kernel
theorem dX4_take_3 : decode cX4_take 3 = .ok (.istore_n 3, 1) := by decide +kernel
theorem dX4_take_4 : decode cX4_take 4 = .ok (.aload_n 2, 1) := by decide +kernel
theorem dX4_take_5 : decode cX4_take 5 = .ok (.iconst 1, 1) := by decide +kernel
theorem dX4_take_6 : decode cX4_take 6 = .ok (.iaload, 1) := by decide +kernel
theorem dX4_take_7 : decode cX4_take 7 = .ok (.istore 4, 2) := by decide +kernel
theorem dX4_take_9 : decode cX4_take 9 = .ok (.aload_n 2, 1) := by decide +kernel
theorem dX4_take_10 : decode cX4_take 10 = .ok (.iconst 2, 1) := by decide +kernel
theorem dX4_take_11 : decode cX4_take 11 = .ok (.iaload, 1) := by decide +kernel
theorem dX4_take_12 : decode cX4_take 12 = .ok (.istore 5, 2) := by decide +kernel
theorem dX4_take_14 : decode cX4_take 14 = .ok (.iload_n 1, 1) := by decide +kernel
theorem dX4_take_15 : decode cX4_take 15 = .ok (.lookupswitch 109 #[(99, 101), (102, 57), (110, 91), (112, 73), (116, 65), (119, 81)], 57) := by decide +kernel
theorem dX4_take_72 : decode cX4_take 72 = .ok (.aload_n 0, 1) := by decide +kernel
theorem dX4_take_73 : decode cX4_take 73 = .ok (.iload_n 3, 1) := by decide +kernel
theorem dX4_take_74 : decode cX4_take 74 = .ok (.iload 4, 2) := by decide +kernel
theorem dX4_take_76 : decode cX4_take 76 = .ok (.invokevirtual 59, 3) := by decide +kernel
theorem dX4_take_79 : decode cX4_take 79 = .ok (.ireturn, 1) := by decide +kernel
theorem dX4_take_80 : decode cX4_take 80 = .ok (.aload_n 0, 1) := by decide +kernel
theorem dX4_take_81 : decode cX4_take 81 = .ok (.iload_n 3, 1) := by decide +kernel
theorem dX4_take_82 : decode cX4_take 82 = .ok (.iload 4, 2) := by decide +kernel
theorem dX4_take_84 : decode cX4_take 84 = .ok (.invokevirtual 63, 3) := by decide +kernel
theorem dX4_take_87 : decode cX4_take 87 = .ok (.ireturn, 1) := by decide +kernel
theorem dX4_take_88 : decode cX4_take 88 = .ok (.aload_n 0, 1) := by decide +kernel
theorem dX4_take_89 : decode cX4_take 89 = .ok (.iload_n 3, 1) := by decide +kernel
theorem dX4_take_90 : decode cX4_take 90 = .ok (.iload 4, 2) := by decide +kernel
theorem dX4_take_92 : decode cX4_take 92 = .ok (.invokevirtual 66, 3) := by decide +kernel
theorem dX4_take_95 : decode cX4_take 95 = .ok (.ireturn, 1) := by decide +kernel
theorem dX4_take_96 : decode cX4_take 96 = .ok (.aload_n 0, 1) := by decide +kernel
theorem dX4_take_97 : decode cX4_take 97 = .ok (.iload_n 3, 1) := by decide +kernel
theorem dX4_take_98 : decode cX4_take 98 = .ok (.iload 4, 2) := by decide +kernel
theorem dX4_take_100 : decode cX4_take 100 = .ok (.iload 5, 2) := by decide +kernel
theorem dX4_take_102 : decode cX4_take 102 = .ok (.invokevirtual 69, 3) := by decide +kernel
theorem dX4_take_105 : decode cX4_take 105 = .ok (.ireturn, 1) := by decide +kernel
theorem dX4_take_106 : decode cX4_take 106 = .ok (.aload_n 0, 1) := by decide +kernel
theorem dX4_take_107 : decode cX4_take 107 = .ok (.iload_n 3, 1) := by decide +kernel
theorem dX4_take_108 : decode cX4_take 108 = .ok (.iload 4, 2) := by decide +kernel
theorem dX4_take_110 : decode cX4_take 110 = .ok (.iload 5, 2) := by decide +kernel
theorem dX4_take_112 : decode cX4_take 112 = .ok (.invokevirtual 73, 3) := by decide +kernel
theorem dX4_take_115 : decode cX4_take 115 = .ok (.ireturn, 1) := by decide +kernel
theorem dX4_take_116 : decode cX4_take 116 = .ok (.aload_n 0, 1) := by decide +kernel
theorem dX4_take_117 : decode cX4_take 117 = .ok (.iload_n 3, 1) := by decide +kernel
theorem dX4_take_118 : decode cX4_take 118 = .ok (.iload 4, 2) := by decide +kernel
theorem dX4_take_120 : decode cX4_take 120 = .ok (.invokevirtual 76, 3) := by decide +kernel
theorem dX4_take_123 : decode cX4_take 123 = .ok (.ireturn, 1) := by decide +kernel
theorem dX4_take_124 : decode cX4_take 124 = .ok (.iconst 0, 1) := by decide +kernel
theorem dX4_take_125 : decode cX4_take 125 = .ok (.ireturn, 1) := by decide +kernel
theorem dX4_takeFrame_0 : decode cX4_takeFrame 0 = .ok (.aload_n 0, 1) := by decide +kernel
theorem dX4_takeFrame_1 : decode cX4_takeFrame 1 = .ok (.getfield 46, 3) := by decide +kernel
theorem dX4_takeFrame_4 : decode cX4_takeFrame 4 = .ok (.bipush 7, 2) := by decide +kernel
theorem dX4_takeFrame_6 : decode cX4_takeFrame 6 = .ok (.if_icmp .ge 20, 3) := by decide +kernel
theorem dX4_takeFrame_9 : decode cX4_takeFrame 9 = .ok (.iload_n 1, 1) := by decide +kernel
theorem dX4_takeFrame_10 : decode cX4_takeFrame 10 = .ok (.iconst 4, 1) := by decide +kernel
theorem dX4_takeFrame_11 : decode cX4_takeFrame 11 = .ok (.invokestatic 79, 3) := by decide +kernel
theorem dX4_takeFrame_14 : decode cX4_takeFrame 14 = .ok (.ifCond .ne 12, 3) := by decide +kernel
theorem dX4_takeFrame_17 : decode cX4_takeFrame 17 = .ok (.iload_n 2, 1) := by decide +kernel
theorem dX4_takeFrame_18 : decode cX4_takeFrame 18 = .ok (.bipush 41, 2) := by decide +kernel
theorem dX4_takeFrame_20 : decode cX4_takeFrame 20 = .ok (.invokestatic 79, 3) := by decide +kernel
theorem dX4_takeFrame_23 : decode cX4_takeFrame 23 = .ok (.ifCond .eq 5, 3) := by decide +kernel
theorem dX4_takeFrame_26 : decode cX4_takeFrame 26 = .ok (.iconst 0, 1) := by decide +kernel
theorem dX4_takeFrame_27 : decode cX4_takeFrame 27 = .ok (.ireturn, 1) := by decide +kernel
theorem dX4_takeFrame_28 : decode cX4_takeFrame 28 = .ok (.aload_n 0, 1) := by decide +kernel
theorem dX4_takeFrame_29 : decode cX4_takeFrame 29 = .ok (.getfield 9, 3) := by decide +kernel
theorem dX4_takeFrame_32 : decode cX4_takeFrame 32 = .ok (.aload_n 0, 1) := by decide +kernel
theorem dX4_takeFrame_33 : decode cX4_takeFrame 33 = .ok (.getfield 46, 3) := by decide +kernel
theorem dX4_takeFrame_36 : decode cX4_takeFrame 36 = .ok (.iload_n 1, 1) := by decide +kernel
theorem dX4_takeFrame_37 : decode cX4_takeFrame 37 = .ok (.iastore, 1) := by decide +kernel
theorem dX4_takeFrame_38 : decode cX4_takeFrame 38 = .ok (.aload_n 0, 1) := by decide +kernel
theorem dX4_takeFrame_39 : decode cX4_takeFrame 39 = .ok (.getfield 15, 3) := by decide +kernel
theorem dX4_takeFrame_42 : decode cX4_takeFrame 42 = .ok (.aload_n 0, 1) := by decide +kernel
theorem dX4_takeFrame_43 : decode cX4_takeFrame 43 = .ok (.getfield 46, 3) := by decide +kernel
theorem dX4_takeFrame_46 : decode cX4_takeFrame 46 = .ok (.iload_n 2, 1) := by decide +kernel
theorem dX4_takeFrame_47 : decode cX4_takeFrame 47 = .ok (.bipush 20, 2) := by decide +kernel
theorem dX4_takeFrame_49 : decode cX4_takeFrame 49 = .ok (.isub, 1) := by decide +kernel
theorem dX4_takeFrame_50 : decode cX4_takeFrame 50 = .ok (.iastore, 1) := by decide +kernel
theorem dX4_takeFrame_51 : decode cX4_takeFrame 51 = .ok (.aload_n 0, 1) := by decide +kernel
theorem dX4_takeFrame_52 : decode cX4_takeFrame 52 = .ok (.getfield 18, 3) := by decide +kernel
theorem dX4_takeFrame_55 : decode cX4_takeFrame 55 = .ok (.aload_n 0, 1) := by decide +kernel
theorem dX4_takeFrame_56 : decode cX4_takeFrame 56 = .ok (.getfield 46, 3) := by decide +kernel
theorem dX4_takeFrame_59 : decode cX4_takeFrame 59 = .ok (.iconst 0, 1) := by decide +kernel
theorem dX4_takeFrame_60 : decode cX4_takeFrame 60 = .ok (.iastore, 1) := by decide +kernel
theorem dX4_takeFrame_61 : decode cX4_takeFrame 61 = .ok (.aload_n 0, 1) := by decide +kernel
theorem dX4_takeFrame_62 : decode cX4_takeFrame 62 = .ok (.getfield 21, 3) := by decide +kernel
theorem dX4_takeFrame_65 : decode cX4_takeFrame 65 = .ok (.aload_n 0, 1) := by decide +kernel
theorem dX4_takeFrame_66 : decode cX4_takeFrame 66 = .ok (.getfield 46, 3) := by decide +kernel
theorem dX4_takeFrame_69 : decode cX4_takeFrame 69 = .ok (.iconst 0, 1) := by decide +kernel
theorem dX4_takeFrame_70 : decode cX4_takeFrame 70 = .ok (.iastore, 1) := by decide +kernel
theorem dX4_takeFrame_71 : decode cX4_takeFrame 71 = .ok (.aload_n 0, 1) := by decide +kernel
theorem dX4_takeFrame_72 : decode cX4_takeFrame 72 = .ok (.dup, 1) := by decide +kernel
theorem dX4_takeFrame_73 : decode cX4_takeFrame 73 = .ok (.getfield 46, 3) := by decide +kernel
theorem dX4_takeFrame_76 : decode cX4_takeFrame 76 = .ok (.iconst 1, 1) := by decide +kernel
theorem dX4_takeFrame_77 : decode cX4_takeFrame 77 = .ok (.iadd, 1) := by decide +kernel
theorem dX4_takeFrame_78 : decode cX4_takeFrame 78 = .ok (.putfield 46, 3) := by decide +kernel
theorem dX4_takeFrame_81 : decode cX4_takeFrame 81 = .ok (.iconst 1, 1) := by decide +kernel
theorem dX4_takeFrame_82 : decode cX4_takeFrame 82 = .ok (.ireturn, 1) := by decide +kernel
theorem dX4_takeWire_0 : decode cX4_takeWire 0 = .ok (.iload_n 1, 1) := by decide +kernel
theorem dX4_takeWire_1 : decode cX4_takeWire 1 = .ok (.aload_n 0, 1) := by decide +kernel
theorem dX4_takeWire_2 : decode cX4_takeWire 2 = .ok (.getfield 46, 3) := by decide +kernel
theorem dX4_takeWire_5 : decode cX4_takeWire 5 = .ok (.invokestatic 79, 3) := by decide +kernel
theorem dX4_takeWire_8 : decode cX4_takeWire 8 = .ok (.ifCond .ne 12, 3) := by decide +kernel
theorem dX4_takeWire_11 : decode cX4_takeWire 11 = .ok (.iload_n 2, 1) := by decide +kernel
theorem dX4_takeWire_12 : decode cX4_takeWire 12 = .ok (.bipush 11, 2) := by decide +kernel
theorem dX4_takeWire_14 : decode cX4_takeWire 14 = .ok (.invokestatic 79, 3) := by decide +kernel
theorem dX4_takeWire_17 : decode cX4_takeWire 17 = .ok (.ifCond .eq 5, 3) := by decide +kernel
theorem dX4_takeWire_20 : decode cX4_takeWire 20 = .ok (.iconst 0, 1) := by decide +kernel
theorem dX4_takeWire_21 : decode cX4_takeWire 21 = .ok (.ireturn, 1) := by decide +kernel
theorem dX4_takeWire_22 : decode cX4_takeWire 22 = .ok (.aload_n 0, 1) := by decide +kernel
theorem dX4_takeWire_23 : decode cX4_takeWire 23 = .ok (.getfield 18, 3) := by decide +kernel
theorem dX4_takeWire_26 : decode cX4_takeWire 26 = .ok (.iload_n 1, 1) := by decide +kernel
theorem dX4_takeWire_27 : decode cX4_takeWire 27 = .ok (.iload_n 2, 1) := by decide +kernel
theorem dX4_takeWire_28 : decode cX4_takeWire 28 = .ok (.iconst 5, 1) := by decide +kernel
theorem dX4_takeWire_29 : decode cX4_takeWire 29 = .ok (.isub, 1) := by decide +kernel
theorem dX4_takeWire_30 : decode cX4_takeWire 30 = .ok (.iastore, 1) := by decide +kernel
theorem dX4_takeWire_31 : decode cX4_takeWire 31 = .ok (.iconst 1, 1) := by decide +kernel
theorem dX4_takeWire_32 : decode cX4_takeWire 32 = .ok (.ireturn, 1) := by decide +kernel
theorem dX4_takePatch_0 : decode cX4_takePatch 0 = .ok (.iload_n 1, 1) := by decide +kernel
theorem dX4_takePatch_1 : decode cX4_takePatch 1 = .ok (.aload_n 0, 1) := by decide +kernel
theorem dX4_takePatch_2 : decode cX4_takePatch 2 = .ok (.getfield 46, 3) := by decide +kernel
theorem dX4_takePatch_5 : decode cX4_takePatch 5 = .ok (.invokestatic 79, 3) := by decide +kernel
theorem dX4_takePatch_8 : decode cX4_takePatch 8 = .ok (.ifCond .ne 12, 3) := by decide +kernel
theorem dX4_takePatch_11 : decode cX4_takePatch 11 = .ok (.iload_n 2, 1) := by decide +kernel
theorem dX4_takePatch_12 : decode cX4_takePatch 12 = .ok (.bipush 41, 2) := by decide +kernel
theorem dX4_takePatch_14 : decode cX4_takePatch 14 = .ok (.invokestatic 79, 3) := by decide +kernel
theorem dX4_takePatch_17 : decode cX4_takePatch 17 = .ok (.ifCond .eq 5, 3) := by decide +kernel
theorem dX4_takePatch_20 : decode cX4_takePatch 20 = .ok (.iconst 0, 1) := by decide +kernel
theorem dX4_takePatch_21 : decode cX4_takePatch 21 = .ok (.ireturn, 1) := by decide +kernel
theorem dX4_takePatch_22 : decode cX4_takePatch 22 = .ok (.aload_n 0, 1) := by decide +kernel
theorem dX4_takePatch_23 : decode cX4_takePatch 23 = .ok (.getfield 21, 3) := by decide +kernel
theorem dX4_takePatch_26 : decode cX4_takePatch 26 = .ok (.iload_n 1, 1) := by decide +kernel
theorem dX4_takePatch_27 : decode cX4_takePatch 27 = .ok (.iload_n 2, 1) := by decide +kernel
theorem dX4_takePatch_28 : decode cX4_takePatch 28 = .ok (.bipush 20, 2) := by decide +kernel
theorem dX4_takePatch_30 : decode cX4_takePatch 30 = .ok (.isub, 1) := by decide +kernel
theorem dX4_takePatch_31 : decode cX4_takePatch 31 = .ok (.iastore, 1) := by decide +kernel
theorem dX4_takePatch_32 : decode cX4_takePatch 32 = .ok (.iconst 1, 1) := by decide +kernel
theorem dX4_takePatch_33 : decode cX4_takePatch 33 = .ok (.ireturn, 1) := by decide +kernel
theorem dX4_takePerson_0 : decode cX4_takePerson 0 = .ok (.aload_n 0, 1) := by decide +kernel
theorem dX4_takePerson_1 : decode cX4_takePerson 1 = .ok (.getfield 50, 3) := by decide +kernel
theorem dX4_takePerson_4 : decode cX4_takePerson 4 = .ok (.iconst 5, 1) := by decide +kernel
theorem dX4_takePerson_5 : decode cX4_takePerson 5 = .ok (.if_icmp .ge 20, 3) := by decide +kernel
theorem dX4_takePerson_8 : decode cX4_takePerson 8 = .ok (.iload_n 1, 1) := by decide +kernel
theorem dX4_takePerson_9 : decode cX4_takePerson 9 = .ok (.iconst 4, 1) := by decide +kernel
theorem dX4_takePerson_10 : decode cX4_takePerson 10 = .ok (.invokestatic 79, 3) := by decide +kernel
theorem dX4_takePerson_13 : decode cX4_takePerson 13 = .ok (.ifCond .ne 12, 3) := by decide +kernel
theorem dX4_takePerson_16 : decode cX4_takePerson 16 = .ok (.iload_n 2, 1) := by decide +kernel
theorem dX4_takePerson_17 : decode cX4_takePerson 17 = .ok (.bipush 21, 2) := by decide +kernel
theorem dX4_takePerson_19 : decode cX4_takePerson 19 = .ok (.invokestatic 79, 3) := by decide +kernel
theorem dX4_takePerson_22 : decode cX4_takePerson 22 = .ok (.ifCond .eq 5, 3) := by decide +kernel
theorem dX4_takePerson_25 : decode cX4_takePerson 25 = .ok (.iconst 0, 1) := by decide +kernel
theorem dX4_takePerson_26 : decode cX4_takePerson 26 = .ok (.ireturn, 1) := by decide +kernel
theorem dX4_takePerson_27 : decode cX4_takePerson 27 = .ok (.aload_n 0, 1) := by decide +kernel
theorem dX4_takePerson_28 : decode cX4_takePerson 28 = .ok (.getfield 24, 3) := by decide +kernel
theorem dX4_takePerson_31 : decode cX4_takePerson 31 = .ok (.aload_n 0, 1) := by decide +kernel
theorem dX4_takePerson_32 : decode cX4_takePerson 32 = .ok (.getfield 50, 3) := by decide +kernel
theorem dX4_takePerson_35 : decode cX4_takePerson 35 = .ok (.iload_n 1, 1) := by decide +kernel
theorem dX4_takePerson_36 : decode cX4_takePerson 36 = .ok (.iastore, 1) := by decide +kernel
theorem dX4_takePerson_37 : decode cX4_takePerson 37 = .ok (.aload_n 0, 1) := by decide +kernel
theorem dX4_takePerson_38 : decode cX4_takePerson 38 = .ok (.getfield 27, 3) := by decide +kernel
theorem dX4_takePerson_41 : decode cX4_takePerson 41 = .ok (.aload_n 0, 1) := by decide +kernel
theorem dX4_takePerson_42 : decode cX4_takePerson 42 = .ok (.getfield 50, 3) := by decide +kernel
theorem dX4_takePerson_45 : decode cX4_takePerson 45 = .ok (.iload_n 2, 1) := by decide +kernel
theorem dX4_takePerson_46 : decode cX4_takePerson 46 = .ok (.iastore, 1) := by decide +kernel
theorem dX4_takePerson_47 : decode cX4_takePerson 47 = .ok (.aload_n 0, 1) := by decide +kernel
theorem dX4_takePerson_48 : decode cX4_takePerson 48 = .ok (.dup, 1) := by decide +kernel
theorem dX4_takePerson_49 : decode cX4_takePerson 49 = .ok (.getfield 50, 3) := by decide +kernel
theorem dX4_takePerson_52 : decode cX4_takePerson 52 = .ok (.iconst 1, 1) := by decide +kernel
theorem dX4_takePerson_53 : decode cX4_takePerson 53 = .ok (.iadd, 1) := by decide +kernel
theorem dX4_takePerson_54 : decode cX4_takePerson 54 = .ok (.putfield 50, 3) := by decide +kernel
theorem dX4_takePerson_57 : decode cX4_takePerson 57 = .ok (.iconst 1, 1) := by decide +kernel
theorem dX4_takePerson_58 : decode cX4_takePerson 58 = .ok (.ireturn, 1) := by decide +kernel
theorem dX4_takeComing_0 : decode cX4_takeComing 0 = .ok (.aload_n 0, 1) := by decide +kernel
theorem dX4_takeComing_1 : decode cX4_takeComing 1 = .ok (.getfield 53, 3) := by decide +kernel
theorem dX4_takeComing_4 : decode cX4_takeComing 4 = .ok (.bipush 10, 2) := by decide +kernel
theorem dX4_takeComing_6 : decode cX4_takeComing 6 = .ok (.if_icmp .ge 31, 3) := by decide +kernel
theorem dX4_takeComing_9 : decode cX4_takeComing 9 = .ok (.iload_n 1, 1) := by decide +kernel
theorem dX4_takeComing_10 : decode cX4_takeComing 10 = .ok (.aload_n 0, 1) := by decide +kernel
theorem dX4_takeComing_11 : decode cX4_takeComing 11 = .ok (.getfield 50, 3) := by decide +kernel
theorem dX4_takeComing_14 : decode cX4_takeComing 14 = .ok (.invokestatic 79, 3) := by decide +kernel
theorem dX4_takeComing_17 : decode cX4_takeComing 17 = .ok (.ifCond .ne 20, 3) := by decide +kernel
theorem dX4_takeComing_20 : decode cX4_takeComing 20 = .ok (.iload_n 2, 1) := by decide +kernel
theorem dX4_takeComing_21 : decode cX4_takeComing 21 = .ok (.bipush 24, 2) := by decide +kernel
theorem dX4_takeComing_23 : decode cX4_takeComing 23 = .ok (.invokestatic 79, 3) := by decide +kernel
theorem dX4_takeComing_26 : decode cX4_takeComing 26 = .ok (.ifCond .ne 11, 3) := by decide +kernel
theorem dX4_takeComing_29 : decode cX4_takeComing 29 = .ok (.iload_n 3, 1) := by decide +kernel
theorem dX4_takeComing_30 : decode cX4_takeComing 30 = .ok (.iconst 4, 1) := by decide +kernel
theorem dX4_takeComing_31 : decode cX4_takeComing 31 = .ok (.invokestatic 79, 3) := by decide +kernel
theorem dX4_takeComing_34 : decode cX4_takeComing 34 = .ok (.ifCond .eq 5, 3) := by decide +kernel
theorem dX4_takeComing_37 : decode cX4_takeComing 37 = .ok (.iconst 0, 1) := by decide +kernel
theorem dX4_takeComing_38 : decode cX4_takeComing 38 = .ok (.ireturn, 1) := by decide +kernel
theorem dX4_takeComing_39 : decode cX4_takeComing 39 = .ok (.aload_n 0, 1) := by decide +kernel
theorem dX4_takeComing_40 : decode cX4_takeComing 40 = .ok (.getfield 53, 3) := by decide +kernel
theorem dX4_takeComing_43 : decode cX4_takeComing 43 = .ok (.istore 4, 2) := by decide +kernel
theorem dX4_takeComing_45 : decode cX4_takeComing 45 = .ok (.iload 4, 2) := by decide +kernel
theorem dX4_takeComing_47 : decode cX4_takeComing 47 = .ok (.ifCond .le 70, 3) := by decide +kernel
theorem dX4_takeComing_50 : decode cX4_takeComing 50 = .ok (.aload_n 0, 1) := by decide +kernel
theorem dX4_takeComing_51 : decode cX4_takeComing 51 = .ok (.getfield 33, 3) := by decide +kernel
theorem dX4_takeComing_54 : decode cX4_takeComing 54 = .ok (.iload 4, 2) := by decide +kernel
theorem dX4_takeComing_56 : decode cX4_takeComing 56 = .ok (.iconst 1, 1) := by decide +kernel
theorem dX4_takeComing_57 : decode cX4_takeComing 57 = .ok (.isub, 1) := by decide +kernel
theorem dX4_takeComing_58 : decode cX4_takeComing 58 = .ok (.iaload, 1) := by decide +kernel
theorem dX4_takeComing_59 : decode cX4_takeComing 59 = .ok (.iload_n 2, 1) := by decide +kernel
theorem dX4_takeComing_60 : decode cX4_takeComing 60 = .ok (.if_icmp .le 57, 3) := by decide +kernel
theorem dX4_takeComing_63 : decode cX4_takeComing 63 = .ok (.aload_n 0, 1) := by decide +kernel
theorem dX4_takeComing_64 : decode cX4_takeComing 64 = .ok (.getfield 30, 3) := by decide +kernel
theorem dX4_takeComing_67 : decode cX4_takeComing 67 = .ok (.iload 4, 2) := by decide +kernel
theorem dX4_takeComing_69 : decode cX4_takeComing 69 = .ok (.aload_n 0, 1) := by decide +kernel
theorem dX4_takeComing_70 : decode cX4_takeComing 70 = .ok (.getfield 30, 3) := by decide +kernel
theorem dX4_takeComing_73 : decode cX4_takeComing 73 = .ok (.iload 4, 2) := by decide +kernel
theorem dX4_takeComing_75 : decode cX4_takeComing 75 = .ok (.iconst 1, 1) := by decide +kernel
theorem dX4_takeComing_76 : decode cX4_takeComing 76 = .ok (.isub, 1) := by decide +kernel
theorem dX4_takeComing_77 : decode cX4_takeComing 77 = .ok (.iaload, 1) := by decide +kernel
theorem dX4_takeComing_78 : decode cX4_takeComing 78 = .ok (.iastore, 1) := by decide +kernel
theorem dX4_takeComing_79 : decode cX4_takeComing 79 = .ok (.aload_n 0, 1) := by decide +kernel
theorem dX4_takeComing_80 : decode cX4_takeComing 80 = .ok (.getfield 33, 3) := by decide +kernel
theorem dX4_takeComing_83 : decode cX4_takeComing 83 = .ok (.iload 4, 2) := by decide +kernel
theorem dX4_takeComing_85 : decode cX4_takeComing 85 = .ok (.aload_n 0, 1) := by decide +kernel
theorem dX4_takeComing_86 : decode cX4_takeComing 86 = .ok (.getfield 33, 3) := by decide +kernel
theorem dX4_takeComing_89 : decode cX4_takeComing 89 = .ok (.iload 4, 2) := by decide +kernel
theorem dX4_takeComing_91 : decode cX4_takeComing 91 = .ok (.iconst 1, 1) := by decide +kernel
theorem dX4_takeComing_92 : decode cX4_takeComing 92 = .ok (.isub, 1) := by decide +kernel
theorem dX4_takeComing_93 : decode cX4_takeComing 93 = .ok (.iaload, 1) := by decide +kernel
theorem dX4_takeComing_94 : decode cX4_takeComing 94 = .ok (.iastore, 1) := by decide +kernel
theorem dX4_takeComing_95 : decode cX4_takeComing 95 = .ok (.aload_n 0, 1) := by decide +kernel
theorem dX4_takeComing_96 : decode cX4_takeComing 96 = .ok (.getfield 36, 3) := by decide +kernel
theorem dX4_takeComing_99 : decode cX4_takeComing 99 = .ok (.iload 4, 2) := by decide +kernel
theorem dX4_takeComing_101 : decode cX4_takeComing 101 = .ok (.aload_n 0, 1) := by decide +kernel
theorem dX4_takeComing_102 : decode cX4_takeComing 102 = .ok (.getfield 36, 3) := by decide +kernel
theorem dX4_takeComing_105 : decode cX4_takeComing 105 = .ok (.iload 4, 2) := by decide +kernel
theorem dX4_takeComing_107 : decode cX4_takeComing 107 = .ok (.iconst 1, 1) := by decide +kernel
theorem dX4_takeComing_108 : decode cX4_takeComing 108 = .ok (.isub, 1) := by decide +kernel
theorem dX4_takeComing_109 : decode cX4_takeComing 109 = .ok (.iaload, 1) := by decide +kernel
theorem dX4_takeComing_110 : decode cX4_takeComing 110 = .ok (.iastore, 1) := by decide +kernel
theorem dX4_takeComing_111 : decode cX4_takeComing 111 = .ok (.iinc 4 (-1), 3) := by decide +kernel
theorem dX4_takeComing_114 : decode cX4_takeComing 114 = .ok (.goto (-69), 3) := by decide +kernel
theorem dX4_takeComing_117 : decode cX4_takeComing 117 = .ok (.aload_n 0, 1) := by decide +kernel
theorem dX4_takeComing_118 : decode cX4_takeComing 118 = .ok (.getfield 30, 3) := by decide +kernel
theorem dX4_takeComing_121 : decode cX4_takeComing 121 = .ok (.iload 4, 2) := by decide +kernel
theorem dX4_takeComing_123 : decode cX4_takeComing 123 = .ok (.iload_n 1, 1) := by decide +kernel
theorem dX4_takeComing_124 : decode cX4_takeComing 124 = .ok (.iastore, 1) := by decide +kernel
theorem dX4_takeComing_125 : decode cX4_takeComing 125 = .ok (.aload_n 0, 1) := by decide +kernel
theorem dX4_takeComing_126 : decode cX4_takeComing 126 = .ok (.getfield 33, 3) := by decide +kernel
theorem dX4_takeComing_129 : decode cX4_takeComing 129 = .ok (.iload 4, 2) := by decide +kernel
theorem dX4_takeComing_131 : decode cX4_takeComing 131 = .ok (.iload_n 2, 1) := by decide +kernel
theorem dX4_takeComing_132 : decode cX4_takeComing 132 = .ok (.iastore, 1) := by decide +kernel
theorem dX4_takeComing_133 : decode cX4_takeComing 133 = .ok (.aload_n 0, 1) := by decide +kernel
theorem dX4_takeComing_134 : decode cX4_takeComing 134 = .ok (.getfield 36, 3) := by decide +kernel
theorem dX4_takeComing_137 : decode cX4_takeComing 137 = .ok (.iload 4, 2) := by decide +kernel
theorem dX4_takeComing_139 : decode cX4_takeComing 139 = .ok (.iload_n 3, 1) := by decide +kernel
theorem dX4_takeComing_140 : decode cX4_takeComing 140 = .ok (.iastore, 1) := by decide +kernel
theorem dX4_takeComing_141 : decode cX4_takeComing 141 = .ok (.aload_n 0, 1) := by decide +kernel
theorem dX4_takeComing_142 : decode cX4_takeComing 142 = .ok (.dup, 1) := by decide +kernel
theorem dX4_takeComing_143 : decode cX4_takeComing 143 = .ok (.getfield 53, 3) := by decide +kernel
theorem dX4_takeComing_146 : decode cX4_takeComing 146 = .ok (.iconst 1, 1) := by decide +kernel
theorem dX4_takeComing_147 : decode cX4_takeComing 147 = .ok (.iadd, 1) := by decide +kernel
theorem dX4_takeComing_148 : decode cX4_takeComing 148 = .ok (.putfield 53, 3) := by decide +kernel
theorem dX4_takeComing_151 : decode cX4_takeComing 151 = .ok (.iconst 1, 1) := by decide +kernel
theorem dX4_takeComing_152 : decode cX4_takeComing 152 = .ok (.ireturn, 1) := by decide +kernel
theorem dX4_takeTurn_0 : decode cX4_takeTurn 0 = .ok (.aload_n 0, 1) := by decide +kernel
theorem dX4_takeTurn_1 : decode cX4_takeTurn 1 = .ok (.getfield 42, 3) := by decide +kernel
theorem dX4_takeTurn_4 : decode cX4_takeTurn 4 = .ok (.getfield 56, 3) := by decide +kernel
theorem dX4_takeTurn_7 : decode cX4_takeTurn 7 = .ok (.bipush 8, 2) := by decide +kernel
theorem dX4_takeTurn_9 : decode cX4_takeTurn 9 = .ok (.if_icmp .ge 32, 3) := by decide +kernel
theorem dX4_takeTurn_12 : decode cX4_takeTurn 12 = .ok (.iload_n 1, 1) := by decide +kernel
theorem dX4_takeTurn_13 : decode cX4_takeTurn 13 = .ok (.bipush 31, 2) := by decide +kernel
theorem dX4_takeTurn_15 : decode cX4_takeTurn 15 = .ok (.invokestatic 79, 3) := by decide +kernel
theorem dX4_takeTurn_18 : decode cX4_takeTurn 18 = .ok (.ifCond .ne 23, 3) := by decide +kernel
theorem dX4_takeTurn_21 : decode cX4_takeTurn 21 = .ok (.iload_n 2, 1) := by decide +kernel
theorem dX4_takeTurn_22 : decode cX4_takeTurn 22 = .ok (.aload_n 0, 1) := by decide +kernel
theorem dX4_takeTurn_23 : decode cX4_takeTurn 23 = .ok (.getfield 46, 3) := by decide +kernel
theorem dX4_takeTurn_26 : decode cX4_takeTurn 26 = .ok (.invokestatic 79, 3) := by decide +kernel
theorem dX4_takeTurn_29 : decode cX4_takeTurn 29 = .ok (.ifCond .ne 12, 3) := by decide +kernel
theorem dX4_takeTurn_32 : decode cX4_takeTurn 32 = .ok (.iload_n 3, 1) := by decide +kernel
theorem dX4_takeTurn_33 : decode cX4_takeTurn 33 = .ok (.bipush 41, 2) := by decide +kernel
theorem dX4_takeTurn_35 : decode cX4_takeTurn 35 = .ok (.invokestatic 79, 3) := by decide +kernel
theorem dX4_takeTurn_38 : decode cX4_takeTurn 38 = .ok (.ifCond .eq 5, 3) := by decide +kernel
theorem dX4_takeTurn_41 : decode cX4_takeTurn 41 = .ok (.iconst 0, 1) := by decide +kernel
theorem dX4_takeTurn_42 : decode cX4_takeTurn 42 = .ok (.ireturn, 1) := by decide +kernel
theorem dX4_takeTurn_43 : decode cX4_takeTurn 43 = .ok (.aload_n 0, 1) := by decide +kernel
theorem dX4_takeTurn_44 : decode cX4_takeTurn 44 = .ok (.getfield 42, 3) := by decide +kernel
theorem dX4_takeTurn_47 : decode cX4_takeTurn 47 = .ok (.iload_n 1, 1) := by decide +kernel
theorem dX4_takeTurn_48 : decode cX4_takeTurn 48 = .ok (.iload_n 2, 1) := by decide +kernel
theorem dX4_takeTurn_49 : decode cX4_takeTurn 49 = .ok (.iload_n 3, 1) := by decide +kernel
theorem dX4_takeTurn_50 : decode cX4_takeTurn 50 = .ok (.bipush 20, 2) := by decide +kernel
theorem dX4_takeTurn_52 : decode cX4_takeTurn 52 = .ok (.isub, 1) := by decide +kernel
theorem dX4_takeTurn_53 : decode cX4_takeTurn 53 = .ok (.invokevirtual 82, 3) := by decide +kernel
theorem dX4_takeTurn_56 : decode cX4_takeTurn 56 = .ok (.iconst 1, 1) := by decide +kernel
theorem dX4_takeTurn_57 : decode cX4_takeTurn 57 = .ok (.ireturn, 1) := by decide +kernel
theorem dX4_setBy_0 : decode cX4_setBy 0 = .ok (.aload_n 0, 1) := by decide +kernel
theorem dX4_setBy_1 : decode cX4_setBy 1 = .ok (.getfield 24, 3) := by decide +kernel
theorem dX4_setBy_4 : decode cX4_setBy 4 = .ok (.iload_n 1, 1) := by decide +kernel
theorem dX4_setBy_5 : decode cX4_setBy 5 = .ok (.iaload, 1) := by decide +kernel
theorem dX4_setBy_6 : decode cX4_setBy 6 = .ok (.aload_n 0, 1) := by decide +kernel
theorem dX4_setBy_7 : decode cX4_setBy 7 = .ok (.getfield 27, 3) := by decide +kernel
theorem dX4_setBy_10 : decode cX4_setBy 10 = .ok (.iload_n 1, 1) := by decide +kernel
theorem dX4_setBy_11 : decode cX4_setBy 11 = .ok (.iaload, 1) := by decide +kernel
theorem dX4_setBy_12 : decode cX4_setBy 12 = .ok (.iload_n 2, 1) := by decide +kernel
theorem dX4_setBy_13 : decode cX4_setBy 13 = .ok (.invokestatic 86, 3) := by decide +kernel
theorem dX4_setBy_16 : decode cX4_setBy 16 = .ok (.ireturn, 1) := by decide +kernel
theorem dX4_twist_0 : decode cX4_twist 0 = .ok (.iconst 0, 1) := by decide +kernel
theorem dX4_twist_1 : decode cX4_twist 1 = .ok (.istore_n 2, 1) := by decide +kernel
theorem dX4_twist_2 : decode cX4_twist 2 = .ok (.iload_n 2, 1) := by decide +kernel
theorem dX4_twist_3 : decode cX4_twist 3 = .ok (.aload_n 0, 1) := by decide +kernel
theorem dX4_twist_4 : decode cX4_twist 4 = .ok (.getfield 46, 3) := by decide +kernel
theorem dX4_twist_7 : decode cX4_twist 7 = .ok (.if_icmp .ge 25, 3) := by decide +kernel
theorem dX4_twist_10 : decode cX4_twist 10 = .ok (.aload_n 1, 1) := by decide +kernel
theorem dX4_twist_11 : decode cX4_twist 11 = .ok (.iload_n 2, 1) := by decide +kernel
theorem dX4_twist_12 : decode cX4_twist 12 = .ok (.aload_n 1, 1) := by decide +kernel
theorem dX4_twist_13 : decode cX4_twist 13 = .ok (.iload_n 2, 1) := by decide +kernel
theorem dX4_twist_14 : decode cX4_twist 14 = .ok (.iaload, 1) := by decide +kernel
theorem dX4_twist_15 : decode cX4_twist 15 = .ok (.aload_n 0, 1) := by decide +kernel
theorem dX4_twist_16 : decode cX4_twist 16 = .ok (.getfield 18, 3) := by decide +kernel
theorem dX4_twist_19 : decode cX4_twist 19 = .ok (.iload_n 2, 1) := by decide +kernel
theorem dX4_twist_20 : decode cX4_twist 20 = .ok (.iaload, 1) := by decide +kernel
theorem dX4_twist_21 : decode cX4_twist 21 = .ok (.iadd, 1) := by decide +kernel
theorem dX4_twist_22 : decode cX4_twist 22 = .ok (.invokestatic 92, 3) := by decide +kernel
theorem dX4_twist_25 : decode cX4_twist 25 = .ok (.iastore, 1) := by decide +kernel
theorem dX4_twist_26 : decode cX4_twist 26 = .ok (.iinc 2 1, 3) := by decide +kernel
theorem dX4_twist_29 : decode cX4_twist 29 = .ok (.goto (-27), 3) := by decide +kernel
theorem dX4_twist_32 : decode cX4_twist 32 = .ok (.return_, 1) := by decide +kernel
theorem dX4_letCome_0 : decode cX4_letCome 0 = .ok (.aload_n 2, 1) := by decide +kernel
theorem dX4_letCome_1 : decode cX4_letCome 1 = .ok (.bipush (-4), 2) := by decide +kernel
theorem dX4_letCome_3 : decode cX4_letCome 3 = .ok (.invokestatic 96, 3) := by decide +kernel
theorem dX4_letCome_6 : decode cX4_letCome 6 = .ok (.iconst 0, 1) := by decide +kernel
theorem dX4_letCome_7 : decode cX4_letCome 7 = .ok (.istore_n 3, 1) := by decide +kernel
theorem dX4_letCome_8 : decode cX4_letCome 8 = .ok (.iconst 0, 1) := by decide +kernel
theorem dX4_letCome_9 : decode cX4_letCome 9 = .ok (.istore 4, 2) := by decide +kernel
theorem dX4_letCome_11 : decode cX4_letCome 11 = .ok (.iload 4, 2) := by decide +kernel
theorem dX4_letCome_13 : decode cX4_letCome 13 = .ok (.aload_n 0, 1) := by decide +kernel
theorem dX4_letCome_14 : decode cX4_letCome 14 = .ok (.getfield 53, 3) := by decide +kernel
theorem dX4_letCome_17 : decode cX4_letCome 17 = .ok (.if_icmp .ge 82, 3) := by decide +kernel
theorem dX4_letCome_20 : decode cX4_letCome 20 = .ok (.aload_n 0, 1) := by decide +kernel
theorem dX4_letCome_21 : decode cX4_letCome 21 = .ok (.getfield 30, 3) := by decide +kernel
theorem dX4_letCome_24 : decode cX4_letCome 24 = .ok (.iload 4, 2) := by decide +kernel
theorem dX4_letCome_26 : decode cX4_letCome 26 = .ok (.iaload, 1) := by decide +kernel
theorem dX4_letCome_27 : decode cX4_letCome 27 = .ok (.istore 5, 2) := by decide +kernel
theorem dX4_letCome_29 : decode cX4_letCome 29 = .ok (.aload_n 2, 1) := by decide +kernel
theorem dX4_letCome_30 : decode cX4_letCome 30 = .ok (.iload 5, 2) := by decide +kernel
theorem dX4_letCome_32 : decode cX4_letCome 32 = .ok (.iaload, 1) := by decide +kernel
theorem dX4_letCome_33 : decode cX4_letCome 33 = .ok (.bipush (-4), 2) := by decide +kernel
theorem dX4_letCome_35 : decode cX4_letCome 35 = .ok (.if_icmp .ne 20, 3) := by decide +kernel
theorem dX4_letCome_38 : decode cX4_letCome 38 = .ok (.aload_n 0, 1) := by decide +kernel
theorem dX4_letCome_39 : decode cX4_letCome 39 = .ok (.iload 5, 2) := by decide +kernel
theorem dX4_letCome_41 : decode cX4_letCome 41 = .ok (.aload_n 0, 1) := by decide +kernel
theorem dX4_letCome_42 : decode cX4_letCome 42 = .ok (.getfield 36, 3) := by decide +kernel
theorem dX4_letCome_45 : decode cX4_letCome 45 = .ok (.iload 4, 2) := by decide +kernel
theorem dX4_letCome_47 : decode cX4_letCome 47 = .ok (.iaload, 1) := by decide +kernel
theorem dX4_letCome_48 : decode cX4_letCome 48 = .ok (.aload_n 1, 1) := by decide +kernel
theorem dX4_letCome_49 : decode cX4_letCome 49 = .ok (.invokevirtual 102, 3) := by decide +kernel
theorem dX4_letCome_52 : decode cX4_letCome 52 = .ok (.goto 5, 3) := by decide +kernel
theorem dX4_letCome_55 : decode cX4_letCome 55 = .ok (.bipush (-4), 2) := by decide +kernel
theorem dX4_letCome_57 : decode cX4_letCome 57 = .ok (.istore 6, 2) := by decide +kernel
theorem dX4_letCome_59 : decode cX4_letCome 59 = .ok (.iload 6, 2) := by decide +kernel
theorem dX4_letCome_61 : decode cX4_letCome 61 = .ok (.bipush (-4), 2) := by decide +kernel
theorem dX4_letCome_63 : decode cX4_letCome 63 = .ok (.if_icmp .eq 30, 3) := by decide +kernel
theorem dX4_letCome_66 : decode cX4_letCome 66 = .ok (.aload_n 1, 1) := by decide +kernel
theorem dX4_letCome_67 : decode cX4_letCome 67 = .ok (.iload 6, 2) := by decide +kernel
theorem dX4_letCome_69 : decode cX4_letCome 69 = .ok (.aload_n 0, 1) := by decide +kernel
theorem dX4_letCome_70 : decode cX4_letCome 70 = .ok (.iload 5, 2) := by decide +kernel
theorem dX4_letCome_72 : decode cX4_letCome 72 = .ok (.aload_n 1, 1) := by decide +kernel
theorem dX4_letCome_73 : decode cX4_letCome 73 = .ok (.iload 6, 2) := by decide +kernel
theorem dX4_letCome_75 : decode cX4_letCome 75 = .ok (.iaload, 1) := by decide +kernel
theorem dX4_letCome_76 : decode cX4_letCome 76 = .ok (.invokevirtual 106, 3) := by decide +kernel
theorem dX4_letCome_79 : decode cX4_letCome 79 = .ok (.iastore, 1) := by decide +kernel
theorem dX4_letCome_80 : decode cX4_letCome 80 = .ok (.aload_n 2, 1) := by decide +kernel
theorem dX4_letCome_81 : decode cX4_letCome 81 = .ok (.iload 5, 2) := by decide +kernel
theorem dX4_letCome_83 : decode cX4_letCome 83 = .ok (.iload 6, 2) := by decide +kernel
theorem dX4_letCome_85 : decode cX4_letCome 85 = .ok (.iastore, 1) := by decide +kernel
theorem dX4_letCome_86 : decode cX4_letCome 86 = .ok (.iload_n 3, 1) := by decide +kernel
theorem dX4_letCome_87 : decode cX4_letCome 87 = .ok (.iconst 1, 1) := by decide +kernel
theorem dX4_letCome_88 : decode cX4_letCome 88 = .ok (.iload 5, 2) := by decide +kernel
theorem dX4_letCome_90 : decode cX4_letCome 90 = .ok (.ishl, 1) := by decide +kernel
theorem dX4_letCome_91 : decode cX4_letCome 91 = .ok (.ior, 1) := by decide +kernel
theorem dX4_letCome_92 : decode cX4_letCome 92 = .ok (.istore_n 3, 1) := by decide +kernel
theorem dX4_letCome_93 : decode cX4_letCome 93 = .ok (.iinc 4 1, 3) := by decide +kernel
theorem dX4_letCome_96 : decode cX4_letCome 96 = .ok (.goto (-85), 3) := by decide +kernel
theorem dX4_letCome_99 : decode cX4_letCome 99 = .ok (.iload_n 3, 1) := by decide +kernel
theorem dX4_letCome_100 : decode cX4_letCome 100 = .ok (.ireturn, 1) := by decide +kernel
theorem dX4_firstTempting_0 : decode cX4_firstTempting 0 = .ok (.aload_n 0, 1) := by decide +kernel
theorem dX4_firstTempting_1 : decode cX4_firstTempting 1 = .ok (.getfield 24, 3) := by decide +kernel
theorem dX4_firstTempting_4 : decode cX4_firstTempting 4 = .ok (.iload_n 1, 1) := by decide +kernel
theorem dX4_firstTempting_5 : decode cX4_firstTempting 5 = .ok (.iaload, 1) := by decide +kernel
theorem dX4_firstTempting_6 : decode cX4_firstTempting 6 = .ok (.aload_n 0, 1) := by decide +kernel
theorem dX4_firstTempting_7 : decode cX4_firstTempting 7 = .ok (.getfield 27, 3) := by decide +kernel
theorem dX4_firstTempting_10 : decode cX4_firstTempting 10 = .ok (.iload_n 1, 1) := by decide +kernel
theorem dX4_firstTempting_11 : decode cX4_firstTempting 11 = .ok (.iaload, 1) := by decide +kernel
theorem dX4_firstTempting_12 : decode cX4_firstTempting 12 = .ok (.invokestatic 110, 3) := by decide +kernel
theorem dX4_firstTempting_15 : decode cX4_firstTempting 15 = .ok (.istore 4, 2) := by decide +kernel
theorem dX4_firstTempting_17 : decode cX4_firstTempting 17 = .ok (.iconst 0, 1) := by decide +kernel
theorem dX4_firstTempting_18 : decode cX4_firstTempting 18 = .ok (.istore 5, 2) := by decide +kernel
theorem dX4_firstTempting_20 : decode cX4_firstTempting 20 = .ok (.iload 5, 2) := by decide +kernel
theorem dX4_firstTempting_22 : decode cX4_firstTempting 22 = .ok (.aload_n 0, 1) := by decide +kernel
theorem dX4_firstTempting_23 : decode cX4_firstTempting 23 = .ok (.getfield 46, 3) := by decide +kernel
theorem dX4_firstTempting_26 : decode cX4_firstTempting 26 = .ok (.if_icmp .ge 35, 3) := by decide +kernel
theorem dX4_firstTempting_29 : decode cX4_firstTempting 29 = .ok (.aload_n 0, 1) := by decide +kernel
theorem dX4_firstTempting_30 : decode cX4_firstTempting 30 = .ok (.getfield 9, 3) := by decide +kernel
theorem dX4_firstTempting_33 : decode cX4_firstTempting 33 = .ok (.iload 5, 2) := by decide +kernel
theorem dX4_firstTempting_35 : decode cX4_firstTempting 35 = .ok (.iaload, 1) := by decide +kernel
theorem dX4_firstTempting_36 : decode cX4_firstTempting 36 = .ok (.iload_n 2, 1) := by decide +kernel
theorem dX4_firstTempting_37 : decode cX4_firstTempting 37 = .ok (.if_icmp .ne 18, 3) := by decide +kernel
theorem dX4_firstTempting_40 : decode cX4_firstTempting 40 = .ok (.aload_n 3, 1) := by decide +kernel
theorem dX4_firstTempting_41 : decode cX4_firstTempting 41 = .ok (.iload 5, 2) := by decide +kernel
theorem dX4_firstTempting_43 : decode cX4_firstTempting 43 = .ok (.iaload, 1) := by decide +kernel
theorem dX4_firstTempting_44 : decode cX4_firstTempting 44 = .ok (.invokestatic 113, 3) := by decide +kernel
theorem dX4_firstTempting_47 : decode cX4_firstTempting 47 = .ok (.iload 4, 2) := by decide +kernel
theorem dX4_firstTempting_49 : decode cX4_firstTempting 49 = .ok (.if_icmp .le 6, 3) := by decide +kernel
theorem dX4_firstTempting_52 : decode cX4_firstTempting 52 = .ok (.iload 5, 2) := by decide +kernel
theorem dX4_firstTempting_54 : decode cX4_firstTempting 54 = .ok (.ireturn, 1) := by decide +kernel
theorem dX4_firstTempting_55 : decode cX4_firstTempting 55 = .ok (.iinc 5 1, 3) := by decide +kernel
theorem dX4_firstTempting_58 : decode cX4_firstTempting 58 = .ok (.goto (-38), 3) := by decide +kernel
theorem dX4_firstTempting_61 : decode cX4_firstTempting 61 = .ok (.bipush (-4), 2) := by decide +kernel
theorem dX4_firstTempting_63 : decode cX4_firstTempting 63 = .ok (.ireturn, 1) := by decide +kernel
theorem dX4_farthestBorneIn_0 : decode cX4_farthestBorneIn 0 = .ok (.bipush 40, 2) := by decide +kernel
theorem dX4_farthestBorneIn_2 : decode cX4_farthestBorneIn 2 = .ok (.istore_n 2, 1) := by decide +kernel
theorem dX4_farthestBorneIn_3 : decode cX4_farthestBorneIn 3 = .ok (.iconst 0, 1) := by decide +kernel
theorem dX4_farthestBorneIn_4 : decode cX4_farthestBorneIn 4 = .ok (.istore_n 3, 1) := by decide +kernel
theorem dX4_farthestBorneIn_5 : decode cX4_farthestBorneIn 5 = .ok (.iload_n 3, 1) := by decide +kernel
theorem dX4_farthestBorneIn_6 : decode cX4_farthestBorneIn 6 = .ok (.aload_n 0, 1) := by decide +kernel
theorem dX4_farthestBorneIn_7 : decode cX4_farthestBorneIn 7 = .ok (.getfield 53, 3) := by decide +kernel
theorem dX4_farthestBorneIn_10 : decode cX4_farthestBorneIn 10 = .ok (.if_icmp .ge 49, 3) := by decide +kernel
theorem dX4_farthestBorneIn_13 : decode cX4_farthestBorneIn 13 = .ok (.aload_n 0, 1) := by decide +kernel
theorem dX4_farthestBorneIn_14 : decode cX4_farthestBorneIn 14 = .ok (.getfield 36, 3) := by decide +kernel
theorem dX4_farthestBorneIn_17 : decode cX4_farthestBorneIn 17 = .ok (.iload_n 3, 1) := by decide +kernel
theorem dX4_farthestBorneIn_18 : decode cX4_farthestBorneIn 18 = .ok (.iaload, 1) := by decide +kernel
theorem dX4_farthestBorneIn_19 : decode cX4_farthestBorneIn 19 = .ok (.iload_n 1, 1) := by decide +kernel
theorem dX4_farthestBorneIn_20 : decode cX4_farthestBorneIn 20 = .ok (.if_icmp .ne 33, 3) := by decide +kernel
theorem dX4_farthestBorneIn_23 : decode cX4_farthestBorneIn 23 = .ok (.aload_n 0, 1) := by decide +kernel
theorem dX4_farthestBorneIn_24 : decode cX4_farthestBorneIn 24 = .ok (.getfield 30, 3) := by decide +kernel
theorem dX4_farthestBorneIn_27 : decode cX4_farthestBorneIn 27 = .ok (.iload_n 3, 1) := by decide +kernel
theorem dX4_farthestBorneIn_28 : decode cX4_farthestBorneIn 28 = .ok (.iaload, 1) := by decide +kernel
theorem dX4_farthestBorneIn_29 : decode cX4_farthestBorneIn 29 = .ok (.istore 4, 2) := by decide +kernel
theorem dX4_farthestBorneIn_31 : decode cX4_farthestBorneIn 31 = .ok (.iload_n 2, 1) := by decide +kernel
theorem dX4_farthestBorneIn_32 : decode cX4_farthestBorneIn 32 = .ok (.aload_n 0, 1) := by decide +kernel
theorem dX4_farthestBorneIn_33 : decode cX4_farthestBorneIn 33 = .ok (.getfield 24, 3) := by decide +kernel
theorem dX4_farthestBorneIn_36 : decode cX4_farthestBorneIn 36 = .ok (.iload 4, 2) := by decide +kernel
theorem dX4_farthestBorneIn_38 : decode cX4_farthestBorneIn 38 = .ok (.iaload, 1) := by decide +kernel
theorem dX4_farthestBorneIn_39 : decode cX4_farthestBorneIn 39 = .ok (.aload_n 0, 1) := by decide +kernel
theorem dX4_farthestBorneIn_40 : decode cX4_farthestBorneIn 40 = .ok (.getfield 27, 3) := by decide +kernel
theorem dX4_farthestBorneIn_43 : decode cX4_farthestBorneIn 43 = .ok (.iload 4, 2) := by decide +kernel
theorem dX4_farthestBorneIn_45 : decode cX4_farthestBorneIn 45 = .ok (.iaload, 1) := by decide +kernel
theorem dX4_farthestBorneIn_46 : decode cX4_farthestBorneIn 46 = .ok (.invokestatic 110, 3) := by decide +kernel
theorem dX4_farthestBorneIn_49 : decode cX4_farthestBorneIn 49 = .ok (.invokestatic 118, 3) := by decide +kernel
theorem dX4_farthestBorneIn_52 : decode cX4_farthestBorneIn 52 = .ok (.istore_n 2, 1) := by decide +kernel
theorem dX4_farthestBorneIn_53 : decode cX4_farthestBorneIn 53 = .ok (.iinc 3 1, 3) := by decide +kernel
theorem dX4_farthestBorneIn_56 : decode cX4_farthestBorneIn 56 = .ok (.goto (-51), 3) := by decide +kernel
theorem dX4_farthestBorneIn_59 : decode cX4_farthestBorneIn 59 = .ok (.iload_n 2, 1) := by decide +kernel
theorem dX4_farthestBorneIn_60 : decode cX4_farthestBorneIn 60 = .ok (.ireturn, 1) := by decide +kernel
theorem dX5_init_0 : decode cX5_init 0 = .ok (.aload_n 0, 1) := by decide +kernel
theorem dX5_init_1 : decode cX5_init 1 = .ok (.invokespecial 3, 3) := by decide +kernel
theorem dX5_init_4 : decode cX5_init 4 = .ok (.aload_n 0, 1) := by decide +kernel
theorem dX5_init_5 : decode cX5_init 5 = .ok (.bipush 7, 2) := by decide +kernel
theorem dX5_init_7 : decode cX5_init 7 = .ok (.newarray .int, 2) := by decide +kernel
theorem dX5_init_9 : decode cX5_init 9 = .ok (.putfield 9, 3) := by decide +kernel
theorem dX5_init_12 : decode cX5_init 12 = .ok (.aload_n 0, 1) := by decide +kernel
theorem dX5_init_13 : decode cX5_init 13 = .ok (.iconst 5, 1) := by decide +kernel
theorem dX5_init_14 : decode cX5_init 14 = .ok (.newarray .int, 2) := by decide +kernel
theorem dX5_init_16 : decode cX5_init 16 = .ok (.putfield 15, 3) := by decide +kernel
theorem dX5_init_19 : decode cX5_init 19 = .ok (.aload_n 0, 1) := by decide +kernel
theorem dX5_init_20 : decode cX5_init 20 = .ok (.bipush 41, 2) := by decide +kernel
theorem dX5_init_22 : decode cX5_init 22 = .ok (.newarray .int, 2) := by decide +kernel
theorem dX5_init_24 : decode cX5_init 24 = .ok (.putfield 18, 3) := by decide +kernel
theorem dX5_init_27 : decode cX5_init 27 = .ok (.aload_n 0, 1) := by decide +kernel
theorem dX5_init_28 : decode cX5_init 28 = .ok (.bipush 7, 2) := by decide +kernel
theorem dX5_init_30 : decode cX5_init 30 = .ok (.bipush 41, 2) := by decide +kernel
theorem dX5_init_32 : decode cX5_init 32 = .ok (.multianewarray 21 2, 4) := by decide +kernel
theorem dX5_init_36 : decode cX5_init 36 = .ok (.putfield 23, 3) := by decide +kernel
theorem dX5_init_39 : decode cX5_init 39 = .ok (.aload_n 0, 1) := by decide +kernel
theorem dX5_init_40 : decode cX5_init 40 = .ok (.bipush 7, 2) := by decide +kernel
theorem dX5_init_42 : decode cX5_init 42 = .ok (.newarray .int, 2) := by decide +kernel
theorem dX5_init_44 : decode cX5_init 44 = .ok (.putfield 26, 3) := by decide +kernel
theorem dX5_init_47 : decode cX5_init 47 = .ok (.return_, 1) := by decide +kernel
theorem dX5_leastTurn_0 : decode cX5_leastTurn 0 = .ok (.iconst 1, 1) := by decide +kernel
theorem dX5_leastTurn_1 : decode cX5_leastTurn 1 = .ok (.istore 4, 2) := by decide +kernel
theorem dX5_leastTurn_3 : decode cX5_leastTurn 3 = .ok (.iload 4, 2) := by decide +kernel
theorem dX5_leastTurn_5 : decode cX5_leastTurn 5 = .ok (.bipush 20, 2) := by decide +kernel
theorem dX5_leastTurn_7 : decode cX5_leastTurn 7 = .ok (.if_icmp .gt 80, 3) := by decide +kernel
theorem dX5_leastTurn_10 : decode cX5_leastTurn 10 = .ok (.iconst 0, 1) := by decide +kernel
theorem dX5_leastTurn_11 : decode cX5_leastTurn 11 = .ok (.istore 5, 2) := by decide +kernel
theorem dX5_leastTurn_13 : decode cX5_leastTurn 13 = .ok (.iload 5, 2) := by decide +kernel
theorem dX5_leastTurn_15 : decode cX5_leastTurn 15 = .ok (.aload_n 1, 1) := by decide +kernel
theorem dX5_leastTurn_16 : decode cX5_leastTurn 16 = .ok (.getfield 29, 3) := by decide +kernel
theorem dX5_leastTurn_19 : decode cX5_leastTurn 19 = .ok (.if_icmp .ge 62, 3) := by decide +kernel
theorem dX5_leastTurn_22 : decode cX5_leastTurn 22 = .ok (.aload_n 0, 1) := by decide +kernel
theorem dX5_leastTurn_23 : decode cX5_leastTurn 23 = .ok (.aload_n 1, 1) := by decide +kernel
theorem dX5_leastTurn_24 : decode cX5_leastTurn 24 = .ok (.aload_n 2, 1) := by decide +kernel
theorem dX5_leastTurn_25 : decode cX5_leastTurn 25 = .ok (.iload 5, 2) := by decide +kernel
theorem dX5_leastTurn_27 : decode cX5_leastTurn 27 = .ok (.iload 4, 2) := by decide +kernel
theorem dX5_leastTurn_29 : decode cX5_leastTurn 29 = .ok (.iload_n 3, 1) := by decide +kernel
theorem dX5_leastTurn_30 : decode cX5_leastTurn 30 = .ok (.invokevirtual 35, 3) := by decide +kernel
theorem dX5_leastTurn_33 : decode cX5_leastTurn 33 = .ok (.ifCond .eq 15, 3) := by decide +kernel
theorem dX5_leastTurn_36 : decode cX5_leastTurn 36 = .ok (.bipush 100, 2) := by decide +kernel
theorem dX5_leastTurn_38 : decode cX5_leastTurn 38 = .ok (.iload 5, 2) := by decide +kernel
theorem dX5_leastTurn_40 : decode cX5_leastTurn 40 = .ok (.imul, 1) := by decide +kernel
theorem dX5_leastTurn_41 : decode cX5_leastTurn 41 = .ok (.bipush 20, 2) := by decide +kernel
theorem dX5_leastTurn_43 : decode cX5_leastTurn 43 = .ok (.iadd, 1) := by decide +kernel
theorem dX5_leastTurn_44 : decode cX5_leastTurn 44 = .ok (.iload 4, 2) := by decide +kernel
theorem dX5_leastTurn_46 : decode cX5_leastTurn 46 = .ok (.iadd, 1) := by decide +kernel
theorem dX5_leastTurn_47 : decode cX5_leastTurn 47 = .ok (.ireturn, 1) := by decide +kernel
theorem dX5_leastTurn_48 : decode cX5_leastTurn 48 = .ok (.aload_n 0, 1) := by decide +kernel
theorem dX5_leastTurn_49 : decode cX5_leastTurn 49 = .ok (.aload_n 1, 1) := by decide +kernel
theorem dX5_leastTurn_50 : decode cX5_leastTurn 50 = .ok (.aload_n 2, 1) := by decide +kernel
theorem dX5_leastTurn_51 : decode cX5_leastTurn 51 = .ok (.iload 5, 2) := by decide +kernel
theorem dX5_leastTurn_53 : decode cX5_leastTurn 53 = .ok (.iload 4, 2) := by decide +kernel
theorem dX5_leastTurn_55 : decode cX5_leastTurn 55 = .ok (.ineg, 1) := by decide +kernel
theorem dX5_leastTurn_56 : decode cX5_leastTurn 56 = .ok (.iload_n 3, 1) := by decide +kernel
theorem dX5_leastTurn_57 : decode cX5_leastTurn 57 = .ok (.invokevirtual 35, 3) := by decide +kernel
theorem dX5_leastTurn_60 : decode cX5_leastTurn 60 = .ok (.ifCond .eq 15, 3) := by decide +kernel
theorem dX5_leastTurn_63 : decode cX5_leastTurn 63 = .ok (.bipush 100, 2) := by decide +kernel
theorem dX5_leastTurn_65 : decode cX5_leastTurn 65 = .ok (.iload 5, 2) := by decide +kernel
theorem dX5_leastTurn_67 : decode cX5_leastTurn 67 = .ok (.imul, 1) := by decide +kernel
theorem dX5_leastTurn_68 : decode cX5_leastTurn 68 = .ok (.bipush 20, 2) := by decide +kernel
theorem dX5_leastTurn_70 : decode cX5_leastTurn 70 = .ok (.iadd, 1) := by decide +kernel
theorem dX5_leastTurn_71 : decode cX5_leastTurn 71 = .ok (.iload 4, 2) := by decide +kernel
theorem dX5_leastTurn_73 : decode cX5_leastTurn 73 = .ok (.isub, 1) := by decide +kernel
theorem dX5_leastTurn_74 : decode cX5_leastTurn 74 = .ok (.ireturn, 1) := by decide +kernel
theorem dX5_leastTurn_75 : decode cX5_leastTurn 75 = .ok (.iinc 5 1, 3) := by decide +kernel
theorem dX5_leastTurn_78 : decode cX5_leastTurn 78 = .ok (.goto (-65), 3) := by decide +kernel
theorem dX5_leastTurn_81 : decode cX5_leastTurn 81 = .ok (.iinc 4 1, 3) := by decide +kernel
theorem dX5_leastTurn_84 : decode cX5_leastTurn 84 = .ok (.goto (-81), 3) := by decide +kernel
theorem dX5_leastTurn_87 : decode cX5_leastTurn 87 = .ok (.bipush (-4), 2) := by decide +kernel
theorem dX5_leastTurn_89 : decode cX5_leastTurn 89 = .ok (.ireturn, 1) := by decide +kernel
theorem dX5_isWon_0 : decode cX5_isWon 0 = .ok (.aload_n 0, 1) := by decide +kernel
theorem dX5_isWon_1 : decode cX5_isWon 1 = .ok (.aload_n 1, 1) := by decide +kernel
theorem dX5_isWon_2 : decode cX5_isWon 2 = .ok (.aload_n 2, 1) := by decide +kernel
theorem dX5_isWon_3 : decode cX5_isWon 3 = .ok (.iload_n 3, 1) := by decide +kernel
theorem dX5_isWon_4 : decode cX5_isWon 4 = .ok (.aload_n 2, 1) := by decide +kernel
theorem dX5_isWon_5 : decode cX5_isWon 5 = .ok (.iload_n 3, 1) := by decide +kernel
theorem dX5_isWon_6 : decode cX5_isWon 6 = .ok (.iaload, 1) := by decide +kernel
theorem dX5_isWon_7 : decode cX5_isWon 7 = .ok (.iload 4, 2) := by decide +kernel
theorem dX5_isWon_9 : decode cX5_isWon 9 = .ok (.iadd, 1) := by decide +kernel
theorem dX5_isWon_10 : decode cX5_isWon 10 = .ok (.invokestatic 39, 3) := by decide +kernel
theorem dX5_isWon_13 : decode cX5_isWon 13 = .ok (.invokevirtual 43, 3) := by decide +kernel
theorem dX5_isWon_16 : decode cX5_isWon 16 = .ok (.istore 6, 2) := by decide +kernel
theorem dX5_isWon_18 : decode cX5_isWon 18 = .ok (.iload 6, 2) := by decide +kernel
theorem dX5_isWon_20 : decode cX5_isWon 20 = .ok (.iload 5, 2) := by decide +kernel
theorem dX5_isWon_22 : decode cX5_isWon 22 = .ok (.ishr, 1) := by decide +kernel
theorem dX5_isWon_23 : decode cX5_isWon 23 = .ok (.iconst 1, 1) := by decide +kernel
theorem dX5_isWon_24 : decode cX5_isWon 24 = .ok (.iand, 1) := by decide +kernel
theorem dX5_isWon_25 : decode cX5_isWon 25 = .ok (.iconst 1, 1) := by decide +kernel
theorem dX5_isWon_26 : decode cX5_isWon 26 = .ok (.if_icmp .ne 7, 3) := by decide +kernel
theorem dX5_isWon_29 : decode cX5_isWon 29 = .ok (.iconst 1, 1) := by decide +kernel
theorem dX5_isWon_30 : decode cX5_isWon 30 = .ok (.goto 4, 3) := by decide +kernel
theorem dX5_isWon_33 : decode cX5_isWon 33 = .ok (.iconst 0, 1) := by decide +kernel
theorem dX5_isWon_34 : decode cX5_isWon 34 = .ok (.ireturn, 1) := by decide +kernel
theorem dX5_anybodyByOne_0 : decode cX5_anybodyByOne 0 = .ok (.aload_n 0, 1) := by decide +kernel
theorem dX5_anybodyByOne_1 : decode cX5_anybodyByOne 1 = .ok (.aload_n 1, 1) := by decide +kernel
theorem dX5_anybodyByOne_2 : decode cX5_anybodyByOne 2 = .ok (.aload_n 2, 1) := by decide +kernel
theorem dX5_anybodyByOne_3 : decode cX5_anybodyByOne 3 = .ok (.invokevirtual 47, 3) := by decide +kernel
theorem dX5_anybodyByOne_6 : decode cX5_anybodyByOne 6 = .ok (.iconst 0, 1) := by decide +kernel
theorem dX5_anybodyByOne_7 : decode cX5_anybodyByOne 7 = .ok (.istore_n 3, 1) := by decide +kernel
theorem dX5_anybodyByOne_8 : decode cX5_anybodyByOne 8 = .ok (.iconst 0, 1) := by decide +kernel
theorem dX5_anybodyByOne_9 : decode cX5_anybodyByOne 9 = .ok (.istore 4, 2) := by decide +kernel
theorem dX5_anybodyByOne_11 : decode cX5_anybodyByOne 11 = .ok (.iload 4, 2) := by decide +kernel
theorem dX5_anybodyByOne_13 : decode cX5_anybodyByOne 13 = .ok (.aload_n 1, 1) := by decide +kernel
theorem dX5_anybodyByOne_14 : decode cX5_anybodyByOne 14 = .ok (.getfield 29, 3) := by decide +kernel
theorem dX5_anybodyByOne_17 : decode cX5_anybodyByOne 17 = .ok (.if_icmp .ge 51, 3) := by decide +kernel
theorem dX5_anybodyByOne_20 : decode cX5_anybodyByOne 20 = .ok (.iconst 0, 1) := by decide +kernel
theorem dX5_anybodyByOne_21 : decode cX5_anybodyByOne 21 = .ok (.istore 5, 2) := by decide +kernel
theorem dX5_anybodyByOne_23 : decode cX5_anybodyByOne 23 = .ok (.iload 5, 2) := by decide +kernel
theorem dX5_anybodyByOne_25 : decode cX5_anybodyByOne 25 = .ok (.aload_n 0, 1) := by decide +kernel
theorem dX5_anybodyByOne_26 : decode cX5_anybodyByOne 26 = .ok (.getfield 26, 3) := by decide +kernel
theorem dX5_anybodyByOne_29 : decode cX5_anybodyByOne 29 = .ok (.iload 4, 2) := by decide +kernel
theorem dX5_anybodyByOne_31 : decode cX5_anybodyByOne 31 = .ok (.iaload, 1) := by decide +kernel
theorem dX5_anybodyByOne_32 : decode cX5_anybodyByOne 32 = .ok (.if_icmp .ge 30, 3) := by decide +kernel
theorem dX5_anybodyByOne_35 : decode cX5_anybodyByOne 35 = .ok (.iload_n 3, 1) := by decide +kernel
theorem dX5_anybodyByOne_36 : decode cX5_anybodyByOne 36 = .ok (.aload_n 0, 1) := by decide +kernel
theorem dX5_anybodyByOne_37 : decode cX5_anybodyByOne 37 = .ok (.aload_n 1, 1) := by decide +kernel
theorem dX5_anybodyByOne_38 : decode cX5_anybodyByOne 38 = .ok (.aload_n 2, 1) := by decide +kernel
theorem dX5_anybodyByOne_39 : decode cX5_anybodyByOne 39 = .ok (.iload 4, 2) := by decide +kernel
theorem dX5_anybodyByOne_41 : decode cX5_anybodyByOne 41 = .ok (.aload_n 0, 1) := by decide +kernel
theorem dX5_anybodyByOne_42 : decode cX5_anybodyByOne 42 = .ok (.getfield 23, 3) := by decide +kernel
theorem dX5_anybodyByOne_45 : decode cX5_anybodyByOne 45 = .ok (.iload 4, 2) := by decide +kernel
theorem dX5_anybodyByOne_47 : decode cX5_anybodyByOne 47 = .ok (.aaload, 1) := by decide +kernel
theorem dX5_anybodyByOne_48 : decode cX5_anybodyByOne 48 = .ok (.iload 5, 2) := by decide +kernel
theorem dX5_anybodyByOne_50 : decode cX5_anybodyByOne 50 = .ok (.iaload, 1) := by decide +kernel
theorem dX5_anybodyByOne_51 : decode cX5_anybodyByOne 51 = .ok (.invokevirtual 43, 3) := by decide +kernel
theorem dX5_anybodyByOne_54 : decode cX5_anybodyByOne 54 = .ok (.ior, 1) := by decide +kernel
theorem dX5_anybodyByOne_55 : decode cX5_anybodyByOne 55 = .ok (.istore_n 3, 1) := by decide +kernel
theorem dX5_anybodyByOne_56 : decode cX5_anybodyByOne 56 = .ok (.iinc 5 1, 3) := by decide +kernel
theorem dX5_anybodyByOne_59 : decode cX5_anybodyByOne 59 = .ok (.goto (-36), 3) := by decide +kernel
theorem dX5_anybodyByOne_62 : decode cX5_anybodyByOne 62 = .ok (.iinc 4 1, 3) := by decide +kernel
theorem dX5_anybodyByOne_65 : decode cX5_anybodyByOne 65 = .ok (.goto (-54), 3) := by decide +kernel
theorem dX5_anybodyByOne_68 : decode cX5_anybodyByOne 68 = .ok (.iload_n 3, 1) := by decide +kernel
theorem dX5_anybodyByOne_69 : decode cX5_anybodyByOne 69 = .ok (.ireturn, 1) := by decide +kernel
theorem dX5_oneOrTwo_0 : decode cX5_oneOrTwo 0 = .ok (.aload_n 0, 1) := by decide +kernel
theorem dX5_oneOrTwo_1 : decode cX5_oneOrTwo 1 = .ok (.aload_n 1, 1) := by decide +kernel
theorem dX5_oneOrTwo_2 : decode cX5_oneOrTwo 2 = .ok (.aload_n 2, 1) := by decide +kernel
theorem dX5_oneOrTwo_3 : decode cX5_oneOrTwo 3 = .ok (.invokevirtual 47, 3) := by decide +kernel
theorem dX5_oneOrTwo_6 : decode cX5_oneOrTwo 6 = .ok (.iconst 0, 1) := by decide +kernel
theorem dX5_oneOrTwo_7 : decode cX5_oneOrTwo 7 = .ok (.istore 4, 2) := by decide +kernel
theorem dX5_oneOrTwo_9 : decode cX5_oneOrTwo 9 = .ok (.iload 4, 2) := by decide +kernel
theorem dX5_oneOrTwo_11 : decode cX5_oneOrTwo 11 = .ok (.aload_n 1, 1) := by decide +kernel
theorem dX5_oneOrTwo_12 : decode cX5_oneOrTwo 12 = .ok (.getfield 29, 3) := by decide +kernel
theorem dX5_oneOrTwo_15 : decode cX5_oneOrTwo 15 = .ok (.if_icmp .ge 23, 3) := by decide +kernel
theorem dX5_oneOrTwo_18 : decode cX5_oneOrTwo 18 = .ok (.aload_n 0, 1) := by decide +kernel
theorem dX5_oneOrTwo_19 : decode cX5_oneOrTwo 19 = .ok (.aload_n 1, 1) := by decide +kernel
theorem dX5_oneOrTwo_20 : decode cX5_oneOrTwo 20 = .ok (.aload_n 2, 1) := by decide +kernel
theorem dX5_oneOrTwo_21 : decode cX5_oneOrTwo 21 = .ok (.iload 4, 2) := by decide +kernel
theorem dX5_oneOrTwo_23 : decode cX5_oneOrTwo 23 = .ok (.iload_n 3, 1) := by decide +kernel
theorem dX5_oneOrTwo_24 : decode cX5_oneOrTwo 24 = .ok (.invokevirtual 51, 3) := by decide +kernel
theorem dX5_oneOrTwo_27 : decode cX5_oneOrTwo 27 = .ok (.ifCond .eq 5, 3) := by decide +kernel
theorem dX5_oneOrTwo_30 : decode cX5_oneOrTwo 30 = .ok (.iconst 1, 1) := by decide +kernel
theorem dX5_oneOrTwo_31 : decode cX5_oneOrTwo 31 = .ok (.ireturn, 1) := by decide +kernel
theorem dX5_oneOrTwo_32 : decode cX5_oneOrTwo 32 = .ok (.iinc 4 1, 3) := by decide +kernel
theorem dX5_oneOrTwo_35 : decode cX5_oneOrTwo 35 = .ok (.goto (-26), 3) := by decide +kernel
theorem dX5_oneOrTwo_38 : decode cX5_oneOrTwo 38 = .ok (.iconst 0, 1) := by decide +kernel
theorem dX5_oneOrTwo_39 : decode cX5_oneOrTwo 39 = .ok (.istore 4, 2) := by decide +kernel
theorem dX5_oneOrTwo_41 : decode cX5_oneOrTwo 41 = .ok (.iload 4, 2) := by decide +kernel
theorem dX5_oneOrTwo_43 : decode cX5_oneOrTwo 43 = .ok (.aload_n 1, 1) := by decide +kernel
theorem dX5_oneOrTwo_44 : decode cX5_oneOrTwo 44 = .ok (.getfield 29, 3) := by decide +kernel
theorem dX5_oneOrTwo_47 : decode cX5_oneOrTwo 47 = .ok (.if_icmp .ge 46, 3) := by decide +kernel
theorem dX5_oneOrTwo_50 : decode cX5_oneOrTwo 50 = .ok (.iload 4, 2) := by decide +kernel
theorem dX5_oneOrTwo_52 : decode cX5_oneOrTwo 52 = .ok (.iconst 1, 1) := by decide +kernel
theorem dX5_oneOrTwo_53 : decode cX5_oneOrTwo 53 = .ok (.iadd, 1) := by decide +kernel
theorem dX5_oneOrTwo_54 : decode cX5_oneOrTwo 54 = .ok (.istore 5, 2) := by decide +kernel
theorem dX5_oneOrTwo_56 : decode cX5_oneOrTwo 56 = .ok (.iload 5, 2) := by decide +kernel
theorem dX5_oneOrTwo_58 : decode cX5_oneOrTwo 58 = .ok (.aload_n 1, 1) := by decide +kernel
theorem dX5_oneOrTwo_59 : decode cX5_oneOrTwo 59 = .ok (.getfield 29, 3) := by decide +kernel
end
section
theorem dX5_oneOrTwo_62 : decode cX5_oneOrTwo 62 = .ok (.if_icmp .ge 25, 3) := by decide +kernel
theorem dX5_oneOrTwo_65 : decode cX5_oneOrTwo 65 = .ok (.aload_n 0, 1) := by decide +kernel
theorem dX5_oneOrTwo_66 : decode cX5_oneOrTwo 66 = .ok (.aload_n 1, 1) := by decide +kernel
theorem dX5_oneOrTwo_67 : decode cX5_oneOrTwo 67 = .ok (.aload_n 2, 1) := by decide +kernel
theorem dX5_oneOrTwo_68 : decode cX5_oneOrTwo 68 = .ok (.iload 4, 2) := by decide +kernel
theorem dX5_oneOrTwo_70 : decode cX5_oneOrTwo 70 = .ok (.iload 5, 2) := by decide +kernel
theorem dX5_oneOrTwo_72 : decode cX5_oneOrTwo 72 = .ok (.iload_n 3, 1) := by decide +kernel
theorem dX5_oneOrTwo_73 : decode cX5_oneOrTwo 73 = .ok (.invokevirtual 55, 3) := by decide +kernel
theorem dX5_oneOrTwo_76 : decode cX5_oneOrTwo 76 = .ok (.ifCond .eq 5, 3) := by decide +kernel
theorem dX5_oneOrTwo_79 : decode cX5_oneOrTwo 79 = .ok (.iconst 2, 1) := by decide +kernel
theorem dX5_oneOrTwo_80 : decode cX5_oneOrTwo 80 = .ok (.ireturn, 1) := by decide +kernel
theorem dX5_oneOrTwo_81 : decode cX5_oneOrTwo 81 = .ok (.iinc 5 1, 3) := by decide +kernel
theorem dX5_oneOrTwo_84 : decode cX5_oneOrTwo 84 = .ok (.goto (-28), 3) := by decide +kernel
theorem dX5_oneOrTwo_87 : decode cX5_oneOrTwo 87 = .ok (.iinc 4 1, 3) := by decide +kernel
theorem dX5_oneOrTwo_90 : decode cX5_oneOrTwo 90 = .ok (.goto (-49), 3) := by decide +kernel
theorem dX5_oneOrTwo_93 : decode cX5_oneOrTwo 93 = .ok (.iconst 0, 1) := by decide +kernel
theorem dX5_oneOrTwo_94 : decode cX5_oneOrTwo 94 = .ok (.istore 4, 2) := by decide +kernel
theorem dX5_oneOrTwo_96 : decode cX5_oneOrTwo 96 = .ok (.iload 4, 2) := by decide +kernel
theorem dX5_oneOrTwo_98 : decode cX5_oneOrTwo 98 = .ok (.aload_n 1, 1) := by decide +kernel
theorem dX5_oneOrTwo_99 : decode cX5_oneOrTwo 99 = .ok (.getfield 29, 3) := by decide +kernel
theorem dX5_oneOrTwo_102 : decode cX5_oneOrTwo 102 = .ok (.if_icmp .ge 36, 3) := by decide +kernel
theorem dX5_oneOrTwo_105 : decode cX5_oneOrTwo 105 = .ok (.aload_n 0, 1) := by decide +kernel
theorem dX5_oneOrTwo_106 : decode cX5_oneOrTwo 106 = .ok (.aload_n 1, 1) := by decide +kernel
theorem dX5_oneOrTwo_107 : decode cX5_oneOrTwo 107 = .ok (.aload_n 2, 1) := by decide +kernel
theorem dX5_oneOrTwo_108 : decode cX5_oneOrTwo 108 = .ok (.iload 4, 2) := by decide +kernel
theorem dX5_oneOrTwo_110 : decode cX5_oneOrTwo 110 = .ok (.iaload, 1) := by decide +kernel
theorem dX5_oneOrTwo_111 : decode cX5_oneOrTwo 111 = .ok (.iload 4, 2) := by decide +kernel
theorem dX5_oneOrTwo_113 : decode cX5_oneOrTwo 113 = .ok (.bipush 40, 2) := by decide +kernel
theorem dX5_oneOrTwo_115 : decode cX5_oneOrTwo 115 = .ok (.invokevirtual 58, 3) := by decide +kernel
theorem dX5_oneOrTwo_118 : decode cX5_oneOrTwo 118 = .ok (.aload_n 0, 1) := by decide +kernel
theorem dX5_oneOrTwo_119 : decode cX5_oneOrTwo 119 = .ok (.aload_n 1, 1) := by decide +kernel
theorem dX5_oneOrTwo_120 : decode cX5_oneOrTwo 120 = .ok (.aload_n 2, 1) := by decide +kernel
theorem dX5_oneOrTwo_121 : decode cX5_oneOrTwo 121 = .ok (.iload 4, 2) := by decide +kernel
theorem dX5_oneOrTwo_123 : decode cX5_oneOrTwo 123 = .ok (.iload_n 3, 1) := by decide +kernel
theorem dX5_oneOrTwo_124 : decode cX5_oneOrTwo 124 = .ok (.invokevirtual 51, 3) := by decide +kernel
theorem dX5_oneOrTwo_127 : decode cX5_oneOrTwo 127 = .ok (.ifCond .eq 5, 3) := by decide +kernel
theorem dX5_oneOrTwo_130 : decode cX5_oneOrTwo 130 = .ok (.iconst 2, 1) := by decide +kernel
theorem dX5_oneOrTwo_131 : decode cX5_oneOrTwo 131 = .ok (.ireturn, 1) := by decide +kernel
theorem dX5_oneOrTwo_132 : decode cX5_oneOrTwo 132 = .ok (.iinc 4 1, 3) := by decide +kernel
theorem dX5_oneOrTwo_135 : decode cX5_oneOrTwo 135 = .ok (.goto (-39), 3) := by decide +kernel
theorem dX5_oneOrTwo_138 : decode cX5_oneOrTwo 138 = .ok (.bipush (-4), 2) := by decide +kernel
theorem dX5_oneOrTwo_140 : decode cX5_oneOrTwo 140 = .ok (.ireturn, 1) := by decide +kernel
theorem dX5_isWonByReached_0 : decode cX5_isWonByReached 0 = .ok (.iconst 0, 1) := by decide +kernel
theorem dX5_isWonByReached_1 : decode cX5_isWonByReached 1 = .ok (.istore 5, 2) := by decide +kernel
theorem dX5_isWonByReached_3 : decode cX5_isWonByReached 3 = .ok (.iload 5, 2) := by decide +kernel
theorem dX5_isWonByReached_5 : decode cX5_isWonByReached 5 = .ok (.aload_n 0, 1) := by decide +kernel
theorem dX5_isWonByReached_6 : decode cX5_isWonByReached 6 = .ok (.getfield 26, 3) := by decide +kernel
theorem dX5_isWonByReached_9 : decode cX5_isWonByReached 9 = .ok (.iload_n 3, 1) := by decide +kernel
theorem dX5_isWonByReached_10 : decode cX5_isWonByReached 10 = .ok (.iaload, 1) := by decide +kernel
theorem dX5_isWonByReached_11 : decode cX5_isWonByReached 11 = .ok (.if_icmp .ge 35, 3) := by decide +kernel
theorem dX5_isWonByReached_14 : decode cX5_isWonByReached 14 = .ok (.aload_n 0, 1) := by decide +kernel
theorem dX5_isWonByReached_15 : decode cX5_isWonByReached 15 = .ok (.aload_n 1, 1) := by decide +kernel
theorem dX5_isWonByReached_16 : decode cX5_isWonByReached 16 = .ok (.aload_n 2, 1) := by decide +kernel
theorem dX5_isWonByReached_17 : decode cX5_isWonByReached 17 = .ok (.iload_n 3, 1) := by decide +kernel
theorem dX5_isWonByReached_18 : decode cX5_isWonByReached 18 = .ok (.aload_n 0, 1) := by decide +kernel
theorem dX5_isWonByReached_19 : decode cX5_isWonByReached 19 = .ok (.getfield 23, 3) := by decide +kernel
theorem dX5_isWonByReached_22 : decode cX5_isWonByReached 22 = .ok (.iload_n 3, 1) := by decide +kernel
theorem dX5_isWonByReached_23 : decode cX5_isWonByReached 23 = .ok (.aaload, 1) := by decide +kernel
theorem dX5_isWonByReached_24 : decode cX5_isWonByReached 24 = .ok (.iload 5, 2) := by decide +kernel
theorem dX5_isWonByReached_26 : decode cX5_isWonByReached 26 = .ok (.iaload, 1) := by decide +kernel
theorem dX5_isWonByReached_27 : decode cX5_isWonByReached 27 = .ok (.invokevirtual 43, 3) := by decide +kernel
theorem dX5_isWonByReached_30 : decode cX5_isWonByReached 30 = .ok (.iload 4, 2) := by decide +kernel
theorem dX5_isWonByReached_32 : decode cX5_isWonByReached 32 = .ok (.iand, 1) := by decide +kernel
theorem dX5_isWonByReached_33 : decode cX5_isWonByReached 33 = .ok (.iload 4, 2) := by decide +kernel
theorem dX5_isWonByReached_35 : decode cX5_isWonByReached 35 = .ok (.if_icmp .ne 5, 3) := by decide +kernel
theorem dX5_isWonByReached_38 : decode cX5_isWonByReached 38 = .ok (.iconst 1, 1) := by decide +kernel
theorem dX5_isWonByReached_39 : decode cX5_isWonByReached 39 = .ok (.ireturn, 1) := by decide +kernel
theorem dX5_isWonByReached_40 : decode cX5_isWonByReached 40 = .ok (.iinc 5 1, 3) := by decide +kernel
theorem dX5_isWonByReached_43 : decode cX5_isWonByReached 43 = .ok (.goto (-40), 3) := by decide +kernel
theorem dX5_isWonByReached_46 : decode cX5_isWonByReached 46 = .ok (.iconst 0, 1) := by decide +kernel
theorem dX5_isWonByReached_47 : decode cX5_isWonByReached 47 = .ok (.ireturn, 1) := by decide +kernel
theorem dX5_isWonByBoth_0 : decode cX5_isWonByBoth 0 = .ok (.iconst 0, 1) := by decide +kernel
theorem dX5_isWonByBoth_1 : decode cX5_isWonByBoth 1 = .ok (.istore 6, 2) := by decide +kernel
theorem dX5_isWonByBoth_3 : decode cX5_isWonByBoth 3 = .ok (.iload 6, 2) := by decide +kernel
theorem dX5_isWonByBoth_5 : decode cX5_isWonByBoth 5 = .ok (.aload_n 0, 1) := by decide +kernel
theorem dX5_isWonByBoth_6 : decode cX5_isWonByBoth 6 = .ok (.getfield 26, 3) := by decide +kernel
theorem dX5_isWonByBoth_9 : decode cX5_isWonByBoth 9 = .ok (.iload_n 3, 1) := by decide +kernel
theorem dX5_isWonByBoth_10 : decode cX5_isWonByBoth 10 = .ok (.iaload, 1) := by decide +kernel
theorem dX5_isWonByBoth_11 : decode cX5_isWonByBoth 11 = .ok (.if_icmp .ge 96, 3) := by decide +kernel
theorem dX5_isWonByBoth_14 : decode cX5_isWonByBoth 14 = .ok (.iconst 0, 1) := by decide +kernel
theorem dX5_isWonByBoth_15 : decode cX5_isWonByBoth 15 = .ok (.istore 7, 2) := by decide +kernel
theorem dX5_isWonByBoth_17 : decode cX5_isWonByBoth 17 = .ok (.iload 7, 2) := by decide +kernel
theorem dX5_isWonByBoth_19 : decode cX5_isWonByBoth 19 = .ok (.aload_n 0, 1) := by decide +kernel
theorem dX5_isWonByBoth_20 : decode cX5_isWonByBoth 20 = .ok (.getfield 26, 3) := by decide +kernel
theorem dX5_isWonByBoth_23 : decode cX5_isWonByBoth 23 = .ok (.iload 4, 2) := by decide +kernel
theorem dX5_isWonByBoth_25 : decode cX5_isWonByBoth 25 = .ok (.iaload, 1) := by decide +kernel
theorem dX5_isWonByBoth_26 : decode cX5_isWonByBoth 26 = .ok (.if_icmp .ge 75, 3) := by decide +kernel
theorem dX5_isWonByBoth_29 : decode cX5_isWonByBoth 29 = .ok (.aload_n 2, 1) := by decide +kernel
theorem dX5_isWonByBoth_30 : decode cX5_isWonByBoth 30 = .ok (.iconst 0, 1) := by decide +kernel
theorem dX5_isWonByBoth_31 : decode cX5_isWonByBoth 31 = .ok (.aload_n 0, 1) := by decide +kernel
theorem dX5_isWonByBoth_32 : decode cX5_isWonByBoth 32 = .ok (.getfield 9, 3) := by decide +kernel
theorem dX5_isWonByBoth_35 : decode cX5_isWonByBoth 35 = .ok (.iconst 0, 1) := by decide +kernel
theorem dX5_isWonByBoth_36 : decode cX5_isWonByBoth 36 = .ok (.bipush 7, 2) := by decide +kernel
theorem dX5_isWonByBoth_38 : decode cX5_isWonByBoth 38 = .ok (.invokestatic 62, 3) := by decide +kernel
theorem dX5_isWonByBoth_41 : decode cX5_isWonByBoth 41 = .ok (.aload_n 0, 1) := by decide +kernel
theorem dX5_isWonByBoth_42 : decode cX5_isWonByBoth 42 = .ok (.getfield 9, 3) := by decide +kernel
theorem dX5_isWonByBoth_45 : decode cX5_isWonByBoth 45 = .ok (.iload_n 3, 1) := by decide +kernel
theorem dX5_isWonByBoth_46 : decode cX5_isWonByBoth 46 = .ok (.aload_n 0, 1) := by decide +kernel
theorem dX5_isWonByBoth_47 : decode cX5_isWonByBoth 47 = .ok (.getfield 23, 3) := by decide +kernel
theorem dX5_isWonByBoth_50 : decode cX5_isWonByBoth 50 = .ok (.iload_n 3, 1) := by decide +kernel
theorem dX5_isWonByBoth_51 : decode cX5_isWonByBoth 51 = .ok (.aaload, 1) := by decide +kernel
theorem dX5_isWonByBoth_52 : decode cX5_isWonByBoth 52 = .ok (.iload 6, 2) := by decide +kernel
theorem dX5_isWonByBoth_54 : decode cX5_isWonByBoth 54 = .ok (.iaload, 1) := by decide +kernel
theorem dX5_isWonByBoth_55 : decode cX5_isWonByBoth 55 = .ok (.iastore, 1) := by decide +kernel
theorem dX5_isWonByBoth_56 : decode cX5_isWonByBoth 56 = .ok (.aload_n 0, 1) := by decide +kernel
theorem dX5_isWonByBoth_57 : decode cX5_isWonByBoth 57 = .ok (.getfield 9, 3) := by decide +kernel
theorem dX5_isWonByBoth_60 : decode cX5_isWonByBoth 60 = .ok (.iload 4, 2) := by decide +kernel
theorem dX5_isWonByBoth_62 : decode cX5_isWonByBoth 62 = .ok (.aload_n 0, 1) := by decide +kernel
theorem dX5_isWonByBoth_63 : decode cX5_isWonByBoth 63 = .ok (.getfield 23, 3) := by decide +kernel
theorem dX5_isWonByBoth_66 : decode cX5_isWonByBoth 66 = .ok (.iload 4, 2) := by decide +kernel
theorem dX5_isWonByBoth_68 : decode cX5_isWonByBoth 68 = .ok (.aaload, 1) := by decide +kernel
theorem dX5_isWonByBoth_69 : decode cX5_isWonByBoth 69 = .ok (.iload 7, 2) := by decide +kernel
theorem dX5_isWonByBoth_71 : decode cX5_isWonByBoth 71 = .ok (.iaload, 1) := by decide +kernel
theorem dX5_isWonByBoth_72 : decode cX5_isWonByBoth 72 = .ok (.iastore, 1) := by decide +kernel
theorem dX5_isWonByBoth_73 : decode cX5_isWonByBoth 73 = .ok (.aload_n 1, 1) := by decide +kernel
theorem dX5_isWonByBoth_74 : decode cX5_isWonByBoth 74 = .ok (.aload_n 0, 1) := by decide +kernel
theorem dX5_isWonByBoth_75 : decode cX5_isWonByBoth 75 = .ok (.getfield 9, 3) := by decide +kernel
theorem dX5_isWonByBoth_78 : decode cX5_isWonByBoth 78 = .ok (.aload_n 0, 1) := by decide +kernel
theorem dX5_isWonByBoth_79 : decode cX5_isWonByBoth 79 = .ok (.getfield 15, 3) := by decide +kernel
theorem dX5_isWonByBoth_82 : decode cX5_isWonByBoth 82 = .ok (.invokevirtual 68, 3) := by decide +kernel
theorem dX5_isWonByBoth_85 : decode cX5_isWonByBoth 85 = .ok (.iload 5, 2) := by decide +kernel
theorem dX5_isWonByBoth_87 : decode cX5_isWonByBoth 87 = .ok (.iand, 1) := by decide +kernel
theorem dX5_isWonByBoth_88 : decode cX5_isWonByBoth 88 = .ok (.iload 5, 2) := by decide +kernel
theorem dX5_isWonByBoth_90 : decode cX5_isWonByBoth 90 = .ok (.if_icmp .ne 5, 3) := by decide +kernel
theorem dX5_isWonByBoth_93 : decode cX5_isWonByBoth 93 = .ok (.iconst 1, 1) := by decide +kernel
theorem dX5_isWonByBoth_94 : decode cX5_isWonByBoth 94 = .ok (.ireturn, 1) := by decide +kernel
theorem dX5_isWonByBoth_95 : decode cX5_isWonByBoth 95 = .ok (.iinc 7 1, 3) := by decide +kernel
theorem dX5_isWonByBoth_98 : decode cX5_isWonByBoth 98 = .ok (.goto (-81), 3) := by decide +kernel
theorem dX5_isWonByBoth_101 : decode cX5_isWonByBoth 101 = .ok (.iinc 6 1, 3) := by decide +kernel
theorem dX5_isWonByBoth_104 : decode cX5_isWonByBoth 104 = .ok (.goto (-101), 3) := by decide +kernel
theorem dX5_isWonByBoth_107 : decode cX5_isWonByBoth 107 = .ok (.iconst 0, 1) := by decide +kernel
theorem dX5_isWonByBoth_108 : decode cX5_isWonByBoth 108 = .ok (.ireturn, 1) := by decide +kernel
theorem dX5_wonWith_0 : decode cX5_wonWith 0 = .ok (.aload_n 2, 1) := by decide +kernel
theorem dX5_wonWith_1 : decode cX5_wonWith 1 = .ok (.iconst 0, 1) := by decide +kernel
theorem dX5_wonWith_2 : decode cX5_wonWith 2 = .ok (.aload_n 0, 1) := by decide +kernel
theorem dX5_wonWith_3 : decode cX5_wonWith 3 = .ok (.getfield 9, 3) := by decide +kernel
theorem dX5_wonWith_6 : decode cX5_wonWith 6 = .ok (.iconst 0, 1) := by decide +kernel
theorem dX5_wonWith_7 : decode cX5_wonWith 7 = .ok (.bipush 7, 2) := by decide +kernel
theorem dX5_wonWith_9 : decode cX5_wonWith 9 = .ok (.invokestatic 62, 3) := by decide +kernel
theorem dX5_wonWith_12 : decode cX5_wonWith 12 = .ok (.aload_n 0, 1) := by decide +kernel
theorem dX5_wonWith_13 : decode cX5_wonWith 13 = .ok (.getfield 9, 3) := by decide +kernel
theorem dX5_wonWith_16 : decode cX5_wonWith 16 = .ok (.iload_n 3, 1) := by decide +kernel
theorem dX5_wonWith_17 : decode cX5_wonWith 17 = .ok (.iload 4, 2) := by decide +kernel
theorem dX5_wonWith_19 : decode cX5_wonWith 19 = .ok (.iastore, 1) := by decide +kernel
theorem dX5_wonWith_20 : decode cX5_wonWith 20 = .ok (.aload_n 1, 1) := by decide +kernel
theorem dX5_wonWith_21 : decode cX5_wonWith 21 = .ok (.aload_n 0, 1) := by decide +kernel
theorem dX5_wonWith_22 : decode cX5_wonWith 22 = .ok (.getfield 9, 3) := by decide +kernel
theorem dX5_wonWith_25 : decode cX5_wonWith 25 = .ok (.aload_n 0, 1) := by decide +kernel
theorem dX5_wonWith_26 : decode cX5_wonWith 26 = .ok (.getfield 15, 3) := by decide +kernel
theorem dX5_wonWith_29 : decode cX5_wonWith 29 = .ok (.invokevirtual 68, 3) := by decide +kernel
theorem dX5_wonWith_32 : decode cX5_wonWith 32 = .ok (.ireturn, 1) := by decide +kernel
theorem dX5_reachAll_0 : decode cX5_reachAll 0 = .ok (.aload_n 0, 1) := by decide +kernel
theorem dX5_reachAll_1 : decode cX5_reachAll 1 = .ok (.aload_n 1, 1) := by decide +kernel
theorem dX5_reachAll_2 : decode cX5_reachAll 2 = .ok (.invokevirtual 72, 3) := by decide +kernel
theorem dX5_reachAll_5 : decode cX5_reachAll 5 = .ok (.iconst 0, 1) := by decide +kernel
theorem dX5_reachAll_6 : decode cX5_reachAll 6 = .ok (.istore_n 3, 1) := by decide +kernel
theorem dX5_reachAll_7 : decode cX5_reachAll 7 = .ok (.iload_n 3, 1) := by decide +kernel
theorem dX5_reachAll_8 : decode cX5_reachAll 8 = .ok (.aload_n 1, 1) := by decide +kernel
theorem dX5_reachAll_9 : decode cX5_reachAll 9 = .ok (.getfield 29, 3) := by decide +kernel
theorem dX5_reachAll_12 : decode cX5_reachAll 12 = .ok (.if_icmp .ge 20, 3) := by decide +kernel
theorem dX5_reachAll_15 : decode cX5_reachAll 15 = .ok (.aload_n 0, 1) := by decide +kernel
theorem dX5_reachAll_16 : decode cX5_reachAll 16 = .ok (.aload_n 1, 1) := by decide +kernel
theorem dX5_reachAll_17 : decode cX5_reachAll 17 = .ok (.aload_n 2, 1) := by decide +kernel
theorem dX5_reachAll_18 : decode cX5_reachAll 18 = .ok (.iload_n 3, 1) := by decide +kernel
theorem dX5_reachAll_19 : decode cX5_reachAll 19 = .ok (.iaload, 1) := by decide +kernel
theorem dX5_reachAll_20 : decode cX5_reachAll 20 = .ok (.iload_n 3, 1) := by decide +kernel
theorem dX5_reachAll_21 : decode cX5_reachAll 21 = .ok (.bipush 20, 2) := by decide +kernel
theorem dX5_reachAll_23 : decode cX5_reachAll 23 = .ok (.invokevirtual 58, 3) := by decide +kernel
theorem dX5_reachAll_26 : decode cX5_reachAll 26 = .ok (.iinc 3 1, 3) := by decide +kernel
theorem dX5_reachAll_29 : decode cX5_reachAll 29 = .ok (.goto (-22), 3) := by decide +kernel
theorem dX5_reachAll_32 : decode cX5_reachAll 32 = .ok (.return_, 1) := by decide +kernel
theorem dX5_reach_0 : decode cX5_reach 0 = .ok (.aload_n 0, 1) := by decide +kernel
theorem dX5_reach_1 : decode cX5_reach 1 = .ok (.getfield 26, 3) := by decide +kernel
theorem dX5_reach_4 : decode cX5_reach 4 = .ok (.iload_n 3, 1) := by decide +kernel
theorem dX5_reach_5 : decode cX5_reach 5 = .ok (.iconst 0, 1) := by decide +kernel
theorem dX5_reach_6 : decode cX5_reach 6 = .ok (.iastore, 1) := by decide +kernel
theorem dX5_reach_7 : decode cX5_reach 7 = .ok (.aload_n 1, 1) := by decide +kernel
theorem dX5_reach_8 : decode cX5_reach 8 = .ok (.aload_n 1, 1) := by decide +kernel
theorem dX5_reach_9 : decode cX5_reach 9 = .ok (.getfield 76, 3) := by decide +kernel
theorem dX5_reach_12 : decode cX5_reach 12 = .ok (.iload_n 3, 1) := by decide +kernel
theorem dX5_reach_13 : decode cX5_reach 13 = .ok (.iaload, 1) := by decide +kernel
theorem dX5_reach_14 : decode cX5_reach 14 = .ok (.invokestatic 79, 3) := by decide +kernel
theorem dX5_reach_17 : decode cX5_reach 17 = .ok (.ifCond .ne 4, 3) := by decide +kernel
theorem dX5_reach_20 : decode cX5_reach 20 = .ok (.return_, 1) := by decide +kernel
theorem dX5_reach_21 : decode cX5_reach 21 = .ok (.iload_n 2, 1) := by decide +kernel
theorem dX5_reach_22 : decode cX5_reach 22 = .ok (.iload 4, 2) := by decide +kernel
theorem dX5_reach_24 : decode cX5_reach 24 = .ok (.isub, 1) := by decide +kernel
theorem dX5_reach_25 : decode cX5_reach 25 = .ok (.invokestatic 39, 3) := by decide +kernel
theorem dX5_reach_28 : decode cX5_reach 28 = .ok (.istore 5, 2) := by decide +kernel
theorem dX5_reach_30 : decode cX5_reach 30 = .ok (.iload 5, 2) := by decide +kernel
theorem dX5_reach_32 : decode cX5_reach 32 = .ok (.iload_n 2, 1) := by decide +kernel
theorem dX5_reach_33 : decode cX5_reach 33 = .ok (.iload 4, 2) := by decide +kernel
theorem dX5_reach_35 : decode cX5_reach 35 = .ok (.iadd, 1) := by decide +kernel
theorem dX5_reach_36 : decode cX5_reach 36 = .ok (.invokestatic 39, 3) := by decide +kernel
theorem dX5_reach_39 : decode cX5_reach 39 = .ok (.if_icmp .gt 24, 3) := by decide +kernel
theorem dX5_reach_42 : decode cX5_reach 42 = .ok (.aload_n 0, 1) := by decide +kernel
theorem dX5_reach_43 : decode cX5_reach 43 = .ok (.iload_n 3, 1) := by decide +kernel
theorem dX5_reach_44 : decode cX5_reach 44 = .ok (.aload_n 0, 1) := by decide +kernel
theorem dX5_reach_45 : decode cX5_reach 45 = .ok (.getfield 18, 3) := by decide +kernel
theorem dX5_reach_48 : decode cX5_reach 48 = .ok (.iload 5, 2) := by decide +kernel
theorem dX5_reach_50 : decode cX5_reach 50 = .ok (.invokestatic 83, 3) := by decide +kernel
theorem dX5_reach_53 : decode cX5_reach 53 = .ok (.iaload, 1) := by decide +kernel
theorem dX5_reach_54 : decode cX5_reach 54 = .ok (.invokevirtual 88, 3) := by decide +kernel
theorem dX5_reach_57 : decode cX5_reach 57 = .ok (.iinc 5 1, 3) := by decide +kernel
theorem dX5_reach_60 : decode cX5_reach 60 = .ok (.goto (-30), 3) := by decide +kernel
theorem dX5_reach_63 : decode cX5_reach 63 = .ok (.return_, 1) := by decide +kernel
theorem dX5_addReached_0 : decode cX5_addReached 0 = .ok (.iconst 0, 1) := by decide +kernel
theorem dX5_addReached_1 : decode cX5_addReached 1 = .ok (.istore_n 3, 1) := by decide +kernel
theorem dX5_addReached_2 : decode cX5_addReached 2 = .ok (.iload_n 3, 1) := by decide +kernel
theorem dX5_addReached_3 : decode cX5_addReached 3 = .ok (.aload_n 0, 1) := by decide +kernel
theorem dX5_addReached_4 : decode cX5_addReached 4 = .ok (.getfield 26, 3) := by decide +kernel
theorem dX5_addReached_7 : decode cX5_addReached 7 = .ok (.iload_n 1, 1) := by decide +kernel
theorem dX5_addReached_8 : decode cX5_addReached 8 = .ok (.iaload, 1) := by decide +kernel
theorem dX5_addReached_9 : decode cX5_addReached 9 = .ok (.if_icmp .ge 22, 3) := by decide +kernel
theorem dX5_addReached_12 : decode cX5_addReached 12 = .ok (.aload_n 0, 1) := by decide +kernel
theorem dX5_addReached_13 : decode cX5_addReached 13 = .ok (.getfield 23, 3) := by decide +kernel
theorem dX5_addReached_16 : decode cX5_addReached 16 = .ok (.iload_n 1, 1) := by decide +kernel
theorem dX5_addReached_17 : decode cX5_addReached 17 = .ok (.aaload, 1) := by decide +kernel
theorem dX5_addReached_18 : decode cX5_addReached 18 = .ok (.iload_n 3, 1) := by decide +kernel
theorem dX5_addReached_19 : decode cX5_addReached 19 = .ok (.iaload, 1) := by decide +kernel
theorem dX5_addReached_20 : decode cX5_addReached 20 = .ok (.iload_n 2, 1) := by decide +kernel
theorem dX5_addReached_21 : decode cX5_addReached 21 = .ok (.if_icmp .ne 4, 3) := by decide +kernel
theorem dX5_addReached_24 : decode cX5_addReached 24 = .ok (.return_, 1) := by decide +kernel
theorem dX5_addReached_25 : decode cX5_addReached 25 = .ok (.iinc 3 1, 3) := by decide +kernel
theorem dX5_addReached_28 : decode cX5_addReached 28 = .ok (.goto (-26), 3) := by decide +kernel
theorem dX5_addReached_31 : decode cX5_addReached 31 = .ok (.aload_n 0, 1) := by decide +kernel
theorem dX5_addReached_32 : decode cX5_addReached 32 = .ok (.getfield 26, 3) := by decide +kernel
theorem dX5_addReached_35 : decode cX5_addReached 35 = .ok (.iload_n 1, 1) := by decide +kernel
theorem dX5_addReached_36 : decode cX5_addReached 36 = .ok (.iaload, 1) := by decide +kernel
theorem dX5_addReached_37 : decode cX5_addReached 37 = .ok (.bipush 40, 2) := by decide +kernel
theorem dX5_addReached_39 : decode cX5_addReached 39 = .ok (.if_icmp .gt 27, 3) := by decide +kernel
theorem dX5_addReached_42 : decode cX5_addReached 42 = .ok (.aload_n 0, 1) := by decide +kernel
theorem dX5_addReached_43 : decode cX5_addReached 43 = .ok (.getfield 23, 3) := by decide +kernel
theorem dX5_addReached_46 : decode cX5_addReached 46 = .ok (.iload_n 1, 1) := by decide +kernel
theorem dX5_addReached_47 : decode cX5_addReached 47 = .ok (.aaload, 1) := by decide +kernel
theorem dX5_addReached_48 : decode cX5_addReached 48 = .ok (.aload_n 0, 1) := by decide +kernel
theorem dX5_addReached_49 : decode cX5_addReached 49 = .ok (.getfield 26, 3) := by decide +kernel
theorem dX5_addReached_52 : decode cX5_addReached 52 = .ok (.iload_n 1, 1) := by decide +kernel
theorem dX5_addReached_53 : decode cX5_addReached 53 = .ok (.iaload, 1) := by decide +kernel
theorem dX5_addReached_54 : decode cX5_addReached 54 = .ok (.iload_n 2, 1) := by decide +kernel
theorem dX5_addReached_55 : decode cX5_addReached 55 = .ok (.iastore, 1) := by decide +kernel
theorem dX5_addReached_56 : decode cX5_addReached 56 = .ok (.aload_n 0, 1) := by decide +kernel
theorem dX5_addReached_57 : decode cX5_addReached 57 = .ok (.getfield 26, 3) := by decide +kernel
theorem dX5_addReached_60 : decode cX5_addReached 60 = .ok (.iload_n 1, 1) := by decide +kernel
theorem dX5_addReached_61 : decode cX5_addReached 61 = .ok (.dup2, 1) := by decide +kernel
theorem dX5_addReached_62 : decode cX5_addReached 62 = .ok (.iaload, 1) := by decide +kernel
theorem dX5_addReached_63 : decode cX5_addReached 63 = .ok (.iconst 1, 1) := by decide +kernel
theorem dX5_addReached_64 : decode cX5_addReached 64 = .ok (.iadd, 1) := by decide +kernel
theorem dX5_addReached_65 : decode cX5_addReached 65 = .ok (.iastore, 1) := by decide +kernel
theorem dX5_addReached_66 : decode cX5_addReached 66 = .ok (.return_, 1) := by decide +kernel
theorem dX5_isEntered_0 : decode cX5_isEntered 0 = .ok (.iconst 0, 1) := by decide +kernel
theorem dX5_isEntered_1 : decode cX5_isEntered 1 = .ok (.istore_n 2, 1) := by decide +kernel
theorem dX5_isEntered_2 : decode cX5_isEntered 2 = .ok (.iload_n 2, 1) := by decide +kernel
theorem dX5_isEntered_3 : decode cX5_isEntered 3 = .ok (.aload_n 0, 1) := by decide +kernel
theorem dX5_isEntered_4 : decode cX5_isEntered 4 = .ok (.getfield 92, 3) := by decide +kernel
theorem dX5_isEntered_7 : decode cX5_isEntered 7 = .ok (.if_icmp .ge 21, 3) := by decide +kernel
theorem dX5_isEntered_10 : decode cX5_isEntered 10 = .ok (.aload_n 0, 1) := by decide +kernel
theorem dX5_isEntered_11 : decode cX5_isEntered 11 = .ok (.getfield 95, 3) := by decide +kernel
theorem dX5_isEntered_14 : decode cX5_isEntered 14 = .ok (.iload_n 2, 1) := by decide +kernel
theorem dX5_isEntered_15 : decode cX5_isEntered 15 = .ok (.iaload, 1) := by decide +kernel
theorem dX5_isEntered_16 : decode cX5_isEntered 16 = .ok (.iload_n 1, 1) := by decide +kernel
theorem dX5_isEntered_17 : decode cX5_isEntered 17 = .ok (.if_icmp .ne 5, 3) := by decide +kernel
theorem dX5_isEntered_20 : decode cX5_isEntered 20 = .ok (.iconst 1, 1) := by decide +kernel
theorem dX5_isEntered_21 : decode cX5_isEntered 21 = .ok (.ireturn, 1) := by decide +kernel
theorem dX5_isEntered_22 : decode cX5_isEntered 22 = .ok (.iinc 2 1, 3) := by decide +kernel
theorem dX5_isEntered_25 : decode cX5_isEntered 25 = .ok (.goto (-23), 3) := by decide +kernel
theorem dX5_isEntered_28 : decode cX5_isEntered 28 = .ok (.iconst 0, 1) := by decide +kernel
theorem dX5_isEntered_29 : decode cX5_isEntered 29 = .ok (.ireturn, 1) := by decide +kernel
theorem dX5_findAlike_0 : decode cX5_findAlike 0 = .ok (.iconst 0, 1) := by decide +kernel
theorem dX5_findAlike_1 : decode cX5_findAlike 1 = .ok (.istore_n 2, 1) := by decide +kernel
theorem dX5_findAlike_2 : decode cX5_findAlike 2 = .ok (.iload_n 2, 1) := by decide +kernel
theorem dX5_findAlike_3 : decode cX5_findAlike 3 = .ok (.bipush 40, 2) := by decide +kernel
theorem dX5_findAlike_5 : decode cX5_findAlike 5 = .ok (.if_icmp .gt 49, 3) := by decide +kernel
theorem dX5_findAlike_8 : decode cX5_findAlike 8 = .ok (.iconst 0, 1) := by decide +kernel
theorem dX5_findAlike_9 : decode cX5_findAlike 9 = .ok (.istore_n 3, 1) := by decide +kernel
theorem dX5_findAlike_10 : decode cX5_findAlike 10 = .ok (.iload_n 3, 1) := by decide +kernel
theorem dX5_findAlike_11 : decode cX5_findAlike 11 = .ok (.iload_n 2, 1) := by decide +kernel
theorem dX5_findAlike_12 : decode cX5_findAlike 12 = .ok (.if_icmp .ge 29, 3) := by decide +kernel
theorem dX5_findAlike_15 : decode cX5_findAlike 15 = .ok (.aload_n 0, 1) := by decide +kernel
theorem dX5_findAlike_16 : decode cX5_findAlike 16 = .ok (.getfield 18, 3) := by decide +kernel
theorem dX5_findAlike_19 : decode cX5_findAlike 19 = .ok (.iload_n 3, 1) := by decide +kernel
theorem dX5_findAlike_20 : decode cX5_findAlike 20 = .ok (.iaload, 1) := by decide +kernel
theorem dX5_findAlike_21 : decode cX5_findAlike 21 = .ok (.iload_n 3, 1) := by decide +kernel
theorem dX5_findAlike_22 : decode cX5_findAlike 22 = .ok (.if_icmp .ne 13, 3) := by decide +kernel
theorem dX5_findAlike_25 : decode cX5_findAlike 25 = .ok (.aload_n 0, 1) := by decide +kernel
theorem dX5_findAlike_26 : decode cX5_findAlike 26 = .ok (.aload_n 1, 1) := by decide +kernel
theorem dX5_findAlike_27 : decode cX5_findAlike 27 = .ok (.iload_n 3, 1) := by decide +kernel
theorem dX5_findAlike_28 : decode cX5_findAlike 28 = .ok (.iload_n 2, 1) := by decide +kernel
theorem dX5_findAlike_29 : decode cX5_findAlike 29 = .ok (.invokevirtual 98, 3) := by decide +kernel
theorem dX5_findAlike_32 : decode cX5_findAlike 32 = .ok (.ifCond .ne 9, 3) := by decide +kernel
theorem dX5_findAlike_35 : decode cX5_findAlike 35 = .ok (.iinc 3 1, 3) := by decide +kernel
theorem dX5_findAlike_38 : decode cX5_findAlike 38 = .ok (.goto (-28), 3) := by decide +kernel
theorem dX5_findAlike_41 : decode cX5_findAlike 41 = .ok (.aload_n 0, 1) := by decide +kernel
theorem dX5_findAlike_42 : decode cX5_findAlike 42 = .ok (.getfield 18, 3) := by decide +kernel
theorem dX5_findAlike_45 : decode cX5_findAlike 45 = .ok (.iload_n 2, 1) := by decide +kernel
theorem dX5_findAlike_46 : decode cX5_findAlike 46 = .ok (.iload_n 3, 1) := by decide +kernel
theorem dX5_findAlike_47 : decode cX5_findAlike 47 = .ok (.iastore, 1) := by decide +kernel
theorem dX5_findAlike_48 : decode cX5_findAlike 48 = .ok (.iinc 2 1, 3) := by decide +kernel
theorem dX5_findAlike_51 : decode cX5_findAlike 51 = .ok (.goto (-49), 3) := by decide +kernel
theorem dX5_findAlike_54 : decode cX5_findAlike 54 = .ok (.return_, 1) := by decide +kernel
theorem dX5_areAlike_0 : decode cX5_areAlike 0 = .ok (.iconst 0, 1) := by decide +kernel
theorem dX5_areAlike_1 : decode cX5_areAlike 1 = .ok (.istore 4, 2) := by decide +kernel
theorem dX5_areAlike_3 : decode cX5_areAlike 3 = .ok (.iload 4, 2) := by decide +kernel
theorem dX5_areAlike_5 : decode cX5_areAlike 5 = .ok (.aload_n 1, 1) := by decide +kernel
theorem dX5_areAlike_6 : decode cX5_areAlike 6 = .ok (.getfield 102, 3) := by decide +kernel
theorem dX5_areAlike_9 : decode cX5_areAlike 9 = .ok (.if_icmp .ge 90, 3) := by decide +kernel
theorem dX5_areAlike_12 : decode cX5_areAlike 12 = .ok (.aload_n 1, 1) := by decide +kernel
theorem dX5_areAlike_13 : decode cX5_areAlike 13 = .ok (.iload 4, 2) := by decide +kernel
theorem dX5_areAlike_15 : decode cX5_areAlike 15 = .ok (.iload_n 2, 1) := by decide +kernel
theorem dX5_areAlike_16 : decode cX5_areAlike 16 = .ok (.invokevirtual 105, 3) := by decide +kernel
theorem dX5_areAlike_19 : decode cX5_areAlike 19 = .ok (.invokestatic 83, 3) := by decide +kernel
theorem dX5_areAlike_22 : decode cX5_areAlike 22 = .ok (.istore 5, 2) := by decide +kernel
theorem dX5_areAlike_24 : decode cX5_areAlike 24 = .ok (.aload_n 1, 1) := by decide +kernel
theorem dX5_areAlike_25 : decode cX5_areAlike 25 = .ok (.iload 4, 2) := by decide +kernel
theorem dX5_areAlike_27 : decode cX5_areAlike 27 = .ok (.iload_n 3, 1) := by decide +kernel
theorem dX5_areAlike_28 : decode cX5_areAlike 28 = .ok (.invokevirtual 105, 3) := by decide +kernel
theorem dX5_areAlike_31 : decode cX5_areAlike 31 = .ok (.invokestatic 83, 3) := by decide +kernel
theorem dX5_areAlike_34 : decode cX5_areAlike 34 = .ok (.istore 6, 2) := by decide +kernel
theorem dX5_areAlike_36 : decode cX5_areAlike 36 = .ok (.iload 5, 2) := by decide +kernel
theorem dX5_areAlike_38 : decode cX5_areAlike 38 = .ok (.iload_n 2, 1) := by decide +kernel
theorem dX5_areAlike_39 : decode cX5_areAlike 39 = .ok (.if_icmp .ne 7, 3) := by decide +kernel
theorem dX5_areAlike_42 : decode cX5_areAlike 42 = .ok (.iconst 1, 1) := by decide +kernel
theorem dX5_areAlike_43 : decode cX5_areAlike 43 = .ok (.goto 4, 3) := by decide +kernel
theorem dX5_areAlike_46 : decode cX5_areAlike 46 = .ok (.iconst 0, 1) := by decide +kernel
theorem dX5_areAlike_47 : decode cX5_areAlike 47 = .ok (.istore 7, 2) := by decide +kernel
theorem dX5_areAlike_49 : decode cX5_areAlike 49 = .ok (.iload 6, 2) := by decide +kernel
theorem dX5_areAlike_51 : decode cX5_areAlike 51 = .ok (.iload_n 3, 1) := by decide +kernel
theorem dX5_areAlike_52 : decode cX5_areAlike 52 = .ok (.if_icmp .ne 7, 3) := by decide +kernel
theorem dX5_areAlike_55 : decode cX5_areAlike 55 = .ok (.iconst 1, 1) := by decide +kernel
theorem dX5_areAlike_56 : decode cX5_areAlike 56 = .ok (.goto 4, 3) := by decide +kernel
theorem dX5_areAlike_59 : decode cX5_areAlike 59 = .ok (.iconst 0, 1) := by decide +kernel
theorem dX5_areAlike_60 : decode cX5_areAlike 60 = .ok (.istore 8, 2) := by decide +kernel
theorem dX5_areAlike_62 : decode cX5_areAlike 62 = .ok (.iload 7, 2) := by decide +kernel
theorem dX5_areAlike_64 : decode cX5_areAlike 64 = .ok (.iload 8, 2) := by decide +kernel
theorem dX5_areAlike_66 : decode cX5_areAlike 66 = .ok (.if_icmp .ne 25, 3) := by decide +kernel
theorem dX5_areAlike_69 : decode cX5_areAlike 69 = .ok (.iload 8, 2) := by decide +kernel
theorem dX5_areAlike_71 : decode cX5_areAlike 71 = .ok (.ifCond .ne 22, 3) := by decide +kernel
theorem dX5_areAlike_74 : decode cX5_areAlike 74 = .ok (.aload_n 0, 1) := by decide +kernel
theorem dX5_areAlike_75 : decode cX5_areAlike 75 = .ok (.getfield 18, 3) := by decide +kernel
theorem dX5_areAlike_78 : decode cX5_areAlike 78 = .ok (.iload 5, 2) := by decide +kernel
theorem dX5_areAlike_80 : decode cX5_areAlike 80 = .ok (.iaload, 1) := by decide +kernel
theorem dX5_areAlike_81 : decode cX5_areAlike 81 = .ok (.aload_n 0, 1) := by decide +kernel
theorem dX5_areAlike_82 : decode cX5_areAlike 82 = .ok (.getfield 18, 3) := by decide +kernel
theorem dX5_areAlike_85 : decode cX5_areAlike 85 = .ok (.iload 6, 2) := by decide +kernel
theorem dX5_areAlike_87 : decode cX5_areAlike 87 = .ok (.iaload, 1) := by decide +kernel
theorem dX5_areAlike_88 : decode cX5_areAlike 88 = .ok (.if_icmp .eq 5, 3) := by decide +kernel
theorem dX5_areAlike_91 : decode cX5_areAlike 91 = .ok (.iconst 0, 1) := by decide +kernel
theorem dX5_areAlike_92 : decode cX5_areAlike 92 = .ok (.ireturn, 1) := by decide +kernel
theorem dX5_areAlike_93 : decode cX5_areAlike 93 = .ok (.iinc 4 1, 3) := by decide +kernel
theorem dX5_areAlike_96 : decode cX5_areAlike 96 = .ok (.goto (-93), 3) := by decide +kernel
theorem dX5_areAlike_99 : decode cX5_areAlike 99 = .ok (.iconst 1, 1) := by decide +kernel
theorem dX5_areAlike_100 : decode cX5_areAlike 100 = .ok (.ireturn, 1) := by decide +kernel
theorem dX6_init_0 : decode cX6_init 0 = .ok (.aload_n 0, 1) := by decide +kernel
theorem dX6_init_1 : decode cX6_init 1 = .ok (.invokespecial 3, 3) := by decide +kernel
theorem dX6_init_4 : decode cX6_init 4 = .ok (.aload_n 0, 1) := by decide +kernel
theorem dX6_init_5 : decode cX6_init 5 = .ok (.iconst 3, 1) := by decide +kernel
theorem dX6_init_6 : decode cX6_init 6 = .ok (.newarray .int, 2) := by decide +kernel
theorem dX6_init_8 : decode cX6_init 8 = .ok (.putfield 11, 3) := by decide +kernel
theorem dX6_init_11 : decode cX6_init 11 = .ok (.return_, 1) := by decide +kernel
theorem dX6_readAll_0 : decode cX6_readAll 0 = .ok (.aload_n 2, 1) := by decide +kernel
theorem dX6_readAll_1 : decode cX6_readAll 1 = .ok (.invokevirtual 15, 3) := by decide +kernel
theorem dX6_readAll_4 : decode cX6_readAll 4 = .ok (.aload_n 0, 1) := by decide +kernel
theorem dX6_readAll_5 : decode cX6_readAll 5 = .ok (.iconst 0, 1) := by decide +kernel
theorem dX6_readAll_6 : decode cX6_readAll 6 = .ok (.putfield 20, 3) := by decide +kernel
theorem dX6_readAll_9 : decode cX6_readAll 9 = .ok (.iconst 0, 1) := by decide +kernel
theorem dX6_readAll_10 : decode cX6_readAll 10 = .ok (.istore_n 3, 1) := by decide +kernel
theorem dX6_readAll_11 : decode cX6_readAll 11 = .ok (.iload_n 3, 1) := by decide +kernel
theorem dX6_readAll_12 : decode cX6_readAll 12 = .ok (.sipush 200, 3) := by decide +kernel
theorem dX6_readAll_15 : decode cX6_readAll 15 = .ok (.if_icmp .ge 54, 3) := by decide +kernel
theorem dX6_readAll_18 : decode cX6_readAll 18 = .ok (.aload_n 0, 1) := by decide +kernel
theorem dX6_readAll_19 : decode cX6_readAll 19 = .ok (.getfield 20, 3) := by decide +kernel
theorem dX6_readAll_22 : decode cX6_readAll 22 = .ok (.aload_n 1, 1) := by decide +kernel
theorem dX6_readAll_23 : decode cX6_readAll 23 = .ok (.getfield 24, 3) := by decide +kernel
theorem dX6_readAll_26 : decode cX6_readAll 26 = .ok (.if_icmp .ge 43, 3) := by decide +kernel
theorem dX6_readAll_29 : decode cX6_readAll 29 = .ok (.aload_n 0, 1) := by decide +kernel
theorem dX6_readAll_30 : decode cX6_readAll 30 = .ok (.getfield 20, 3) := by decide +kernel
theorem dX6_readAll_33 : decode cX6_readAll 33 = .ok (.istore 4, 2) := by decide +kernel
theorem dX6_readAll_35 : decode cX6_readAll 35 = .ok (.aload_n 0, 1) := by decide +kernel
theorem dX6_readAll_36 : decode cX6_readAll 36 = .ok (.aload_n 1, 1) := by decide +kernel
theorem dX6_readAll_37 : decode cX6_readAll 37 = .ok (.invokevirtual 29, 3) := by decide +kernel
theorem dX6_readAll_40 : decode cX6_readAll 40 = .ok (.ifCond .eq 20, 3) := by decide +kernel
theorem dX6_readAll_43 : decode cX6_readAll 43 = .ok (.aload_n 2, 1) := by decide +kernel
theorem dX6_readAll_44 : decode cX6_readAll 44 = .ok (.aload_n 1, 1) := by decide +kernel
theorem dX6_readAll_45 : decode cX6_readAll 45 = .ok (.iload 4, 2) := by decide +kernel
theorem dX6_readAll_47 : decode cX6_readAll 47 = .ok (.invokevirtual 33, 3) := by decide +kernel
theorem dX6_readAll_50 : decode cX6_readAll 50 = .ok (.aload_n 0, 1) := by decide +kernel
theorem dX6_readAll_51 : decode cX6_readAll 51 = .ok (.getfield 11, 3) := by decide +kernel
theorem dX6_readAll_54 : decode cX6_readAll 54 = .ok (.invokevirtual 37, 3) := by decide +kernel
theorem dX6_readAll_57 : decode cX6_readAll 57 = .ok (.ifCond .ne 6, 3) := by decide +kernel
theorem dX6_readAll_60 : decode cX6_readAll 60 = .ok (.iload 4, 2) := by decide +kernel
theorem dX6_readAll_62 : decode cX6_readAll 62 = .ok (.ireturn, 1) := by decide +kernel
theorem dX6_readAll_63 : decode cX6_readAll 63 = .ok (.iinc 3 1, 3) := by decide +kernel
theorem dX6_readAll_66 : decode cX6_readAll 66 = .ok (.goto (-55), 3) := by decide +kernel
theorem dX6_readAll_69 : decode cX6_readAll 69 = .ok (.bipush (-4), 2) := by decide +kernel
theorem dX6_readAll_71 : decode cX6_readAll 71 = .ok (.ireturn, 1) := by decide +kernel
theorem dX6_readItem_0 : decode cX6_readItem 0 = .ok (.aload_n 1, 1) := by decide +kernel
theorem dX6_readItem_1 : decode cX6_readItem 1 = .ok (.aload_n 0, 1) := by decide +kernel
theorem dX6_readItem_2 : decode cX6_readItem 2 = .ok (.getfield 20, 3) := by decide +kernel
theorem dX6_readItem_5 : decode cX6_readItem 5 = .ok (.invokevirtual 33, 3) := by decide +kernel
theorem dX6_readItem_8 : decode cX6_readItem 8 = .ok (.invokestatic 41, 3) := by decide +kernel
theorem dX6_readItem_11 : decode cX6_readItem 11 = .ok (.istore_n 2, 1) := by decide +kernel
theorem dX6_readItem_12 : decode cX6_readItem 12 = .ok (.aload_n 0, 1) := by decide +kernel
theorem dX6_readItem_13 : decode cX6_readItem 13 = .ok (.dup, 1) := by decide +kernel
theorem dX6_readItem_14 : decode cX6_readItem 14 = .ok (.getfield 20, 3) := by decide +kernel
theorem dX6_readItem_17 : decode cX6_readItem 17 = .ok (.iconst 1, 1) := by decide +kernel
theorem dX6_readItem_18 : decode cX6_readItem 18 = .ok (.iadd, 1) := by decide +kernel
theorem dX6_readItem_19 : decode cX6_readItem 19 = .ok (.putfield 20, 3) := by decide +kernel
theorem dX6_readItem_22 : decode cX6_readItem 22 = .ok (.iconst 0, 1) := by decide +kernel
theorem dX6_readItem_23 : decode cX6_readItem 23 = .ok (.istore_n 3, 1) := by decide +kernel
theorem dX6_readItem_24 : decode cX6_readItem 24 = .ok (.iload_n 3, 1) := by decide +kernel
theorem dX6_readItem_25 : decode cX6_readItem 25 = .ok (.iload_n 2, 1) := by decide +kernel
theorem dX6_readItem_26 : decode cX6_readItem 26 = .ok (.if_icmp .ge 70, 3) := by decide +kernel
theorem dX6_readItem_29 : decode cX6_readItem 29 = .ok (.iload_n 3, 1) := by decide +kernel
theorem dX6_readItem_30 : decode cX6_readItem 30 = .ok (.iload_n 2, 1) := by decide +kernel
theorem dX6_readItem_31 : decode cX6_readItem 31 = .ok (.iconst 1, 1) := by decide +kernel
theorem dX6_readItem_32 : decode cX6_readItem 32 = .ok (.isub, 1) := by decide +kernel
theorem dX6_readItem_33 : decode cX6_readItem 33 = .ok (.if_icmp .ge 8, 3) := by decide +kernel
theorem dX6_readItem_36 : decode cX6_readItem 36 = .ok (.bipush 44, 2) := by decide +kernel
theorem dX6_readItem_38 : decode cX6_readItem 38 = .ok (.goto 5, 3) := by decide +kernel
theorem dX6_readItem_41 : decode cX6_readItem 41 = .ok (.bipush 59, 2) := by decide +kernel
theorem dX6_readItem_43 : decode cX6_readItem 43 = .ok (.istore 4, 2) := by decide +kernel
theorem dX6_readItem_45 : decode cX6_readItem 45 = .ok (.aload_n 0, 1) := by decide +kernel
theorem dX6_readItem_46 : decode cX6_readItem 46 = .ok (.getfield 11, 3) := by decide +kernel
theorem dX6_readItem_49 : decode cX6_readItem 49 = .ok (.iload_n 3, 1) := by decide +kernel
theorem dX6_readItem_50 : decode cX6_readItem 50 = .ok (.aload_n 0, 1) := by decide +kernel
theorem dX6_readItem_51 : decode cX6_readItem 51 = .ok (.aload_n 1, 1) := by decide +kernel
theorem dX6_readItem_52 : decode cX6_readItem 52 = .ok (.invokevirtual 44, 3) := by decide +kernel
theorem dX6_readItem_55 : decode cX6_readItem 55 = .ok (.iastore, 1) := by decide +kernel
theorem dX6_readItem_56 : decode cX6_readItem 56 = .ok (.aload_n 0, 1) := by decide +kernel
theorem dX6_readItem_57 : decode cX6_readItem 57 = .ok (.getfield 11, 3) := by decide +kernel
theorem dX6_readItem_60 : decode cX6_readItem 60 = .ok (.iload_n 3, 1) := by decide +kernel
theorem dX6_readItem_61 : decode cX6_readItem 61 = .ok (.iaload, 1) := by decide +kernel
theorem dX6_readItem_62 : decode cX6_readItem 62 = .ok (.ifCond .lt 16, 3) := by decide +kernel
theorem dX6_readItem_65 : decode cX6_readItem 65 = .ok (.aload_n 1, 1) := by decide +kernel
theorem dX6_readItem_66 : decode cX6_readItem 66 = .ok (.aload_n 0, 1) := by decide +kernel
theorem dX6_readItem_67 : decode cX6_readItem 67 = .ok (.getfield 20, 3) := by decide +kernel
theorem dX6_readItem_70 : decode cX6_readItem 70 = .ok (.invokevirtual 33, 3) := by decide +kernel
theorem dX6_readItem_73 : decode cX6_readItem 73 = .ok (.iload 4, 2) := by decide +kernel
theorem dX6_readItem_75 : decode cX6_readItem 75 = .ok (.if_icmp .eq 5, 3) := by decide +kernel
theorem dX6_readItem_78 : decode cX6_readItem 78 = .ok (.iconst 0, 1) := by decide +kernel
theorem dX6_readItem_79 : decode cX6_readItem 79 = .ok (.ireturn, 1) := by decide +kernel
theorem dX6_readItem_80 : decode cX6_readItem 80 = .ok (.aload_n 0, 1) := by decide +kernel
theorem dX6_readItem_81 : decode cX6_readItem 81 = .ok (.dup, 1) := by decide +kernel
theorem dX6_readItem_82 : decode cX6_readItem 82 = .ok (.getfield 20, 3) := by decide +kernel
theorem dX6_readItem_85 : decode cX6_readItem 85 = .ok (.iconst 1, 1) := by decide +kernel
theorem dX6_readItem_86 : decode cX6_readItem 86 = .ok (.iadd, 1) := by decide +kernel
theorem dX6_readItem_87 : decode cX6_readItem 87 = .ok (.putfield 20, 3) := by decide +kernel
theorem dX6_readItem_90 : decode cX6_readItem 90 = .ok (.iinc 3 1, 3) := by decide +kernel
theorem dX6_readItem_93 : decode cX6_readItem 93 = .ok (.goto (-69), 3) := by decide +kernel
theorem dX6_readItem_96 : decode cX6_readItem 96 = .ok (.iload_n 2, 1) := by decide +kernel
theorem dX6_readItem_97 : decode cX6_readItem 97 = .ok (.ifCond .le 7, 3) := by decide +kernel
theorem dX6_readItem_100 : decode cX6_readItem 100 = .ok (.iconst 1, 1) := by decide +kernel
theorem dX6_readItem_101 : decode cX6_readItem 101 = .ok (.goto 4, 3) := by decide +kernel
theorem dX6_readItem_104 : decode cX6_readItem 104 = .ok (.iconst 0, 1) := by decide +kernel
theorem dX6_readItem_105 : decode cX6_readItem 105 = .ok (.ireturn, 1) := by decide +kernel
theorem dX6_numbersBehind_0 : decode cX6_numbersBehind 0 = .ok (.iload_n 0, 1) := by decide +kernel
theorem dX6_numbersBehind_1 : decode cX6_numbersBehind 1 = .ok (.lookupswitch 63 #[(99, 59), (102, 59), (110, 61), (112, 59), (116, 59), (119, 61)], 59) := by decide +kernel
theorem dX6_numbersBehind_60 : decode cX6_numbersBehind 60 = .ok (.iconst 2, 1) := by decide +kernel
theorem dX6_numbersBehind_61 : decode cX6_numbersBehind 61 = .ok (.ireturn, 1) := by decide +kernel
theorem dX6_numbersBehind_62 : decode cX6_numbersBehind 62 = .ok (.iconst 3, 1) := by decide +kernel
theorem dX6_numbersBehind_63 : decode cX6_numbersBehind 63 = .ok (.ireturn, 1) := by decide +kernel
theorem dX6_numbersBehind_64 : decode cX6_numbersBehind 64 = .ok (.iconst 0, 1) := by decide +kernel
theorem dX6_numbersBehind_65 : decode cX6_numbersBehind 65 = .ok (.ireturn, 1) := by decide +kernel
theorem dX6_readNumber_0 : decode cX6_readNumber 0 = .ok (.aload_n 1, 1) := by decide +kernel
theorem dX6_readNumber_1 : decode cX6_readNumber 1 = .ok (.aload_n 0, 1) := by decide +kernel
theorem dX6_readNumber_2 : decode cX6_readNumber 2 = .ok (.getfield 20, 3) := by decide +kernel
theorem dX6_readNumber_5 : decode cX6_readNumber 5 = .ok (.invokestatic 48, 3) := by decide +kernel
theorem dX6_readNumber_8 : decode cX6_readNumber 8 = .ok (.istore_n 2, 1) := by decide +kernel
theorem dX6_readNumber_9 : decode cX6_readNumber 9 = .ok (.iload_n 2, 1) := by decide +kernel
theorem dX6_readNumber_10 : decode cX6_readNumber 10 = .ok (.bipush (-4), 2) := by decide +kernel
theorem dX6_readNumber_12 : decode cX6_readNumber 12 = .ok (.if_icmp .ne 6, 3) := by decide +kernel
theorem dX6_readNumber_15 : decode cX6_readNumber 15 = .ok (.bipush (-4), 2) := by decide +kernel
theorem dX6_readNumber_17 : decode cX6_readNumber 17 = .ok (.ireturn, 1) := by decide +kernel
theorem dX6_readNumber_18 : decode cX6_readNumber 18 = .ok (.aload_n 0, 1) := by decide +kernel
theorem dX6_readNumber_19 : decode cX6_readNumber 19 = .ok (.dup, 1) := by decide +kernel
theorem dX6_readNumber_20 : decode cX6_readNumber 20 = .ok (.getfield 20, 3) := by decide +kernel
theorem dX6_readNumber_23 : decode cX6_readNumber 23 = .ok (.iconst 1, 1) := by decide +kernel
theorem dX6_readNumber_24 : decode cX6_readNumber 24 = .ok (.iadd, 1) := by decide +kernel
theorem dX6_readNumber_25 : decode cX6_readNumber 25 = .ok (.putfield 20, 3) := by decide +kernel
theorem dX6_readNumber_28 : decode cX6_readNumber 28 = .ok (.aload_n 1, 1) := by decide +kernel
theorem dX6_readNumber_29 : decode cX6_readNumber 29 = .ok (.aload_n 0, 1) := by decide +kernel
theorem dX6_readNumber_30 : decode cX6_readNumber 30 = .ok (.getfield 20, 3) := by decide +kernel
theorem dX6_readNumber_33 : decode cX6_readNumber 33 = .ok (.invokestatic 48, 3) := by decide +kernel
theorem dX6_readNumber_36 : decode cX6_readNumber 36 = .ok (.istore_n 3, 1) := by decide +kernel
theorem dX6_readNumber_37 : decode cX6_readNumber 37 = .ok (.iload_n 3, 1) := by decide +kernel
theorem dX6_readNumber_38 : decode cX6_readNumber 38 = .ok (.bipush (-4), 2) := by decide +kernel
theorem dX6_readNumber_40 : decode cX6_readNumber 40 = .ok (.if_icmp .ne 5, 3) := by decide +kernel
theorem dX6_readNumber_43 : decode cX6_readNumber 43 = .ok (.iload_n 2, 1) := by decide +kernel
theorem dX6_readNumber_44 : decode cX6_readNumber 44 = .ok (.ireturn, 1) := by decide +kernel
theorem dX6_readNumber_45 : decode cX6_readNumber 45 = .ok (.aload_n 0, 1) := by decide +kernel
theorem dX6_readNumber_46 : decode cX6_readNumber 46 = .ok (.dup, 1) := by decide +kernel
theorem dX6_readNumber_47 : decode cX6_readNumber 47 = .ok (.getfield 20, 3) := by decide +kernel
theorem dX6_readNumber_50 : decode cX6_readNumber 50 = .ok (.iconst 1, 1) := by decide +kernel
theorem dX6_readNumber_51 : decode cX6_readNumber 51 = .ok (.iadd, 1) := by decide +kernel
theorem dX6_readNumber_52 : decode cX6_readNumber 52 = .ok (.putfield 20, 3) := by decide +kernel
theorem dX6_readNumber_55 : decode cX6_readNumber 55 = .ok (.bipush 10, 2) := by decide +kernel
theorem dX6_readNumber_57 : decode cX6_readNumber 57 = .ok (.iload_n 2, 1) := by decide +kernel
theorem dX6_readNumber_58 : decode cX6_readNumber 58 = .ok (.imul, 1) := by decide +kernel
theorem dX6_readNumber_59 : decode cX6_readNumber 59 = .ok (.iload_n 3, 1) := by decide +kernel
theorem dX6_readNumber_60 : decode cX6_readNumber 60 = .ok (.iadd, 1) := by decide +kernel
theorem dX6_readNumber_61 : decode cX6_readNumber 61 = .ok (.ireturn, 1) := by decide +kernel
theorem dX6_figureAt_0 : decode cX6_figureAt 0 = .ok (.aload_n 0, 1) := by decide +kernel
theorem dX6_figureAt_1 : decode cX6_figureAt 1 = .ok (.iload_n 1, 1) := by decide +kernel
theorem dX6_figureAt_2 : decode cX6_figureAt 2 = .ok (.invokevirtual 33, 3) := by decide +kernel
theorem dX6_figureAt_5 : decode cX6_figureAt 5 = .ok (.istore_n 2, 1) := by decide +kernel
theorem dX6_figureAt_6 : decode cX6_figureAt 6 = .ok (.iload_n 2, 1) := by decide +kernel
theorem dX6_figureAt_7 : decode cX6_figureAt 7 = .ok (.bipush 48, 2) := by decide +kernel
theorem dX6_figureAt_9 : decode cX6_figureAt 9 = .ok (.if_icmp .lt 16, 3) := by decide +kernel
theorem dX6_figureAt_12 : decode cX6_figureAt 12 = .ok (.iload_n 2, 1) := by decide +kernel
theorem dX6_figureAt_13 : decode cX6_figureAt 13 = .ok (.bipush 57, 2) := by decide +kernel
theorem dX6_figureAt_15 : decode cX6_figureAt 15 = .ok (.if_icmp .gt 10, 3) := by decide +kernel
theorem dX6_figureAt_18 : decode cX6_figureAt 18 = .ok (.iload_n 2, 1) := by decide +kernel
theorem dX6_figureAt_19 : decode cX6_figureAt 19 = .ok (.bipush 48, 2) := by decide +kernel
theorem dX6_figureAt_21 : decode cX6_figureAt 21 = .ok (.isub, 1) := by decide +kernel
theorem dX6_figureAt_22 : decode cX6_figureAt 22 = .ok (.goto 5, 3) := by decide +kernel
theorem dX6_figureAt_25 : decode cX6_figureAt 25 = .ok (.bipush (-4), 2) := by decide +kernel
theorem dX6_figureAt_27 : decode cX6_figureAt 27 = .ok (.ireturn, 1) := by decide +kernel
theorem dX7_init_0 : decode cX7_init 0 = .ok (.aload_n 0, 1) := by decide +kernel
theorem dX7_init_1 : decode cX7_init 1 = .ok (.invokespecial 1, 3) := by decide +kernel
theorem dX7_init_4 : decode cX7_init 4 = .ok (.aload_n 0, 1) := by decide +kernel
theorem dX7_init_5 : decode cX7_init 5 = .ok (.iload_n 1, 1) := by decide +kernel
theorem dX7_init_6 : decode cX7_init 6 = .ok (.anewarray 7, 3) := by decide +kernel
theorem dX7_init_9 : decode cX7_init 9 = .ok (.putfield 9, 3) := by decide +kernel
theorem dX7_init_12 : decode cX7_init 12 = .ok (.iconst 0, 1) := by decide +kernel
theorem dX7_init_13 : decode cX7_init 13 = .ok (.istore_n 2, 1) := by decide +kernel
theorem dX7_init_14 : decode cX7_init 14 = .ok (.iload_n 2, 1) := by decide +kernel
theorem dX7_init_15 : decode cX7_init 15 = .ok (.iload_n 1, 1) := by decide +kernel
theorem dX7_init_16 : decode cX7_init 16 = .ok (.if_icmp .ge 22, 3) := by decide +kernel
theorem dX7_init_19 : decode cX7_init 19 = .ok (.aload_n 0, 1) := by decide +kernel
theorem dX7_init_20 : decode cX7_init 20 = .ok (.getfield 9, 3) := by decide +kernel
theorem dX7_init_23 : decode cX7_init 23 = .ok (.iload_n 2, 1) := by decide +kernel
theorem dX7_init_24 : decode cX7_init 24 = .ok (.new 7, 3) := by decide +kernel
theorem dX7_init_27 : decode cX7_init 27 = .ok (.dup, 1) := by decide +kernel
theorem dX7_init_28 : decode cX7_init 28 = .ok (.invokespecial 15, 3) := by decide +kernel
theorem dX7_init_31 : decode cX7_init 31 = .ok (.aastore, 1) := by decide +kernel
theorem dX7_init_32 : decode cX7_init 32 = .ok (.iinc 2 1, 3) := by decide +kernel
theorem dX7_init_35 : decode cX7_init 35 = .ok (.goto (-21), 3) := by decide +kernel
theorem dX7_init_38 : decode cX7_init 38 = .ok (.return_, 1) := by decide +kernel
theorem dX7_put_0 : decode cX7_put 0 = .ok (.aload_n 0, 1) := by decide +kernel
theorem dX7_put_1 : decode cX7_put 1 = .ok (.getfield 16, 3) := by decide +kernel
theorem dX7_put_4 : decode cX7_put 4 = .ok (.aload_n 0, 1) := by decide +kernel
theorem dX7_put_5 : decode cX7_put 5 = .ok (.getfield 9, 3) := by decide +kernel
theorem dX7_put_8 : decode cX7_put 8 = .ok (.arraylength, 1) := by decide +kernel
theorem dX7_put_9 : decode cX7_put 9 = .ok (.if_icmp .lt 67, 3) := by decide +kernel
theorem dX7_put_12 : decode cX7_put 12 = .ok (.aload_n 0, 1) := by decide +kernel
theorem dX7_put_13 : decode cX7_put 13 = .ok (.getfield 9, 3) := by decide +kernel
theorem dX7_put_16 : decode cX7_put 16 = .ok (.iconst 0, 1) := by decide +kernel
theorem dX7_put_17 : decode cX7_put 17 = .ok (.aaload, 1) := by decide +kernel
theorem dX7_put_18 : decode cX7_put 18 = .ok (.astore_n 2, 1) := by decide +kernel
theorem dX7_put_19 : decode cX7_put 19 = .ok (.iconst 0, 1) := by decide +kernel
theorem dX7_put_20 : decode cX7_put 20 = .ok (.istore_n 3, 1) := by decide +kernel
theorem dX7_put_21 : decode cX7_put 21 = .ok (.iload_n 3, 1) := by decide +kernel
theorem dX7_put_22 : decode cX7_put 22 = .ok (.aload_n 0, 1) := by decide +kernel
theorem dX7_put_23 : decode cX7_put 23 = .ok (.getfield 9, 3) := by decide +kernel
theorem dX7_put_26 : decode cX7_put 26 = .ok (.arraylength, 1) := by decide +kernel
theorem dX7_put_27 : decode cX7_put 27 = .ok (.iconst 1, 1) := by decide +kernel
theorem dX7_put_28 : decode cX7_put 28 = .ok (.isub, 1) := by decide +kernel
theorem dX7_put_29 : decode cX7_put 29 = .ok (.if_icmp .ge 23, 3) := by decide +kernel
theorem dX7_put_32 : decode cX7_put 32 = .ok (.aload_n 0, 1) := by decide +kernel
theorem dX7_put_33 : decode cX7_put 33 = .ok (.getfield 9, 3) := by decide +kernel
theorem dX7_put_36 : decode cX7_put 36 = .ok (.iload_n 3, 1) := by decide +kernel
theorem dX7_put_37 : decode cX7_put 37 = .ok (.aload_n 0, 1) := by decide +kernel
theorem dX7_put_38 : decode cX7_put 38 = .ok (.getfield 9, 3) := by decide +kernel
theorem dX7_put_41 : decode cX7_put 41 = .ok (.iload_n 3, 1) := by decide +kernel
theorem dX7_put_42 : decode cX7_put 42 = .ok (.iconst 1, 1) := by decide +kernel
theorem dX7_put_43 : decode cX7_put 43 = .ok (.iadd, 1) := by decide +kernel
theorem dX7_put_44 : decode cX7_put 44 = .ok (.aaload, 1) := by decide +kernel
theorem dX7_put_45 : decode cX7_put 45 = .ok (.aastore, 1) := by decide +kernel
theorem dX7_put_46 : decode cX7_put 46 = .ok (.iinc 3 1, 3) := by decide +kernel
theorem dX7_put_49 : decode cX7_put 49 = .ok (.goto (-28), 3) := by decide +kernel
theorem dX7_put_52 : decode cX7_put 52 = .ok (.aload_n 0, 1) := by decide +kernel
theorem dX7_put_53 : decode cX7_put 53 = .ok (.getfield 9, 3) := by decide +kernel
theorem dX7_put_56 : decode cX7_put 56 = .ok (.aload_n 0, 1) := by decide +kernel
theorem dX7_put_57 : decode cX7_put 57 = .ok (.getfield 9, 3) := by decide +kernel
theorem dX7_put_60 : decode cX7_put 60 = .ok (.arraylength, 1) := by decide +kernel
theorem dX7_put_61 : decode cX7_put 61 = .ok (.iconst 1, 1) := by decide +kernel
theorem dX7_put_62 : decode cX7_put 62 = .ok (.isub, 1) := by decide +kernel
theorem dX7_put_63 : decode cX7_put 63 = .ok (.aload_n 2, 1) := by decide +kernel
theorem dX7_put_64 : decode cX7_put 64 = .ok (.aastore, 1) := by decide +kernel
theorem dX7_put_65 : decode cX7_put 65 = .ok (.aload_n 0, 1) := by decide +kernel
theorem dX7_put_66 : decode cX7_put 66 = .ok (.aload_n 0, 1) := by decide +kernel
theorem dX7_put_67 : decode cX7_put 67 = .ok (.getfield 9, 3) := by decide +kernel
theorem dX7_put_70 : decode cX7_put 70 = .ok (.arraylength, 1) := by decide +kernel
theorem dX7_put_71 : decode cX7_put 71 = .ok (.iconst 1, 1) := by decide +kernel
theorem dX7_put_72 : decode cX7_put 72 = .ok (.isub, 1) := by decide +kernel
theorem dX7_put_73 : decode cX7_put 73 = .ok (.putfield 16, 3) := by decide +kernel
theorem dX7_put_76 : decode cX7_put 76 = .ok (.aload_n 0, 1) := by decide +kernel
theorem dX7_put_77 : decode cX7_put 77 = .ok (.getfield 9, 3) := by decide +kernel
theorem dX7_put_80 : decode cX7_put 80 = .ok (.aload_n 0, 1) := by decide +kernel
theorem dX7_put_81 : decode cX7_put 81 = .ok (.getfield 16, 3) := by decide +kernel
theorem dX7_put_84 : decode cX7_put 84 = .ok (.aaload, 1) := by decide +kernel
theorem dX7_put_85 : decode cX7_put 85 = .ok (.aload_n 1, 1) := by decide +kernel
theorem dX7_put_86 : decode cX7_put 86 = .ok (.invokevirtual 20, 3) := by decide +kernel
theorem dX7_put_89 : decode cX7_put 89 = .ok (.aload_n 0, 1) := by decide +kernel
theorem dX7_put_90 : decode cX7_put 90 = .ok (.dup, 1) := by decide +kernel
theorem dX7_put_91 : decode cX7_put 91 = .ok (.getfield 16, 3) := by decide +kernel
theorem dX7_put_94 : decode cX7_put 94 = .ok (.iconst 1, 1) := by decide +kernel
theorem dX7_put_95 : decode cX7_put 95 = .ok (.iadd, 1) := by decide +kernel
theorem dX7_put_96 : decode cX7_put 96 = .ok (.putfield 16, 3) := by decide +kernel
theorem dX7_put_99 : decode cX7_put 99 = .ok (.return_, 1) := by decide +kernel
theorem dX7_takeLast_0 : decode cX7_takeLast 0 = .ok (.aload_n 0, 1) := by decide +kernel
theorem dX7_takeLast_1 : decode cX7_takeLast 1 = .ok (.getfield 16, 3) := by decide +kernel
theorem dX7_takeLast_4 : decode cX7_takeLast 4 = .ok (.ifCond .ne 5, 3) := by decide +kernel
theorem dX7_takeLast_7 : decode cX7_takeLast 7 = .ok (.iconst 0, 1) := by decide +kernel
theorem dX7_takeLast_8 : decode cX7_takeLast 8 = .ok (.ireturn, 1) := by decide +kernel
theorem dX7_takeLast_9 : decode cX7_takeLast 9 = .ok (.aload_n 0, 1) := by decide +kernel
theorem dX7_takeLast_10 : decode cX7_takeLast 10 = .ok (.dup, 1) := by decide +kernel
theorem dX7_takeLast_11 : decode cX7_takeLast 11 = .ok (.getfield 16, 3) := by decide +kernel
theorem dX7_takeLast_14 : decode cX7_takeLast 14 = .ok (.iconst 1, 1) := by decide +kernel
theorem dX7_takeLast_15 : decode cX7_takeLast 15 = .ok (.isub, 1) := by decide +kernel
theorem dX7_takeLast_16 : decode cX7_takeLast 16 = .ok (.putfield 16, 3) := by decide +kernel
theorem dX7_takeLast_19 : decode cX7_takeLast 19 = .ok (.aload_n 1, 1) := by decide +kernel
theorem dX7_takeLast_20 : decode cX7_takeLast 20 = .ok (.aload_n 0, 1) := by decide +kernel
theorem dX7_takeLast_21 : decode cX7_takeLast 21 = .ok (.getfield 9, 3) := by decide +kernel
theorem dX7_takeLast_24 : decode cX7_takeLast 24 = .ok (.aload_n 0, 1) := by decide +kernel
theorem dX7_takeLast_25 : decode cX7_takeLast 25 = .ok (.getfield 16, 3) := by decide +kernel
theorem dX7_takeLast_28 : decode cX7_takeLast 28 = .ok (.aaload, 1) := by decide +kernel
theorem dX7_takeLast_29 : decode cX7_takeLast 29 = .ok (.invokevirtual 20, 3) := by decide +kernel
theorem dX7_takeLast_32 : decode cX7_takeLast 32 = .ok (.iconst 1, 1) := by decide +kernel
theorem dX7_takeLast_33 : decode cX7_takeLast 33 = .ok (.ireturn, 1) := by decide +kernel
theorem dX8_init_0 : decode cX8_init 0 = .ok (.aload_n 0, 1) := by decide +kernel
theorem dX8_init_1 : decode cX8_init 1 = .ok (.invokespecial 3, 3) := by decide +kernel
theorem dX8_init_4 : decode cX8_init 4 = .ok (.aload_n 0, 1) := by decide +kernel
theorem dX8_init_5 : decode cX8_init 5 = .ok (.bipush 8, 2) := by decide +kernel
theorem dX8_init_7 : decode cX8_init 7 = .ok (.newarray .int, 2) := by decide +kernel
theorem dX8_init_9 : decode cX8_init 9 = .ok (.putfield 9, 3) := by decide +kernel
theorem dX8_init_12 : decode cX8_init 12 = .ok (.aload_n 0, 1) := by decide +kernel
theorem dX8_init_13 : decode cX8_init 13 = .ok (.bipush 8, 2) := by decide +kernel
theorem dX8_init_15 : decode cX8_init 15 = .ok (.newarray .int, 2) := by decide +kernel
theorem dX8_init_17 : decode cX8_init 17 = .ok (.putfield 15, 3) := by decide +kernel
theorem dX8_init_20 : decode cX8_init 20 = .ok (.aload_n 0, 1) := by decide +kernel
theorem dX8_init_21 : decode cX8_init 21 = .ok (.bipush 81, 2) := by decide +kernel
theorem dX8_init_23 : decode cX8_init 23 = .ok (.newarray .int, 2) := by decide +kernel
theorem dX8_init_25 : decode cX8_init 25 = .ok (.putfield 18, 3) := by decide +kernel
theorem dX8_init_28 : decode cX8_init 28 = .ok (.return_, 1) := by decide +kernel
theorem dX8_add_0 : decode cX8_add 0 = .ok (.aload_n 0, 1) := by decide +kernel
theorem dX8_add_1 : decode cX8_add 1 = .ok (.getfield 21, 3) := by decide +kernel
theorem dX8_add_4 : decode cX8_add 4 = .ok (.bipush 8, 2) := by decide +kernel
theorem dX8_add_6 : decode cX8_add 6 = .ok (.if_icmp .lt 5, 3) := by decide +kernel
theorem dX8_add_9 : decode cX8_add 9 = .ok (.iconst 0, 1) := by decide +kernel
theorem dX8_add_10 : decode cX8_add 10 = .ok (.ireturn, 1) := by decide +kernel
theorem dX8_add_11 : decode cX8_add 11 = .ok (.aload_n 0, 1) := by decide +kernel
theorem dX8_add_12 : decode cX8_add 12 = .ok (.getfield 9, 3) := by decide +kernel
theorem dX8_add_15 : decode cX8_add 15 = .ok (.aload_n 0, 1) := by decide +kernel
theorem dX8_add_16 : decode cX8_add 16 = .ok (.getfield 21, 3) := by decide +kernel
theorem dX8_add_19 : decode cX8_add 19 = .ok (.iload_n 1, 1) := by decide +kernel
theorem dX8_add_20 : decode cX8_add 20 = .ok (.iastore, 1) := by decide +kernel
theorem dX8_add_21 : decode cX8_add 21 = .ok (.aload_n 0, 1) := by decide +kernel
theorem dX8_add_22 : decode cX8_add 22 = .ok (.getfield 15, 3) := by decide +kernel
theorem dX8_add_25 : decode cX8_add 25 = .ok (.aload_n 0, 1) := by decide +kernel
theorem dX8_add_26 : decode cX8_add 26 = .ok (.getfield 21, 3) := by decide +kernel
theorem dX8_add_29 : decode cX8_add 29 = .ok (.iload_n 2, 1) := by decide +kernel
theorem dX8_add_30 : decode cX8_add 30 = .ok (.iastore, 1) := by decide +kernel
theorem dX8_add_31 : decode cX8_add 31 = .ok (.aload_n 0, 1) := by decide +kernel
theorem dX8_add_32 : decode cX8_add 32 = .ok (.dup, 1) := by decide +kernel
theorem dX8_add_33 : decode cX8_add 33 = .ok (.getfield 21, 3) := by decide +kernel
theorem dX8_add_36 : decode cX8_add 36 = .ok (.iconst 1, 1) := by decide +kernel
theorem dX8_add_37 : decode cX8_add 37 = .ok (.iadd, 1) := by decide +kernel
theorem dX8_add_38 : decode cX8_add 38 = .ok (.putfield 21, 3) := by decide +kernel
theorem dX8_add_41 : decode cX8_add 41 = .ok (.iconst 1, 1) := by decide +kernel
theorem dX8_add_42 : decode cX8_add 42 = .ok (.ireturn, 1) := by decide +kernel
theorem dX8_empty_0 : decode cX8_empty 0 = .ok (.aload_n 0, 1) := by decide +kernel
theorem dX8_empty_1 : decode cX8_empty 1 = .ok (.getfield 21, 3) := by decide +kernel
theorem dX8_empty_4 : decode cX8_empty 4 = .ok (.istore_n 1, 1) := by decide +kernel
theorem dX8_empty_5 : decode cX8_empty 5 = .ok (.aload_n 0, 1) := by decide +kernel
theorem dX8_empty_6 : decode cX8_empty 6 = .ok (.iconst 0, 1) := by decide +kernel
theorem dX8_empty_7 : decode cX8_empty 7 = .ok (.putfield 21, 3) := by decide +kernel
theorem dX8_empty_10 : decode cX8_empty 10 = .ok (.iload_n 1, 1) := by decide +kernel
theorem dX8_empty_11 : decode cX8_empty 11 = .ok (.ireturn, 1) := by decide +kernel
theorem dX8_fitting_0 : decode cX8_fitting 0 = .ok (.iconst 0, 1) := by decide +kernel
theorem dX8_fitting_1 : decode cX8_fitting 1 = .ok (.istore_n 2, 1) := by decide +kernel
theorem dX8_fitting_2 : decode cX8_fitting 2 = .ok (.iconst 0, 1) := by decide +kernel
theorem dX8_fitting_3 : decode cX8_fitting 3 = .ok (.istore_n 3, 1) := by decide +kernel
theorem dX8_fitting_4 : decode cX8_fitting 4 = .ok (.iload_n 3, 1) := by decide +kernel
theorem dX8_fitting_5 : decode cX8_fitting 5 = .ok (.bipush 20, 2) := by decide +kernel
theorem dX8_fitting_7 : decode cX8_fitting 7 = .ok (.if_icmp .gt 24, 3) := by decide +kernel
theorem dX8_fitting_10 : decode cX8_fitting 10 = .ok (.aload_n 0, 1) := by decide +kernel
theorem dX8_fitting_11 : decode cX8_fitting 11 = .ok (.iload_n 1, 1) := by decide +kernel
theorem dX8_fitting_12 : decode cX8_fitting 12 = .ok (.iload_n 3, 1) := by decide +kernel
theorem dX8_fitting_13 : decode cX8_fitting 13 = .ok (.invokevirtual 25, 3) := by decide +kernel
theorem dX8_fitting_16 : decode cX8_fitting 16 = .ok (.ifCond .eq 9, 3) := by decide +kernel
theorem dX8_fitting_19 : decode cX8_fitting 19 = .ok (.iload_n 2, 1) := by decide +kernel
theorem dX8_fitting_20 : decode cX8_fitting 20 = .ok (.iconst 1, 1) := by decide +kernel
theorem dX8_fitting_21 : decode cX8_fitting 21 = .ok (.iload_n 3, 1) := by decide +kernel
theorem dX8_fitting_22 : decode cX8_fitting 22 = .ok (.ishl, 1) := by decide +kernel
theorem dX8_fitting_23 : decode cX8_fitting 23 = .ok (.ior, 1) := by decide +kernel
theorem dX8_fitting_24 : decode cX8_fitting 24 = .ok (.istore_n 2, 1) := by decide +kernel
theorem dX8_fitting_25 : decode cX8_fitting 25 = .ok (.iinc 3 1, 3) := by decide +kernel
theorem dX8_fitting_28 : decode cX8_fitting 28 = .ok (.goto (-24), 3) := by decide +kernel
theorem dX8_fitting_31 : decode cX8_fitting 31 = .ok (.iload_n 2, 1) := by decide +kernel
theorem dX8_fitting_32 : decode cX8_fitting 32 = .ok (.ireturn, 1) := by decide +kernel
theorem dX8_fits_0 : decode cX8_fits 0 = .ok (.iconst 0, 1) := by decide +kernel
theorem dX8_fits_1 : decode cX8_fits 1 = .ok (.istore_n 3, 1) := by decide +kernel
theorem dX8_fits_2 : decode cX8_fits 2 = .ok (.iload_n 3, 1) := by decide +kernel
theorem dX8_fits_3 : decode cX8_fits 3 = .ok (.aload_n 0, 1) := by decide +kernel
theorem dX8_fits_4 : decode cX8_fits 4 = .ok (.getfield 21, 3) := by decide +kernel
theorem dX8_fits_7 : decode cX8_fits 7 = .ok (.if_icmp .ge 31, 3) := by decide +kernel
theorem dX8_fits_10 : decode cX8_fits 10 = .ok (.iload_n 1, 1) := by decide +kernel
theorem dX8_fits_11 : decode cX8_fits 11 = .ok (.iload_n 2, 1) := by decide +kernel
theorem dX8_fits_12 : decode cX8_fits 12 = .ok (.aload_n 0, 1) := by decide +kernel
theorem dX8_fits_13 : decode cX8_fits 13 = .ok (.getfield 9, 3) := by decide +kernel
theorem dX8_fits_16 : decode cX8_fits 16 = .ok (.iload_n 3, 1) := by decide +kernel
theorem dX8_fits_17 : decode cX8_fits 17 = .ok (.iaload, 1) := by decide +kernel
theorem dX8_fits_18 : decode cX8_fits 18 = .ok (.invokestatic 29, 3) := by decide +kernel
theorem dX8_fits_21 : decode cX8_fits 21 = .ok (.aload_n 0, 1) := by decide +kernel
theorem dX8_fits_22 : decode cX8_fits 22 = .ok (.getfield 15, 3) := by decide +kernel
theorem dX8_fits_25 : decode cX8_fits 25 = .ok (.iload_n 3, 1) := by decide +kernel
theorem dX8_fits_26 : decode cX8_fits 26 = .ok (.iaload, 1) := by decide +kernel
theorem dX8_fits_27 : decode cX8_fits 27 = .ok (.if_icmp .eq 5, 3) := by decide +kernel
theorem dX8_fits_30 : decode cX8_fits 30 = .ok (.iconst 0, 1) := by decide +kernel
theorem dX8_fits_31 : decode cX8_fits 31 = .ok (.ireturn, 1) := by decide +kernel
theorem dX8_fits_32 : decode cX8_fits 32 = .ok (.iinc 3 1, 3) := by decide +kernel
theorem dX8_fits_35 : decode cX8_fits 35 = .ok (.goto (-33), 3) := by decide +kernel
theorem dX8_fits_38 : decode cX8_fits 38 = .ok (.iconst 1, 1) := by decide +kernel
theorem dX8_fits_39 : decode cX8_fits 39 = .ok (.ireturn, 1) := by decide +kernel
theorem dX8_bestLook_0 : decode cX8_bestLook 0 = .ok (.iconst 0, 1) := by decide +kernel
theorem dX8_bestLook_1 : decode cX8_bestLook 1 = .ok (.istore_n 3, 1) := by decide +kernel
theorem dX8_bestLook_2 : decode cX8_bestLook 2 = .ok (.aload_n 0, 1) := by decide +kernel
theorem dX8_bestLook_3 : decode cX8_bestLook 3 = .ok (.iload_n 1, 1) := by decide +kernel
theorem dX8_bestLook_4 : decode cX8_bestLook 4 = .ok (.iload_n 2, 1) := by decide +kernel
theorem dX8_bestLook_5 : decode cX8_bestLook 5 = .ok (.iconst 0, 1) := by decide +kernel
theorem dX8_bestLook_6 : decode cX8_bestLook 6 = .ok (.invokevirtual 35, 3) := by decide +kernel
theorem dX8_bestLook_9 : decode cX8_bestLook 9 = .ok (.istore 4, 2) := by decide +kernel
theorem dX8_bestLook_11 : decode cX8_bestLook 11 = .ok (.iconst 1, 1) := by decide +kernel
theorem dX8_bestLook_12 : decode cX8_bestLook 12 = .ok (.istore 5, 2) := by decide +kernel
theorem dX8_bestLook_14 : decode cX8_bestLook 14 = .ok (.iload 5, 2) := by decide +kernel
theorem dX8_bestLook_16 : decode cX8_bestLook 16 = .ok (.bipush 20, 2) := by decide +kernel
theorem dX8_bestLook_18 : decode cX8_bestLook 18 = .ok (.if_icmp .gt 33, 3) := by decide +kernel
theorem dX8_bestLook_21 : decode cX8_bestLook 21 = .ok (.aload_n 0, 1) := by decide +kernel
theorem dX8_bestLook_22 : decode cX8_bestLook 22 = .ok (.iload_n 1, 1) := by decide +kernel
theorem dX8_bestLook_23 : decode cX8_bestLook 23 = .ok (.iload_n 2, 1) := by decide +kernel
theorem dX8_bestLook_24 : decode cX8_bestLook 24 = .ok (.iload 5, 2) := by decide +kernel
theorem dX8_bestLook_26 : decode cX8_bestLook 26 = .ok (.invokevirtual 35, 3) := by decide +kernel
theorem dX8_bestLook_29 : decode cX8_bestLook 29 = .ok (.istore 6, 2) := by decide +kernel
theorem dX8_bestLook_31 : decode cX8_bestLook 31 = .ok (.iload 6, 2) := by decide +kernel
theorem dX8_bestLook_33 : decode cX8_bestLook 33 = .ok (.iload 4, 2) := by decide +kernel
theorem dX8_bestLook_35 : decode cX8_bestLook 35 = .ok (.if_icmp .ge 10, 3) := by decide +kernel
theorem dX8_bestLook_38 : decode cX8_bestLook 38 = .ok (.iload 5, 2) := by decide +kernel
theorem dX8_bestLook_40 : decode cX8_bestLook 40 = .ok (.istore_n 3, 1) := by decide +kernel
theorem dX8_bestLook_41 : decode cX8_bestLook 41 = .ok (.iload 6, 2) := by decide +kernel
theorem dX8_bestLook_43 : decode cX8_bestLook 43 = .ok (.istore 4, 2) := by decide +kernel
theorem dX8_bestLook_45 : decode cX8_bestLook 45 = .ok (.iinc 5 1, 3) := by decide +kernel
theorem dX8_bestLook_48 : decode cX8_bestLook 48 = .ok (.goto (-34), 3) := by decide +kernel
theorem dX8_bestLook_51 : decode cX8_bestLook 51 = .ok (.iload_n 3, 1) := by decide +kernel
theorem dX8_bestLook_52 : decode cX8_bestLook 52 = .ok (.ireturn, 1) := by decide +kernel
theorem dX8_mostAlike_0 : decode cX8_mostAlike 0 = .ok (.aload_n 0, 1) := by decide +kernel
theorem dX8_mostAlike_1 : decode cX8_mostAlike 1 = .ok (.getfield 18, 3) := by decide +kernel
theorem dX8_mostAlike_4 : decode cX8_mostAlike 4 = .ok (.iconst 0, 1) := by decide +kernel
theorem dX8_mostAlike_5 : decode cX8_mostAlike 5 = .ok (.invokestatic 38, 3) := by decide +kernel
theorem dX8_mostAlike_8 : decode cX8_mostAlike 8 = .ok (.iconst 0, 1) := by decide +kernel
theorem dX8_mostAlike_9 : decode cX8_mostAlike 9 = .ok (.istore 4, 2) := by decide +kernel
theorem dX8_mostAlike_11 : decode cX8_mostAlike 11 = .ok (.iconst 0, 1) := by decide +kernel
theorem dX8_mostAlike_12 : decode cX8_mostAlike 12 = .ok (.istore 5, 2) := by decide +kernel
theorem dX8_mostAlike_14 : decode cX8_mostAlike 14 = .ok (.iload 5, 2) := by decide +kernel
theorem dX8_mostAlike_16 : decode cX8_mostAlike 16 = .ok (.bipush 20, 2) := by decide +kernel
theorem dX8_mostAlike_18 : decode cX8_mostAlike 18 = .ok (.if_icmp .gt 59, 3) := by decide +kernel
theorem dX8_mostAlike_21 : decode cX8_mostAlike 21 = .ok (.iload_n 2, 1) := by decide +kernel
theorem dX8_mostAlike_22 : decode cX8_mostAlike 22 = .ok (.iload 5, 2) := by decide +kernel
theorem dX8_mostAlike_24 : decode cX8_mostAlike 24 = .ok (.ishr, 1) := by decide +kernel
theorem dX8_mostAlike_25 : decode cX8_mostAlike 25 = .ok (.iconst 1, 1) := by decide +kernel
theorem dX8_mostAlike_26 : decode cX8_mostAlike 26 = .ok (.iand, 1) := by decide +kernel
theorem dX8_mostAlike_27 : decode cX8_mostAlike 27 = .ok (.iconst 1, 1) := by decide +kernel
theorem dX8_mostAlike_28 : decode cX8_mostAlike 28 = .ok (.if_icmp .ne 43, 3) := by decide +kernel
theorem dX8_mostAlike_31 : decode cX8_mostAlike 31 = .ok (.iload_n 1, 1) := by decide +kernel
theorem dX8_mostAlike_32 : decode cX8_mostAlike 32 = .ok (.iload 5, 2) := by decide +kernel
theorem dX8_mostAlike_34 : decode cX8_mostAlike 34 = .ok (.iload_n 3, 1) := by decide +kernel
theorem dX8_mostAlike_35 : decode cX8_mostAlike 35 = .ok (.invokestatic 29, 3) := by decide +kernel
theorem dX8_mostAlike_38 : decode cX8_mostAlike 38 = .ok (.invokestatic 44, 3) := by decide +kernel
theorem dX8_mostAlike_41 : decode cX8_mostAlike 41 = .ok (.bipush 40, 2) := by decide +kernel
theorem dX8_mostAlike_43 : decode cX8_mostAlike 43 = .ok (.iadd, 1) := by decide +kernel
theorem dX8_mostAlike_44 : decode cX8_mostAlike 44 = .ok (.istore 6, 2) := by decide +kernel
theorem dX8_mostAlike_46 : decode cX8_mostAlike 46 = .ok (.aload_n 0, 1) := by decide +kernel
theorem dX8_mostAlike_47 : decode cX8_mostAlike 47 = .ok (.getfield 18, 3) := by decide +kernel
theorem dX8_mostAlike_50 : decode cX8_mostAlike 50 = .ok (.iload 6, 2) := by decide +kernel
theorem dX8_mostAlike_52 : decode cX8_mostAlike 52 = .ok (.dup2, 1) := by decide +kernel
theorem dX8_mostAlike_53 : decode cX8_mostAlike 53 = .ok (.iaload, 1) := by decide +kernel
theorem dX8_mostAlike_54 : decode cX8_mostAlike 54 = .ok (.iconst 1, 1) := by decide +kernel
theorem dX8_mostAlike_55 : decode cX8_mostAlike 55 = .ok (.iadd, 1) := by decide +kernel
theorem dX8_mostAlike_56 : decode cX8_mostAlike 56 = .ok (.iastore, 1) := by decide +kernel
theorem dX8_mostAlike_57 : decode cX8_mostAlike 57 = .ok (.iload 4, 2) := by decide +kernel
theorem dX8_mostAlike_59 : decode cX8_mostAlike 59 = .ok (.aload_n 0, 1) := by decide +kernel
theorem dX8_mostAlike_60 : decode cX8_mostAlike 60 = .ok (.getfield 18, 3) := by decide +kernel
theorem dX8_mostAlike_63 : decode cX8_mostAlike 63 = .ok (.iload 6, 2) := by decide +kernel
theorem dX8_mostAlike_65 : decode cX8_mostAlike 65 = .ok (.iaload, 1) := by decide +kernel
theorem dX8_mostAlike_66 : decode cX8_mostAlike 66 = .ok (.invokestatic 48, 3) := by decide +kernel
theorem dX8_mostAlike_69 : decode cX8_mostAlike 69 = .ok (.istore 4, 2) := by decide +kernel
theorem dX8_mostAlike_71 : decode cX8_mostAlike 71 = .ok (.iinc 5 1, 3) := by decide +kernel
theorem dX8_mostAlike_74 : decode cX8_mostAlike 74 = .ok (.goto (-60), 3) := by decide +kernel
theorem dX8_mostAlike_77 : decode cX8_mostAlike 77 = .ok (.iload 4, 2) := by decide +kernel
theorem dX8_mostAlike_79 : decode cX8_mostAlike 79 = .ok (.ireturn, 1) := by decide +kernel
theorem dX9_init_0 : decode cX9_init 0 = .ok (.aload_n 0, 1) := by decide +kernel
theorem dX9_init_1 : decode cX9_init 1 = .ok (.invokespecial 3, 3) := by decide +kernel
theorem dX9_init_4 : decode cX9_init 4 = .ok (.aload_n 0, 1) := by decide +kernel
theorem dX9_init_5 : decode cX9_init 5 = .ok (.sipush 200, 3) := by decide +kernel
theorem dX9_init_8 : decode cX9_init 8 = .ok (.newarray .int, 2) := by decide +kernel
theorem dX9_init_10 : decode cX9_init 10 = .ok (.putfield 9, 3) := by decide +kernel
theorem dX9_init_13 : decode cX9_init 13 = .ok (.return_, 1) := by decide +kernel
theorem dX9_add_0 : decode cX9_add 0 = .ok (.aload_n 0, 1) := by decide +kernel
theorem dX9_add_1 : decode cX9_add 1 = .ok (.getfield 15, 3) := by decide +kernel
theorem dX9_add_4 : decode cX9_add 4 = .ok (.sipush 200, 3) := by decide +kernel
theorem dX9_add_7 : decode cX9_add 7 = .ok (.if_icmp .lt 5, 3) := by decide +kernel
theorem dX9_add_10 : decode cX9_add 10 = .ok (.iconst 0, 1) := by decide +kernel
theorem dX9_add_11 : decode cX9_add 11 = .ok (.ireturn, 1) := by decide +kernel
theorem dX9_add_12 : decode cX9_add 12 = .ok (.aload_n 0, 1) := by decide +kernel
theorem dX9_add_13 : decode cX9_add 13 = .ok (.getfield 9, 3) := by decide +kernel
theorem dX9_add_16 : decode cX9_add 16 = .ok (.aload_n 0, 1) := by decide +kernel
theorem dX9_add_17 : decode cX9_add 17 = .ok (.getfield 15, 3) := by decide +kernel
theorem dX9_add_20 : decode cX9_add 20 = .ok (.iload_n 1, 1) := by decide +kernel
theorem dX9_add_21 : decode cX9_add 21 = .ok (.iastore, 1) := by decide +kernel
theorem dX9_add_22 : decode cX9_add 22 = .ok (.aload_n 0, 1) := by decide +kernel
theorem dX9_add_23 : decode cX9_add 23 = .ok (.dup, 1) := by decide +kernel
theorem dX9_add_24 : decode cX9_add 24 = .ok (.getfield 15, 3) := by decide +kernel
theorem dX9_add_27 : decode cX9_add 27 = .ok (.iconst 1, 1) := by decide +kernel
theorem dX9_add_28 : decode cX9_add 28 = .ok (.iadd, 1) := by decide +kernel
theorem dX9_add_29 : decode cX9_add 29 = .ok (.putfield 15, 3) := by decide +kernel
theorem dX9_add_32 : decode cX9_add 32 = .ok (.iconst 1, 1) := by decide +kernel
theorem dX9_add_33 : decode cX9_add 33 = .ok (.ireturn, 1) := by decide +kernel
theorem dX9_letterAt_0 : decode cX9_letterAt 0 = .ok (.iload_n 1, 1) := by decide +kernel
theorem dX9_letterAt_1 : decode cX9_letterAt 1 = .ok (.aload_n 0, 1) := by decide +kernel
theorem dX9_letterAt_2 : decode cX9_letterAt 2 = .ok (.getfield 15, 3) := by decide +kernel
theorem dX9_letterAt_5 : decode cX9_letterAt 5 = .ok (.invokestatic 19, 3) := by decide +kernel
theorem dX9_letterAt_8 : decode cX9_letterAt 8 = .ok (.ifCond .eq 8, 3) := by decide +kernel
theorem dX9_letterAt_11 : decode cX9_letterAt 11 = .ok (.bipush (-4), 2) := by decide +kernel
theorem dX9_letterAt_13 : decode cX9_letterAt 13 = .ok (.goto 9, 3) := by decide +kernel
theorem dX9_letterAt_16 : decode cX9_letterAt 16 = .ok (.aload_n 0, 1) := by decide +kernel
theorem dX9_letterAt_17 : decode cX9_letterAt 17 = .ok (.getfield 9, 3) := by decide +kernel
theorem dX9_letterAt_20 : decode cX9_letterAt 20 = .ok (.iload_n 1, 1) := by decide +kernel
theorem dX9_letterAt_21 : decode cX9_letterAt 21 = .ok (.iaload, 1) := by decide +kernel
theorem dX9_letterAt_22 : decode cX9_letterAt 22 = .ok (.ireturn, 1) := by decide +kernel
theorem dX9_empty_0 : decode cX9_empty 0 = .ok (.aload_n 0, 1) := by decide +kernel
theorem dX9_empty_1 : decode cX9_empty 1 = .ok (.getfield 15, 3) := by decide +kernel
theorem dX9_empty_4 : decode cX9_empty 4 = .ok (.istore_n 1, 1) := by decide +kernel
theorem dX9_empty_5 : decode cX9_empty 5 = .ok (.aload_n 0, 1) := by decide +kernel
theorem dX9_empty_6 : decode cX9_empty 6 = .ok (.iconst 0, 1) := by decide +kernel
theorem dX9_empty_7 : decode cX9_empty 7 = .ok (.putfield 15, 3) := by decide +kernel
theorem dX9_empty_10 : decode cX9_empty 10 = .ok (.iload_n 1, 1) := by decide +kernel
theorem dX9_empty_11 : decode cX9_empty 11 = .ok (.ireturn, 1) := by decide +kernel
theorem dX10_init_0 : decode cX10_init 0 = .ok (.aload_n 0, 1) := by decide +kernel
theorem dX10_init_1 : decode cX10_init 1 = .ok (.invokespecial 3, 3) := by decide +kernel
theorem dX10_init_4 : decode cX10_init 4 = .ok (.aload_n 0, 1) := by decide +kernel
theorem dX10_init_5 : decode cX10_init 5 = .ok (.bipush 8, 2) := by decide +kernel
theorem dX10_init_7 : decode cX10_init 7 = .ok (.newarray .int, 2) := by decide +kernel
theorem dX10_init_9 : decode cX10_init 9 = .ok (.putfield 9, 3) := by decide +kernel
theorem dX10_init_12 : decode cX10_init 12 = .ok (.aload_n 0, 1) := by decide +kernel
theorem dX10_init_13 : decode cX10_init 13 = .ok (.bipush 8, 2) := by decide +kernel
theorem dX10_init_15 : decode cX10_init 15 = .ok (.newarray .int, 2) := by decide +kernel
theorem dX10_init_17 : decode cX10_init 17 = .ok (.putfield 15, 3) := by decide +kernel
theorem dX10_init_20 : decode cX10_init 20 = .ok (.aload_n 0, 1) := by decide +kernel
theorem dX10_init_21 : decode cX10_init 21 = .ok (.bipush 8, 2) := by decide +kernel
theorem dX10_init_23 : decode cX10_init 23 = .ok (.newarray .int, 2) := by decide +kernel
theorem dX10_init_25 : decode cX10_init 25 = .ok (.putfield 18, 3) := by decide +kernel
theorem dX10_init_28 : decode cX10_init 28 = .ok (.return_, 1) := by decide +kernel
theorem dX10_add_0 : decode cX10_add 0 = .ok (.aload_n 0, 1) := by decide +kernel
theorem dX10_add_1 : decode cX10_add 1 = .ok (.getfield 21, 3) := by decide +kernel
theorem dX10_add_4 : decode cX10_add 4 = .ok (.bipush 8, 2) := by decide +kernel
theorem dX10_add_6 : decode cX10_add 6 = .ok (.if_icmp .ge 43, 3) := by decide +kernel
theorem dX10_add_9 : decode cX10_add 9 = .ok (.aload_n 0, 1) := by decide +kernel
theorem dX10_add_10 : decode cX10_add 10 = .ok (.getfield 9, 3) := by decide +kernel
theorem dX10_add_13 : decode cX10_add 13 = .ok (.aload_n 0, 1) := by decide +kernel
theorem dX10_add_14 : decode cX10_add 14 = .ok (.getfield 21, 3) := by decide +kernel
theorem dX10_add_17 : decode cX10_add 17 = .ok (.iload_n 1, 1) := by decide +kernel
theorem dX10_add_18 : decode cX10_add 18 = .ok (.iastore, 1) := by decide +kernel
theorem dX10_add_19 : decode cX10_add 19 = .ok (.aload_n 0, 1) := by decide +kernel
theorem dX10_add_20 : decode cX10_add 20 = .ok (.getfield 15, 3) := by decide +kernel
theorem dX10_add_23 : decode cX10_add 23 = .ok (.aload_n 0, 1) := by decide +kernel
theorem dX10_add_24 : decode cX10_add 24 = .ok (.getfield 21, 3) := by decide +kernel
theorem dX10_add_27 : decode cX10_add 27 = .ok (.iload_n 2, 1) := by decide +kernel
theorem dX10_add_28 : decode cX10_add 28 = .ok (.iastore, 1) := by decide +kernel
theorem dX10_add_29 : decode cX10_add 29 = .ok (.aload_n 0, 1) := by decide +kernel
theorem dX10_add_30 : decode cX10_add 30 = .ok (.getfield 18, 3) := by decide +kernel
theorem dX10_add_33 : decode cX10_add 33 = .ok (.aload_n 0, 1) := by decide +kernel
theorem dX10_add_34 : decode cX10_add 34 = .ok (.getfield 21, 3) := by decide +kernel
theorem dX10_add_37 : decode cX10_add 37 = .ok (.iload_n 3, 1) := by decide +kernel
theorem dX10_add_38 : decode cX10_add 38 = .ok (.iastore, 1) := by decide +kernel
theorem dX10_add_39 : decode cX10_add 39 = .ok (.aload_n 0, 1) := by decide +kernel
theorem dX10_add_40 : decode cX10_add 40 = .ok (.dup, 1) := by decide +kernel
theorem dX10_add_41 : decode cX10_add 41 = .ok (.getfield 21, 3) := by decide +kernel
theorem dX10_add_44 : decode cX10_add 44 = .ok (.iconst 1, 1) := by decide +kernel
theorem dX10_add_45 : decode cX10_add 45 = .ok (.iadd, 1) := by decide +kernel
theorem dX10_add_46 : decode cX10_add 46 = .ok (.putfield 21, 3) := by decide +kernel
theorem dX10_add_49 : decode cX10_add 49 = .ok (.return_, 1) := by decide +kernel
theorem dX10_remove_0 : decode cX10_remove 0 = .ok (.iload_n 1, 1) := by decide +kernel
theorem dX10_remove_1 : decode cX10_remove 1 = .ok (.aload_n 0, 1) := by decide +kernel
theorem dX10_remove_2 : decode cX10_remove 2 = .ok (.getfield 21, 3) := by decide +kernel
theorem dX10_remove_5 : decode cX10_remove 5 = .ok (.invokestatic 25, 3) := by decide +kernel
theorem dX10_remove_8 : decode cX10_remove 8 = .ok (.ifCond .eq 4, 3) := by decide +kernel
theorem dX10_remove_11 : decode cX10_remove 11 = .ok (.return_, 1) := by decide +kernel
theorem dX10_remove_12 : decode cX10_remove 12 = .ok (.iload_n 1, 1) := by decide +kernel
theorem dX10_remove_13 : decode cX10_remove 13 = .ok (.istore_n 2, 1) := by decide +kernel
theorem dX10_remove_14 : decode cX10_remove 14 = .ok (.iload_n 2, 1) := by decide +kernel
theorem dX10_remove_15 : decode cX10_remove 15 = .ok (.aload_n 0, 1) := by decide +kernel
theorem dX10_remove_16 : decode cX10_remove 16 = .ok (.getfield 21, 3) := by decide +kernel
theorem dX10_remove_19 : decode cX10_remove 19 = .ok (.iconst 1, 1) := by decide +kernel
theorem dX10_remove_20 : decode cX10_remove 20 = .ok (.isub, 1) := by decide +kernel
theorem dX10_remove_21 : decode cX10_remove 21 = .ok (.if_icmp .ge 51, 3) := by decide +kernel
theorem dX10_remove_24 : decode cX10_remove 24 = .ok (.aload_n 0, 1) := by decide +kernel
theorem dX10_remove_25 : decode cX10_remove 25 = .ok (.getfield 9, 3) := by decide +kernel
theorem dX10_remove_28 : decode cX10_remove 28 = .ok (.iload_n 2, 1) := by decide +kernel
theorem dX10_remove_29 : decode cX10_remove 29 = .ok (.aload_n 0, 1) := by decide +kernel
theorem dX10_remove_30 : decode cX10_remove 30 = .ok (.getfield 9, 3) := by decide +kernel
theorem dX10_remove_33 : decode cX10_remove 33 = .ok (.iload_n 2, 1) := by decide +kernel
theorem dX10_remove_34 : decode cX10_remove 34 = .ok (.iconst 1, 1) := by decide +kernel
theorem dX10_remove_35 : decode cX10_remove 35 = .ok (.iadd, 1) := by decide +kernel
theorem dX10_remove_36 : decode cX10_remove 36 = .ok (.iaload, 1) := by decide +kernel
theorem dX10_remove_37 : decode cX10_remove 37 = .ok (.iastore, 1) := by decide +kernel
theorem dX10_remove_38 : decode cX10_remove 38 = .ok (.aload_n 0, 1) := by decide +kernel
theorem dX10_remove_39 : decode cX10_remove 39 = .ok (.getfield 15, 3) := by decide +kernel
theorem dX10_remove_42 : decode cX10_remove 42 = .ok (.iload_n 2, 1) := by decide +kernel
theorem dX10_remove_43 : decode cX10_remove 43 = .ok (.aload_n 0, 1) := by decide +kernel
theorem dX10_remove_44 : decode cX10_remove 44 = .ok (.getfield 15, 3) := by decide +kernel
theorem dX10_remove_47 : decode cX10_remove 47 = .ok (.iload_n 2, 1) := by decide +kernel
theorem dX10_remove_48 : decode cX10_remove 48 = .ok (.iconst 1, 1) := by decide +kernel
theorem dX10_remove_49 : decode cX10_remove 49 = .ok (.iadd, 1) := by decide +kernel
theorem dX10_remove_50 : decode cX10_remove 50 = .ok (.iaload, 1) := by decide +kernel
theorem dX10_remove_51 : decode cX10_remove 51 = .ok (.iastore, 1) := by decide +kernel
theorem dX10_remove_52 : decode cX10_remove 52 = .ok (.aload_n 0, 1) := by decide +kernel
theorem dX10_remove_53 : decode cX10_remove 53 = .ok (.getfield 18, 3) := by decide +kernel
theorem dX10_remove_56 : decode cX10_remove 56 = .ok (.iload_n 2, 1) := by decide +kernel
theorem dX10_remove_57 : decode cX10_remove 57 = .ok (.aload_n 0, 1) := by decide +kernel
theorem dX10_remove_58 : decode cX10_remove 58 = .ok (.getfield 18, 3) := by decide +kernel
theorem dX10_remove_61 : decode cX10_remove 61 = .ok (.iload_n 2, 1) := by decide +kernel
theorem dX10_remove_62 : decode cX10_remove 62 = .ok (.iconst 1, 1) := by decide +kernel
theorem dX10_remove_63 : decode cX10_remove 63 = .ok (.iadd, 1) := by decide +kernel
theorem dX10_remove_64 : decode cX10_remove 64 = .ok (.iaload, 1) := by decide +kernel
theorem dX10_remove_65 : decode cX10_remove 65 = .ok (.iastore, 1) := by decide +kernel
theorem dX10_remove_66 : decode cX10_remove 66 = .ok (.iinc 2 1, 3) := by decide +kernel
theorem dX10_remove_69 : decode cX10_remove 69 = .ok (.goto (-55), 3) := by decide +kernel
theorem dX10_remove_72 : decode cX10_remove 72 = .ok (.aload_n 0, 1) := by decide +kernel
theorem dX10_remove_73 : decode cX10_remove 73 = .ok (.dup, 1) := by decide +kernel
theorem dX10_remove_74 : decode cX10_remove 74 = .ok (.getfield 21, 3) := by decide +kernel
theorem dX10_remove_77 : decode cX10_remove 77 = .ok (.iconst 1, 1) := by decide +kernel
theorem dX10_remove_78 : decode cX10_remove 78 = .ok (.isub, 1) := by decide +kernel
theorem dX10_remove_79 : decode cX10_remove 79 = .ok (.putfield 21, 3) := by decide +kernel
theorem dX10_remove_82 : decode cX10_remove 82 = .ok (.return_, 1) := by decide +kernel
theorem dX10_copy_0 : decode cX10_copy 0 = .ok (.aload_n 0, 1) := by decide +kernel
theorem dX10_copy_1 : decode cX10_copy 1 = .ok (.iconst 0, 1) := by decide +kernel
theorem dX10_copy_2 : decode cX10_copy 2 = .ok (.putfield 21, 3) := by decide +kernel
theorem dX10_copy_5 : decode cX10_copy 5 = .ok (.iconst 0, 1) := by decide +kernel
theorem dX10_copy_6 : decode cX10_copy 6 = .ok (.istore_n 2, 1) := by decide +kernel
theorem dX10_copy_7 : decode cX10_copy 7 = .ok (.iload_n 2, 1) := by decide +kernel
theorem dX10_copy_8 : decode cX10_copy 8 = .ok (.aload_n 1, 1) := by decide +kernel
theorem dX10_copy_9 : decode cX10_copy 9 = .ok (.getfield 21, 3) := by decide +kernel
theorem dX10_copy_12 : decode cX10_copy 12 = .ok (.if_icmp .ge 31, 3) := by decide +kernel
theorem dX10_copy_15 : decode cX10_copy 15 = .ok (.aload_n 0, 1) := by decide +kernel
theorem dX10_copy_16 : decode cX10_copy 16 = .ok (.aload_n 1, 1) := by decide +kernel
theorem dX10_copy_17 : decode cX10_copy 17 = .ok (.getfield 9, 3) := by decide +kernel
theorem dX10_copy_20 : decode cX10_copy 20 = .ok (.iload_n 2, 1) := by decide +kernel
theorem dX10_copy_21 : decode cX10_copy 21 = .ok (.iaload, 1) := by decide +kernel
theorem dX10_copy_22 : decode cX10_copy 22 = .ok (.aload_n 1, 1) := by decide +kernel
theorem dX10_copy_23 : decode cX10_copy 23 = .ok (.getfield 15, 3) := by decide +kernel
theorem dX10_copy_26 : decode cX10_copy 26 = .ok (.iload_n 2, 1) := by decide +kernel
theorem dX10_copy_27 : decode cX10_copy 27 = .ok (.iaload, 1) := by decide +kernel
theorem dX10_copy_28 : decode cX10_copy 28 = .ok (.aload_n 1, 1) := by decide +kernel
theorem dX10_copy_29 : decode cX10_copy 29 = .ok (.getfield 18, 3) := by decide +kernel
theorem dX10_copy_32 : decode cX10_copy 32 = .ok (.iload_n 2, 1) := by decide +kernel
theorem dX10_copy_33 : decode cX10_copy 33 = .ok (.iaload, 1) := by decide +kernel
theorem dX10_copy_34 : decode cX10_copy 34 = .ok (.invokevirtual 29, 3) := by decide +kernel
theorem dX10_copy_37 : decode cX10_copy 37 = .ok (.iinc 2 1, 3) := by decide +kernel
theorem dX10_copy_40 : decode cX10_copy 40 = .ok (.goto (-33), 3) := by decide +kernel
theorem dX10_copy_43 : decode cX10_copy 43 = .ok (.return_, 1) := by decide +kernel
theorem dX10_turnAll_0 : decode cX10_turnAll 0 = .ok (.iconst 0, 1) := by decide +kernel
theorem dX10_turnAll_1 : decode cX10_turnAll 1 = .ok (.istore_n 3, 1) := by decide +kernel
theorem dX10_turnAll_2 : decode cX10_turnAll 2 = .ok (.iload_n 3, 1) := by decide +kernel
theorem dX10_turnAll_3 : decode cX10_turnAll 3 = .ok (.aload_n 0, 1) := by decide +kernel
theorem dX10_turnAll_4 : decode cX10_turnAll 4 = .ok (.getfield 21, 3) := by decide +kernel
theorem dX10_turnAll_7 : decode cX10_turnAll 7 = .ok (.if_icmp .ge 45, 3) := by decide +kernel
theorem dX10_turnAll_10 : decode cX10_turnAll 10 = .ok (.aload_n 0, 1) := by decide +kernel
theorem dX10_turnAll_11 : decode cX10_turnAll 11 = .ok (.getfield 9, 3) := by decide +kernel
theorem dX10_turnAll_14 : decode cX10_turnAll 14 = .ok (.iload_n 3, 1) := by decide +kernel
theorem dX10_turnAll_15 : decode cX10_turnAll 15 = .ok (.iaload, 1) := by decide +kernel
theorem dX10_turnAll_16 : decode cX10_turnAll 16 = .ok (.iload_n 1, 1) := by decide +kernel
theorem dX10_turnAll_17 : decode cX10_turnAll 17 = .ok (.if_icmp .ne 29, 3) := by decide +kernel
theorem dX10_turnAll_20 : decode cX10_turnAll 20 = .ok (.aload_n 2, 1) := by decide +kernel
theorem dX10_turnAll_21 : decode cX10_turnAll 21 = .ok (.aload_n 0, 1) := by decide +kernel
theorem dX10_turnAll_22 : decode cX10_turnAll 22 = .ok (.getfield 15, 3) := by decide +kernel
theorem dX10_turnAll_25 : decode cX10_turnAll 25 = .ok (.iload_n 3, 1) := by decide +kernel
theorem dX10_turnAll_26 : decode cX10_turnAll 26 = .ok (.iaload, 1) := by decide +kernel
theorem dX10_turnAll_27 : decode cX10_turnAll 27 = .ok (.aload_n 2, 1) := by decide +kernel
theorem dX10_turnAll_28 : decode cX10_turnAll 28 = .ok (.aload_n 0, 1) := by decide +kernel
theorem dX10_turnAll_29 : decode cX10_turnAll 29 = .ok (.getfield 15, 3) := by decide +kernel
theorem dX10_turnAll_32 : decode cX10_turnAll 32 = .ok (.iload_n 3, 1) := by decide +kernel
theorem dX10_turnAll_33 : decode cX10_turnAll 33 = .ok (.iaload, 1) := by decide +kernel
theorem dX10_turnAll_34 : decode cX10_turnAll 34 = .ok (.iaload, 1) := by decide +kernel
theorem dX10_turnAll_35 : decode cX10_turnAll 35 = .ok (.aload_n 0, 1) := by decide +kernel
theorem dX10_turnAll_36 : decode cX10_turnAll 36 = .ok (.getfield 18, 3) := by decide +kernel
theorem dX10_turnAll_39 : decode cX10_turnAll 39 = .ok (.iload_n 3, 1) := by decide +kernel
theorem dX10_turnAll_40 : decode cX10_turnAll 40 = .ok (.iaload, 1) := by decide +kernel
theorem dX10_turnAll_41 : decode cX10_turnAll 41 = .ok (.iadd, 1) := by decide +kernel
theorem dX10_turnAll_42 : decode cX10_turnAll 42 = .ok (.invokestatic 33, 3) := by decide +kernel
theorem dX10_turnAll_45 : decode cX10_turnAll 45 = .ok (.iastore, 1) := by decide +kernel
theorem dX10_turnAll_46 : decode cX10_turnAll 46 = .ok (.iinc 3 1, 3) := by decide +kernel
theorem dX10_turnAll_49 : decode cX10_turnAll 49 = .ok (.goto (-47), 3) := by decide +kernel
theorem dX10_turnAll_52 : decode cX10_turnAll 52 = .ok (.return_, 1) := by decide +kernel
theorem dX11_init_0 : decode cX11_init 0 = .ok (.aload_n 0, 1) := by decide +kernel
theorem dX11_init_1 : decode cX11_init 1 = .ok (.invokespecial 1, 3) := by decide +kernel
theorem dX11_init_4 : decode cX11_init 4 = .ok (.aload_n 0, 1) := by decide +kernel
theorem dX11_init_5 : decode cX11_init 5 = .ok (.new 7, 3) := by decide +kernel
theorem dX11_init_8 : decode cX11_init 8 = .ok (.dup, 1) := by decide +kernel
theorem dX11_init_9 : decode cX11_init 9 = .ok (.invokespecial 9, 3) := by decide +kernel
theorem dX11_init_12 : decode cX11_init 12 = .ok (.putfield 10, 3) := by decide +kernel
theorem dX11_init_15 : decode cX11_init 15 = .ok (.aload_n 0, 1) := by decide +kernel
theorem dX11_init_16 : decode cX11_init 16 = .ok (.new 16, 3) := by decide +kernel
theorem dX11_init_19 : decode cX11_init 19 = .ok (.dup, 1) := by decide +kernel
theorem dX11_init_20 : decode cX11_init 20 = .ok (.invokespecial 18, 3) := by decide +kernel
theorem dX11_init_23 : decode cX11_init 23 = .ok (.putfield 19, 3) := by decide +kernel
theorem dX11_init_26 : decode cX11_init 26 = .ok (.aload_n 0, 1) := by decide +kernel
theorem dX11_init_27 : decode cX11_init 27 = .ok (.new 23, 3) := by decide +kernel
theorem dX11_init_30 : decode cX11_init 30 = .ok (.dup, 1) := by decide +kernel
theorem dX11_init_31 : decode cX11_init 31 = .ok (.invokespecial 25, 3) := by decide +kernel
theorem dX11_init_34 : decode cX11_init 34 = .ok (.putfield 26, 3) := by decide +kernel
theorem dX11_init_37 : decode cX11_init 37 = .ok (.aload_n 0, 1) := by decide +kernel
theorem dX11_init_38 : decode cX11_init 38 = .ok (.new 30, 3) := by decide +kernel
theorem dX11_init_41 : decode cX11_init 41 = .ok (.dup, 1) := by decide +kernel
theorem dX11_init_42 : decode cX11_init 42 = .ok (.bipush 8, 2) := by decide +kernel
theorem dX11_init_44 : decode cX11_init 44 = .ok (.invokespecial 32, 3) := by decide +kernel
theorem dX11_init_47 : decode cX11_init 47 = .ok (.putfield 35, 3) := by decide +kernel
theorem dX11_init_50 : decode cX11_init 50 = .ok (.aload_n 0, 1) := by decide +kernel
theorem dX11_init_51 : decode cX11_init 51 = .ok (.new 30, 3) := by decide +kernel
theorem dX11_init_54 : decode cX11_init 54 = .ok (.dup, 1) := by decide +kernel
theorem dX11_init_55 : decode cX11_init 55 = .ok (.iconst 2, 1) := by decide +kernel
theorem dX11_init_56 : decode cX11_init 56 = .ok (.invokespecial 32, 3) := by decide +kernel
theorem dX11_init_59 : decode cX11_init 59 = .ok (.putfield 39, 3) := by decide +kernel
theorem dX11_init_62 : decode cX11_init 62 = .ok (.aload_n 0, 1) := by decide +kernel
theorem dX11_init_63 : decode cX11_init 63 = .ok (.new 42, 3) := by decide +kernel
theorem dX11_init_66 : decode cX11_init 66 = .ok (.dup, 1) := by decide +kernel
theorem dX11_init_67 : decode cX11_init 67 = .ok (.invokespecial 44, 3) := by decide +kernel
theorem dX11_init_70 : decode cX11_init 70 = .ok (.putfield 45, 3) := by decide +kernel
theorem dX11_init_73 : decode cX11_init 73 = .ok (.aload_n 0, 1) := by decide +kernel
theorem dX11_init_74 : decode cX11_init 74 = .ok (.new 49, 3) := by decide +kernel
theorem dX11_init_77 : decode cX11_init 77 = .ok (.dup, 1) := by decide +kernel
theorem dX11_init_78 : decode cX11_init 78 = .ok (.invokespecial 51, 3) := by decide +kernel
theorem dX11_init_81 : decode cX11_init 81 = .ok (.putfield 52, 3) := by decide +kernel
theorem dX11_init_84 : decode cX11_init 84 = .ok (.aload_n 0, 1) := by decide +kernel
theorem dX11_init_85 : decode cX11_init 85 = .ok (.new 56, 3) := by decide +kernel
theorem dX11_init_88 : decode cX11_init 88 = .ok (.dup, 1) := by decide +kernel
theorem dX11_init_89 : decode cX11_init 89 = .ok (.invokespecial 58, 3) := by decide +kernel
theorem dX11_init_92 : decode cX11_init 92 = .ok (.putfield 59, 3) := by decide +kernel
theorem dX11_init_95 : decode cX11_init 95 = .ok (.aload_n 0, 1) := by decide +kernel
theorem dX11_init_96 : decode cX11_init 96 = .ok (.new 63, 3) := by decide +kernel
theorem dX11_init_99 : decode cX11_init 99 = .ok (.dup, 1) := by decide +kernel
theorem dX11_init_100 : decode cX11_init 100 = .ok (.invokespecial 65, 3) := by decide +kernel
theorem dX11_init_103 : decode cX11_init 103 = .ok (.putfield 66, 3) := by decide +kernel
theorem dX11_init_106 : decode cX11_init 106 = .ok (.aload_n 0, 1) := by decide +kernel
theorem dX11_init_107 : decode cX11_init 107 = .ok (.new 70, 3) := by decide +kernel
theorem dX11_init_110 : decode cX11_init 110 = .ok (.dup, 1) := by decide +kernel
theorem dX11_init_111 : decode cX11_init 111 = .ok (.invokespecial 72, 3) := by decide +kernel
theorem dX11_init_114 : decode cX11_init 114 = .ok (.putfield 73, 3) := by decide +kernel
theorem dX11_init_117 : decode cX11_init 117 = .ok (.aload_n 0, 1) := by decide +kernel
theorem dX11_init_118 : decode cX11_init 118 = .ok (.new 77, 3) := by decide +kernel
theorem dX11_init_121 : decode cX11_init 121 = .ok (.dup, 1) := by decide +kernel
theorem dX11_init_122 : decode cX11_init 122 = .ok (.invokespecial 79, 3) := by decide +kernel
theorem dX11_init_125 : decode cX11_init 125 = .ok (.putfield 80, 3) := by decide +kernel
theorem dX11_init_128 : decode cX11_init 128 = .ok (.aload_n 0, 1) := by decide +kernel
theorem dX11_init_129 : decode cX11_init 129 = .ok (.new 77, 3) := by decide +kernel
theorem dX11_init_132 : decode cX11_init 132 = .ok (.dup, 1) := by decide +kernel
theorem dX11_init_133 : decode cX11_init 133 = .ok (.invokespecial 79, 3) := by decide +kernel
theorem dX11_init_136 : decode cX11_init 136 = .ok (.putfield 84, 3) := by decide +kernel
theorem dX11_init_139 : decode cX11_init 139 = .ok (.iconst 0, 1) := by decide +kernel
theorem dX11_init_140 : decode cX11_init 140 = .ok (.istore_n 1, 1) := by decide +kernel
theorem dX11_init_141 : decode cX11_init 141 = .ok (.iload_n 1, 1) := by decide +kernel
theorem dX11_init_142 : decode cX11_init 142 = .ok (.ldc 87, 2) := by decide +kernel
theorem dX11_init_144 : decode cX11_init 144 = .ok (.invokevirtual 89, 3) := by decide +kernel
theorem dX11_init_147 : decode cX11_init 147 = .ok (.if_icmp .ge 23, 3) := by decide +kernel
theorem dX11_init_150 : decode cX11_init 150 = .ok (.aload_n 0, 1) := by decide +kernel
theorem dX11_init_151 : decode cX11_init 151 = .ok (.getfield 10, 3) := by decide +kernel
theorem dX11_init_154 : decode cX11_init 154 = .ok (.ldc 87, 2) := by decide +kernel
theorem dX11_init_156 : decode cX11_init 156 = .ok (.iload_n 1, 1) := by decide +kernel
theorem dX11_init_157 : decode cX11_init 157 = .ok (.invokevirtual 95, 3) := by decide +kernel
theorem dX11_init_160 : decode cX11_init 160 = .ok (.invokevirtual 99, 3) := by decide +kernel
theorem dX11_init_163 : decode cX11_init 163 = .ok (.pop, 1) := by decide +kernel
theorem dX11_init_164 : decode cX11_init 164 = .ok (.iinc 1 1, 3) := by decide +kernel
theorem dX11_init_167 : decode cX11_init 167 = .ok (.goto (-26), 3) := by decide +kernel
theorem dX11_init_170 : decode cX11_init 170 = .ok (.aload_n 0, 1) := by decide +kernel
theorem dX11_init_171 : decode cX11_init 171 = .ok (.getfield 19, 3) := by decide +kernel
theorem dX11_init_174 : decode cX11_init 174 = .ok (.aload_n 0, 1) := by decide +kernel
theorem dX11_init_175 : decode cX11_init 175 = .ok (.getfield 10, 3) := by decide +kernel
theorem dX11_init_178 : decode cX11_init 178 = .ok (.aload_n 0, 1) := by decide +kernel
theorem dX11_init_179 : decode cX11_init 179 = .ok (.getfield 84, 3) := by decide +kernel
theorem dX11_init_182 : decode cX11_init 182 = .ok (.invokevirtual 103, 3) := by decide +kernel
theorem dX11_init_185 : decode cX11_init 185 = .ok (.pop, 1) := by decide +kernel
theorem dX11_init_186 : decode cX11_init 186 = .ok (.aload_n 0, 1) := by decide +kernel
theorem dX11_init_187 : decode cX11_init 187 = .ok (.invokevirtual 107, 3) := by decide +kernel
theorem dX11_init_190 : decode cX11_init 190 = .ok (.aload_n 0, 1) := by decide +kernel
theorem dX11_init_191 : decode cX11_init 191 = .ok (.getfield 10, 3) := by decide +kernel
theorem dX11_init_194 : decode cX11_init 194 = .ok (.invokevirtual 110, 3) := by decide +kernel
theorem dX11_init_197 : decode cX11_init 197 = .ok (.pop, 1) := by decide +kernel
theorem dX11_init_198 : decode cX11_init 198 = .ok (.return_, 1) := by decide +kernel
theorem dX11_write_0 : decode cX11_write 0 = .ok (.iload_n 1, 1) := by decide +kernel
theorem dX11_write_1 : decode cX11_write 1 = .ok (.bipush 32, 2) := by decide +kernel
theorem dX11_write_3 : decode cX11_write 3 = .ok (.if_icmp .lt 9, 3) := by decide +kernel
theorem dX11_write_6 : decode cX11_write 6 = .ok (.iload_n 1, 1) := by decide +kernel
theorem dX11_write_7 : decode cX11_write 7 = .ok (.bipush 126, 2) := by decide +kernel
theorem dX11_write_9 : decode cX11_write 9 = .ok (.if_icmp .le 5, 3) := by decide +kernel
theorem dX11_write_12 : decode cX11_write 12 = .ok (.iconst (-1), 1) := by decide +kernel
theorem dX11_write_13 : decode cX11_write 13 = .ok (.ireturn, 1) := by decide +kernel
theorem dX11_write_14 : decode cX11_write 14 = .ok (.aload_n 0, 1) := by decide +kernel
theorem dX11_write_15 : decode cX11_write 15 = .ok (.getfield 10, 3) := by decide +kernel
theorem dX11_write_18 : decode cX11_write 18 = .ok (.iload_n 1, 1) := by decide +kernel
theorem dX11_write_19 : decode cX11_write 19 = .ok (.invokevirtual 99, 3) := by decide +kernel
theorem dX11_write_22 : decode cX11_write 22 = .ok (.ifCond .eq 13, 3) := by decide +kernel
theorem dX11_write_25 : decode cX11_write 25 = .ok (.aload_n 0, 1) := by decide +kernel
theorem dX11_write_26 : decode cX11_write 26 = .ok (.getfield 10, 3) := by decide +kernel
theorem dX11_write_29 : decode cX11_write 29 = .ok (.getfield 113, 3) := by decide +kernel
theorem dX11_write_32 : decode cX11_write 32 = .ok (.goto 5, 3) := by decide +kernel
theorem dX11_write_35 : decode cX11_write 35 = .ok (.bipush (-3), 2) := by decide +kernel
theorem dX11_write_37 : decode cX11_write 37 = .ok (.ireturn, 1) := by decide +kernel
theorem dX11_wipe_0 : decode cX11_wipe 0 = .ok (.aload_n 0, 1) := by decide +kernel
theorem dX11_wipe_1 : decode cX11_wipe 1 = .ok (.getfield 10, 3) := by decide +kernel
theorem dX11_wipe_4 : decode cX11_wipe 4 = .ok (.invokevirtual 110, 3) := by decide +kernel
theorem dX11_wipe_7 : decode cX11_wipe 7 = .ok (.ireturn, 1) := by decide +kernel
theorem dX11_fault_0 : decode cX11_fault 0 = .ok (.aload_n 0, 1) := by decide +kernel
theorem dX11_fault_1 : decode cX11_fault 1 = .ok (.getfield 19, 3) := by decide +kernel
theorem dX11_fault_4 : decode cX11_fault 4 = .ok (.aload_n 0, 1) := by decide +kernel
theorem dX11_fault_5 : decode cX11_fault 5 = .ok (.getfield 10, 3) := by decide +kernel
theorem dX11_fault_8 : decode cX11_fault 8 = .ok (.aload_n 0, 1) := by decide +kernel
theorem dX11_fault_9 : decode cX11_fault 9 = .ok (.getfield 84, 3) := by decide +kernel
theorem dX11_fault_12 : decode cX11_fault 12 = .ok (.invokevirtual 103, 3) := by decide +kernel
theorem dX11_fault_15 : decode cX11_fault 15 = .ok (.ireturn, 1) := by decide +kernel
theorem dX11_lay_0 : decode cX11_lay 0 = .ok (.aload_n 0, 1) := by decide +kernel
theorem dX11_lay_1 : decode cX11_lay 1 = .ok (.getfield 19, 3) := by decide +kernel
theorem dX11_lay_4 : decode cX11_lay 4 = .ok (.aload_n 0, 1) := by decide +kernel
theorem dX11_lay_5 : decode cX11_lay 5 = .ok (.getfield 10, 3) := by decide +kernel
theorem dX11_lay_8 : decode cX11_lay 8 = .ok (.aload_n 0, 1) := by decide +kernel
theorem dX11_lay_9 : decode cX11_lay 9 = .ok (.getfield 84, 3) := by decide +kernel
theorem dX11_lay_12 : decode cX11_lay 12 = .ok (.invokevirtual 103, 3) := by decide +kernel
theorem dX11_lay_15 : decode cX11_lay 15 = .ok (.bipush (-4), 2) := by decide +kernel
theorem dX11_lay_17 : decode cX11_lay 17 = .ok (.if_icmp .ne 13, 3) := by decide +kernel
theorem dX11_lay_20 : decode cX11_lay 20 = .ok (.aload_n 0, 1) := by decide +kernel
theorem dX11_lay_21 : decode cX11_lay 21 = .ok (.getfield 84, 3) := by decide +kernel
theorem dX11_lay_24 : decode cX11_lay 24 = .ok (.getfield 116, 3) := by decide +kernel
theorem dX11_lay_27 : decode cX11_lay 27 = .ok (.ifCond .ne 6, 3) := by decide +kernel
theorem dX11_lay_30 : decode cX11_lay 30 = .ok (.bipush (-2), 2) := by decide +kernel
theorem dX11_lay_32 : decode cX11_lay 32 = .ok (.ireturn, 1) := by decide +kernel
theorem dX11_lay_33 : decode cX11_lay 33 = .ok (.aload_n 0, 1) := by decide +kernel
theorem dX11_lay_34 : decode cX11_lay 34 = .ok (.invokevirtual 107, 3) := by decide +kernel
theorem dX11_lay_37 : decode cX11_lay 37 = .ok (.aload_n 0, 1) := by decide +kernel
theorem dX11_lay_38 : decode cX11_lay 38 = .ok (.getfield 80, 3) := by decide +kernel
theorem dX11_lay_41 : decode cX11_lay 41 = .ok (.getfield 116, 3) := by decide +kernel
theorem dX11_lay_44 : decode cX11_lay 44 = .ok (.ireturn, 1) := by decide +kernel
theorem dX11_frame_0 : decode cX11_frame 0 = .ok (.iload_n 1, 1) := by decide +kernel
theorem dX11_frame_1 : decode cX11_frame 1 = .ok (.aload_n 0, 1) := by decide +kernel
theorem dX11_frame_2 : decode cX11_frame 2 = .ok (.getfield 80, 3) := by decide +kernel
theorem dX11_frame_5 : decode cX11_frame 5 = .ok (.getfield 116, 3) := by decide +kernel
theorem dX11_frame_8 : decode cX11_frame 8 = .ok (.invokestatic 119, 3) := by decide +kernel
theorem dX11_frame_11 : decode cX11_frame 11 = .ok (.ifCond .eq 5, 3) := by decide +kernel
theorem dX11_frame_14 : decode cX11_frame 14 = .ok (.iconst (-1), 1) := by decide +kernel
theorem dX11_frame_15 : decode cX11_frame 15 = .ok (.ireturn, 1) := by decide +kernel
theorem dX11_frame_16 : decode cX11_frame 16 = .ok (.iload_n 2, 1) := by decide +kernel
end
section
theorem dX11_frame_17 : decode cX11_frame 17 = .ok (.tableswitch 79 0 3 #[31, 41, 54, 66], 31) := by decide +kernel
theorem dX11_frame_48 : decode cX11_frame 48 = .ok (.aload_n 0, 1) := by decide +kernel
theorem dX11_frame_49 : decode cX11_frame 49 = .ok (.getfield 80, 3) := by decide +kernel
theorem dX11_frame_52 : decode cX11_frame 52 = .ok (.getfield 123, 3) := by decide +kernel
theorem dX11_frame_55 : decode cX11_frame 55 = .ok (.iload_n 1, 1) := by decide +kernel
theorem dX11_frame_56 : decode cX11_frame 56 = .ok (.iaload, 1) := by decide +kernel
theorem dX11_frame_57 : decode cX11_frame 57 = .ok (.ireturn, 1) := by decide +kernel
theorem dX11_frame_58 : decode cX11_frame 58 = .ok (.aload_n 0, 1) := by decide +kernel
theorem dX11_frame_59 : decode cX11_frame 59 = .ok (.getfield 80, 3) := by decide +kernel
theorem dX11_frame_62 : decode cX11_frame 62 = .ok (.getfield 127, 3) := by decide +kernel
theorem dX11_frame_65 : decode cX11_frame 65 = .ok (.iload_n 1, 1) := by decide +kernel
theorem dX11_frame_66 : decode cX11_frame 66 = .ok (.iaload, 1) := by decide +kernel
theorem dX11_frame_67 : decode cX11_frame 67 = .ok (.bipush 40, 2) := by decide +kernel
theorem dX11_frame_69 : decode cX11_frame 69 = .ok (.iadd, 1) := by decide +kernel
theorem dX11_frame_70 : decode cX11_frame 70 = .ok (.ireturn, 1) := by decide +kernel
theorem dX11_frame_71 : decode cX11_frame 71 = .ok (.aload_n 0, 1) := by decide +kernel
theorem dX11_frame_72 : decode cX11_frame 72 = .ok (.getfield 80, 3) := by decide +kernel
theorem dX11_frame_75 : decode cX11_frame 75 = .ok (.getfield 130, 3) := by decide +kernel
theorem dX11_frame_78 : decode cX11_frame 78 = .ok (.iload_n 1, 1) := by decide +kernel
theorem dX11_frame_79 : decode cX11_frame 79 = .ok (.iaload, 1) := by decide +kernel
theorem dX11_frame_80 : decode cX11_frame 80 = .ok (.iconst 5, 1) := by decide +kernel
theorem dX11_frame_81 : decode cX11_frame 81 = .ok (.iadd, 1) := by decide +kernel
theorem dX11_frame_82 : decode cX11_frame 82 = .ok (.ireturn, 1) := by decide +kernel
theorem dX11_frame_83 : decode cX11_frame 83 = .ok (.aload_n 0, 1) := by decide +kernel
theorem dX11_frame_84 : decode cX11_frame 84 = .ok (.getfield 80, 3) := by decide +kernel
theorem dX11_frame_87 : decode cX11_frame 87 = .ok (.getfield 133, 3) := by decide +kernel
theorem dX11_frame_90 : decode cX11_frame 90 = .ok (.iload_n 1, 1) := by decide +kernel
theorem dX11_frame_91 : decode cX11_frame 91 = .ok (.iaload, 1) := by decide +kernel
theorem dX11_frame_92 : decode cX11_frame 92 = .ok (.bipush 40, 2) := by decide +kernel
theorem dX11_frame_94 : decode cX11_frame 94 = .ok (.iadd, 1) := by decide +kernel
theorem dX11_frame_95 : decode cX11_frame 95 = .ok (.ireturn, 1) := by decide +kernel
theorem dX11_frame_96 : decode cX11_frame 96 = .ok (.iconst (-1), 1) := by decide +kernel
theorem dX11_frame_97 : decode cX11_frame 97 = .ok (.ireturn, 1) := by decide +kernel
theorem dX11_person_0 : decode cX11_person 0 = .ok (.iload_n 1, 1) := by decide +kernel
theorem dX11_person_1 : decode cX11_person 1 = .ok (.aload_n 0, 1) := by decide +kernel
theorem dX11_person_2 : decode cX11_person 2 = .ok (.getfield 80, 3) := by decide +kernel
theorem dX11_person_5 : decode cX11_person 5 = .ok (.getfield 136, 3) := by decide +kernel
theorem dX11_person_8 : decode cX11_person 8 = .ok (.invokestatic 119, 3) := by decide +kernel
theorem dX11_person_11 : decode cX11_person 11 = .ok (.ifCond .ne 11, 3) := by decide +kernel
theorem dX11_person_14 : decode cX11_person 14 = .ok (.iload_n 2, 1) := by decide +kernel
theorem dX11_person_15 : decode cX11_person 15 = .ok (.iconst 2, 1) := by decide +kernel
theorem dX11_person_16 : decode cX11_person 16 = .ok (.invokestatic 119, 3) := by decide +kernel
theorem dX11_person_19 : decode cX11_person 19 = .ok (.ifCond .eq 5, 3) := by decide +kernel
theorem dX11_person_22 : decode cX11_person 22 = .ok (.iconst (-1), 1) := by decide +kernel
theorem dX11_person_23 : decode cX11_person 23 = .ok (.ireturn, 1) := by decide +kernel
theorem dX11_person_24 : decode cX11_person 24 = .ok (.iload_n 2, 1) := by decide +kernel
theorem dX11_person_25 : decode cX11_person 25 = .ok (.ifCond .ne 15, 3) := by decide +kernel
theorem dX11_person_28 : decode cX11_person 28 = .ok (.aload_n 0, 1) := by decide +kernel
theorem dX11_person_29 : decode cX11_person 29 = .ok (.getfield 80, 3) := by decide +kernel
theorem dX11_person_32 : decode cX11_person 32 = .ok (.getfield 139, 3) := by decide +kernel
theorem dX11_person_35 : decode cX11_person 35 = .ok (.iload_n 1, 1) := by decide +kernel
theorem dX11_person_36 : decode cX11_person 36 = .ok (.iaload, 1) := by decide +kernel
theorem dX11_person_37 : decode cX11_person 37 = .ok (.goto 12, 3) := by decide +kernel
theorem dX11_person_40 : decode cX11_person 40 = .ok (.aload_n 0, 1) := by decide +kernel
theorem dX11_person_41 : decode cX11_person 41 = .ok (.getfield 80, 3) := by decide +kernel
theorem dX11_person_44 : decode cX11_person 44 = .ok (.getfield 142, 3) := by decide +kernel
theorem dX11_person_47 : decode cX11_person 47 = .ok (.iload_n 1, 1) := by decide +kernel
theorem dX11_person_48 : decode cX11_person 48 = .ok (.iaload, 1) := by decide +kernel
theorem dX11_person_49 : decode cX11_person 49 = .ok (.ireturn, 1) := by decide +kernel
theorem dX11_angle_0 : decode cX11_angle 0 = .ok (.iload_n 1, 1) := by decide +kernel
theorem dX11_angle_1 : decode cX11_angle 1 = .ok (.aload_n 0, 1) := by decide +kernel
theorem dX11_angle_2 : decode cX11_angle 2 = .ok (.getfield 80, 3) := by decide +kernel
theorem dX11_angle_5 : decode cX11_angle 5 = .ok (.getfield 116, 3) := by decide +kernel
theorem dX11_angle_8 : decode cX11_angle 8 = .ok (.invokestatic 119, 3) := by decide +kernel
theorem dX11_angle_11 : decode cX11_angle 11 = .ok (.ifCond .ne 12, 3) := by decide +kernel
theorem dX11_angle_14 : decode cX11_angle 14 = .ok (.iload_n 2, 1) := by decide +kernel
theorem dX11_angle_15 : decode cX11_angle 15 = .ok (.bipush 31, 2) := by decide +kernel
theorem dX11_angle_17 : decode cX11_angle 17 = .ok (.invokestatic 119, 3) := by decide +kernel
theorem dX11_angle_20 : decode cX11_angle 20 = .ok (.ifCond .eq 5, 3) := by decide +kernel
theorem dX11_angle_23 : decode cX11_angle 23 = .ok (.iconst (-1), 1) := by decide +kernel
theorem dX11_angle_24 : decode cX11_angle 24 = .ok (.ireturn, 1) := by decide +kernel
theorem dX11_angle_25 : decode cX11_angle 25 = .ok (.aload_n 0, 1) := by decide +kernel
theorem dX11_angle_26 : decode cX11_angle 26 = .ok (.invokevirtual 145, 3) := by decide +kernel
theorem dX11_angle_29 : decode cX11_angle 29 = .ok (.getfield 149, 3) := by decide +kernel
theorem dX11_angle_32 : decode cX11_angle 32 = .ok (.iload_n 2, 1) := by decide +kernel
theorem dX11_angle_33 : decode cX11_angle 33 = .ok (.aaload, 1) := by decide +kernel
theorem dX11_angle_34 : decode cX11_angle 34 = .ok (.iload_n 1, 1) := by decide +kernel
theorem dX11_angle_35 : decode cX11_angle 35 = .ok (.iaload, 1) := by decide +kernel
theorem dX11_angle_36 : decode cX11_angle 36 = .ok (.bipush 40, 2) := by decide +kernel
theorem dX11_angle_38 : decode cX11_angle 38 = .ok (.iadd, 1) := by decide +kernel
theorem dX11_angle_39 : decode cX11_angle 39 = .ok (.ireturn, 1) := by decide +kernel
theorem dX11_hers_0 : decode cX11_hers 0 = .ok (.iload_n 1, 1) := by decide +kernel
theorem dX11_hers_1 : decode cX11_hers 1 = .ok (.bipush 31, 2) := by decide +kernel
theorem dX11_hers_3 : decode cX11_hers 3 = .ok (.invokestatic 119, 3) := by decide +kernel
theorem dX11_hers_6 : decode cX11_hers 6 = .ok (.ifCond .eq 7, 3) := by decide +kernel
theorem dX11_hers_9 : decode cX11_hers 9 = .ok (.iconst (-1), 1) := by decide +kernel
theorem dX11_hers_10 : decode cX11_hers 10 = .ok (.goto 12, 3) := by decide +kernel
theorem dX11_hers_13 : decode cX11_hers 13 = .ok (.aload_n 0, 1) := by decide +kernel
theorem dX11_hers_14 : decode cX11_hers 14 = .ok (.invokevirtual 145, 3) := by decide +kernel
theorem dX11_hers_17 : decode cX11_hers 17 = .ok (.getfield 153, 3) := by decide +kernel
theorem dX11_hers_20 : decode cX11_hers 20 = .ok (.iload_n 1, 1) := by decide +kernel
theorem dX11_hers_21 : decode cX11_hers 21 = .ok (.iaload, 1) := by decide +kernel
theorem dX11_hers_22 : decode cX11_hers 22 = .ok (.ireturn, 1) := by decide +kernel
theorem dX11_sets_0 : decode cX11_sets 0 = .ok (.iload_n 1, 1) := by decide +kernel
theorem dX11_sets_1 : decode cX11_sets 1 = .ok (.aload_n 0, 1) := by decide +kernel
theorem dX11_sets_2 : decode cX11_sets 2 = .ok (.getfield 80, 3) := by decide +kernel
theorem dX11_sets_5 : decode cX11_sets 5 = .ok (.getfield 136, 3) := by decide +kernel
theorem dX11_sets_8 : decode cX11_sets 8 = .ok (.invokestatic 119, 3) := by decide +kernel
theorem dX11_sets_11 : decode cX11_sets 11 = .ok (.ifCond .ne 12, 3) := by decide +kernel
theorem dX11_sets_14 : decode cX11_sets 14 = .ok (.iload_n 2, 1) := by decide +kernel
theorem dX11_sets_15 : decode cX11_sets 15 = .ok (.bipush 31, 2) := by decide +kernel
theorem dX11_sets_17 : decode cX11_sets 17 = .ok (.invokestatic 119, 3) := by decide +kernel
theorem dX11_sets_20 : decode cX11_sets 20 = .ok (.ifCond .eq 5, 3) := by decide +kernel
theorem dX11_sets_23 : decode cX11_sets 23 = .ok (.iconst (-1), 1) := by decide +kernel
theorem dX11_sets_24 : decode cX11_sets 24 = .ok (.ireturn, 1) := by decide +kernel
theorem dX11_sets_25 : decode cX11_sets 25 = .ok (.aload_n 0, 1) := by decide +kernel
theorem dX11_sets_26 : decode cX11_sets 26 = .ok (.invokevirtual 145, 3) := by decide +kernel
theorem dX11_sets_29 : decode cX11_sets 29 = .ok (.getfield 156, 3) := by decide +kernel
theorem dX11_sets_32 : decode cX11_sets 32 = .ok (.iload_n 2, 1) := by decide +kernel
theorem dX11_sets_33 : decode cX11_sets 33 = .ok (.aaload, 1) := by decide +kernel
theorem dX11_sets_34 : decode cX11_sets 34 = .ok (.iload_n 1, 1) := by decide +kernel
theorem dX11_sets_35 : decode cX11_sets 35 = .ok (.iaload, 1) := by decide +kernel
theorem dX11_sets_36 : decode cX11_sets 36 = .ok (.ireturn, 1) := by decide +kernel
theorem dX11_rest_0 : decode cX11_rest 0 = .ok (.aload_n 0, 1) := by decide +kernel
theorem dX11_rest_1 : decode cX11_rest 1 = .ok (.invokevirtual 145, 3) := by decide +kernel
theorem dX11_rest_4 : decode cX11_rest 4 = .ok (.aload_n 0, 1) := by decide +kernel
theorem dX11_rest_5 : decode cX11_rest 5 = .ok (.getfield 80, 3) := by decide +kernel
theorem dX11_rest_8 : decode cX11_rest 8 = .ok (.invokevirtual 159, 3) := by decide +kernel
theorem dX11_rest_11 : decode cX11_rest 11 = .ok (.ireturn, 1) := by decide +kernel
theorem dX11_sways_0 : decode cX11_sways 0 = .ok (.aload_n 0, 1) := by decide +kernel
theorem dX11_sways_1 : decode cX11_sways 1 = .ok (.invokevirtual 145, 3) := by decide +kernel
theorem dX11_sways_4 : decode cX11_sways 4 = .ok (.aload_n 0, 1) := by decide +kernel
theorem dX11_sways_5 : decode cX11_sways 5 = .ok (.getfield 80, 3) := by decide +kernel
theorem dX11_sways_8 : decode cX11_sways 8 = .ok (.getfield 116, 3) := by decide +kernel
theorem dX11_sways_11 : decode cX11_sways 11 = .ok (.invokevirtual 163, 3) := by decide +kernel
theorem dX11_sways_14 : decode cX11_sways 14 = .ok (.ireturn, 1) := by decide +kernel
theorem dX11_told_0 : decode cX11_told 0 = .ok (.iload_n 1, 1) := by decide +kernel
theorem dX11_told_1 : decode cX11_told 1 = .ok (.aload_n 0, 1) := by decide +kernel
theorem dX11_told_2 : decode cX11_told 2 = .ok (.getfield 26, 3) := by decide +kernel
theorem dX11_told_5 : decode cX11_told 5 = .ok (.getfield 167, 3) := by decide +kernel
theorem dX11_told_8 : decode cX11_told 8 = .ok (.invokestatic 119, 3) := by decide +kernel
theorem dX11_told_11 : decode cX11_told 11 = .ok (.ifCond .eq 5, 3) := by decide +kernel
theorem dX11_told_14 : decode cX11_told 14 = .ok (.iconst (-1), 1) := by decide +kernel
theorem dX11_told_15 : decode cX11_told 15 = .ok (.ireturn, 1) := by decide +kernel
theorem dX11_told_16 : decode cX11_told 16 = .ok (.iload_n 2, 1) := by decide +kernel
theorem dX11_told_17 : decode cX11_told 17 = .ok (.tableswitch 60 0 2 #[27, 37, 47], 27) := by decide +kernel
theorem dX11_told_44 : decode cX11_told 44 = .ok (.aload_n 0, 1) := by decide +kernel
theorem dX11_told_45 : decode cX11_told 45 = .ok (.getfield 26, 3) := by decide +kernel
theorem dX11_told_48 : decode cX11_told 48 = .ok (.getfield 170, 3) := by decide +kernel
theorem dX11_told_51 : decode cX11_told 51 = .ok (.iload_n 1, 1) := by decide +kernel
theorem dX11_told_52 : decode cX11_told 52 = .ok (.iaload, 1) := by decide +kernel
theorem dX11_told_53 : decode cX11_told 53 = .ok (.ireturn, 1) := by decide +kernel
theorem dX11_told_54 : decode cX11_told 54 = .ok (.aload_n 0, 1) := by decide +kernel
theorem dX11_told_55 : decode cX11_told 55 = .ok (.getfield 26, 3) := by decide +kernel
theorem dX11_told_58 : decode cX11_told 58 = .ok (.getfield 173, 3) := by decide +kernel
theorem dX11_told_61 : decode cX11_told 61 = .ok (.iload_n 1, 1) := by decide +kernel
theorem dX11_told_62 : decode cX11_told 62 = .ok (.iaload, 1) := by decide +kernel
theorem dX11_told_63 : decode cX11_told 63 = .ok (.ireturn, 1) := by decide +kernel
theorem dX11_told_64 : decode cX11_told 64 = .ok (.aload_n 0, 1) := by decide +kernel
theorem dX11_told_65 : decode cX11_told 65 = .ok (.getfield 26, 3) := by decide +kernel
theorem dX11_told_68 : decode cX11_told 68 = .ok (.getfield 175, 3) := by decide +kernel
theorem dX11_told_71 : decode cX11_told 71 = .ok (.iload_n 1, 1) := by decide +kernel
theorem dX11_told_72 : decode cX11_told 72 = .ok (.iaload, 1) := by decide +kernel
theorem dX11_told_73 : decode cX11_told 73 = .ok (.bipush 20, 2) := by decide +kernel
theorem dX11_told_75 : decode cX11_told 75 = .ok (.iadd, 1) := by decide +kernel
theorem dX11_told_76 : decode cX11_told 76 = .ok (.ireturn, 1) := by decide +kernel
theorem dX11_told_77 : decode cX11_told 77 = .ok (.iconst (-1), 1) := by decide +kernel
theorem dX11_told_78 : decode cX11_told 78 = .ok (.ireturn, 1) := by decide +kernel
theorem dX11_turn_0 : decode cX11_turn 0 = .ok (.iload_n 1, 1) := by decide +kernel
theorem dX11_turn_1 : decode cX11_turn 1 = .ok (.bipush 31, 2) := by decide +kernel
theorem dX11_turn_3 : decode cX11_turn 3 = .ok (.invokestatic 119, 3) := by decide +kernel
theorem dX11_turn_6 : decode cX11_turn 6 = .ok (.ifCond .ne 26, 3) := by decide +kernel
theorem dX11_turn_9 : decode cX11_turn 9 = .ok (.iload_n 2, 1) := by decide +kernel
theorem dX11_turn_10 : decode cX11_turn 10 = .ok (.aload_n 0, 1) := by decide +kernel
theorem dX11_turn_11 : decode cX11_turn 11 = .ok (.getfield 80, 3) := by decide +kernel
theorem dX11_turn_14 : decode cX11_turn 14 = .ok (.getfield 116, 3) := by decide +kernel
theorem dX11_turn_17 : decode cX11_turn 17 = .ok (.invokestatic 119, 3) := by decide +kernel
theorem dX11_turn_20 : decode cX11_turn 20 = .ok (.ifCond .ne 12, 3) := by decide +kernel
theorem dX11_turn_23 : decode cX11_turn 23 = .ok (.iload_n 3, 1) := by decide +kernel
theorem dX11_turn_24 : decode cX11_turn 24 = .ok (.bipush 41, 2) := by decide +kernel
theorem dX11_turn_26 : decode cX11_turn 26 = .ok (.invokestatic 119, 3) := by decide +kernel
theorem dX11_turn_29 : decode cX11_turn 29 = .ok (.ifCond .eq 5, 3) := by decide +kernel
theorem dX11_turn_32 : decode cX11_turn 32 = .ok (.iconst (-1), 1) := by decide +kernel
theorem dX11_turn_33 : decode cX11_turn 33 = .ok (.ireturn, 1) := by decide +kernel
theorem dX11_turn_34 : decode cX11_turn 34 = .ok (.aload_n 0, 1) := by decide +kernel
theorem dX11_turn_35 : decode cX11_turn 35 = .ok (.getfield 26, 3) := by decide +kernel
theorem dX11_turn_38 : decode cX11_turn 38 = .ok (.getfield 167, 3) := by decide +kernel
theorem dX11_turn_41 : decode cX11_turn 41 = .ok (.bipush 8, 2) := by decide +kernel
theorem dX11_turn_43 : decode cX11_turn 43 = .ok (.if_icmp .lt 6, 3) := by decide +kernel
theorem dX11_turn_46 : decode cX11_turn 46 = .ok (.bipush (-3), 2) := by decide +kernel
theorem dX11_turn_48 : decode cX11_turn 48 = .ok (.ireturn, 1) := by decide +kernel
theorem dX11_turn_49 : decode cX11_turn 49 = .ok (.aload_n 0, 1) := by decide +kernel
theorem dX11_turn_50 : decode cX11_turn 50 = .ok (.getfield 35, 3) := by decide +kernel
theorem dX11_turn_53 : decode cX11_turn 53 = .ok (.aload_n 0, 1) := by decide +kernel
theorem dX11_turn_54 : decode cX11_turn 54 = .ok (.getfield 26, 3) := by decide +kernel
theorem dX11_turn_57 : decode cX11_turn 57 = .ok (.invokevirtual 178, 3) := by decide +kernel
theorem dX11_turn_60 : decode cX11_turn 60 = .ok (.aload_n 0, 1) := by decide +kernel
theorem dX11_turn_61 : decode cX11_turn 61 = .ok (.getfield 26, 3) := by decide +kernel
theorem dX11_turn_64 : decode cX11_turn 64 = .ok (.iload_n 1, 1) := by decide +kernel
theorem dX11_turn_65 : decode cX11_turn 65 = .ok (.iload_n 2, 1) := by decide +kernel
theorem dX11_turn_66 : decode cX11_turn 66 = .ok (.iload_n 3, 1) := by decide +kernel
theorem dX11_turn_67 : decode cX11_turn 67 = .ok (.bipush 20, 2) := by decide +kernel
theorem dX11_turn_69 : decode cX11_turn 69 = .ok (.isub, 1) := by decide +kernel
theorem dX11_turn_70 : decode cX11_turn 70 = .ok (.invokevirtual 182, 3) := by decide +kernel
theorem dX11_turn_73 : decode cX11_turn 73 = .ok (.aload_n 0, 1) := by decide +kernel
theorem dX11_turn_74 : decode cX11_turn 74 = .ok (.getfield 45, 3) := by decide +kernel
theorem dX11_turn_77 : decode cX11_turn 77 = .ok (.iconst 1, 1) := by decide +kernel
theorem dX11_turn_78 : decode cX11_turn 78 = .ok (.putfield 185, 3) := by decide +kernel
theorem dX11_turn_81 : decode cX11_turn 81 = .ok (.aload_n 0, 1) := by decide +kernel
theorem dX11_turn_82 : decode cX11_turn 82 = .ok (.getfield 26, 3) := by decide +kernel
theorem dX11_turn_85 : decode cX11_turn 85 = .ok (.getfield 167, 3) := by decide +kernel
theorem dX11_turn_88 : decode cX11_turn 88 = .ok (.ireturn, 1) := by decide +kernel
theorem dX11_leave_0 : decode cX11_leave 0 = .ok (.iload_n 1, 1) := by decide +kernel
theorem dX11_leave_1 : decode cX11_leave 1 = .ok (.aload_n 0, 1) := by decide +kernel
theorem dX11_leave_2 : decode cX11_leave 2 = .ok (.getfield 26, 3) := by decide +kernel
theorem dX11_leave_5 : decode cX11_leave 5 = .ok (.getfield 167, 3) := by decide +kernel
theorem dX11_leave_8 : decode cX11_leave 8 = .ok (.invokestatic 119, 3) := by decide +kernel
theorem dX11_leave_11 : decode cX11_leave 11 = .ok (.ifCond .eq 5, 3) := by decide +kernel
theorem dX11_leave_14 : decode cX11_leave 14 = .ok (.iconst (-1), 1) := by decide +kernel
theorem dX11_leave_15 : decode cX11_leave 15 = .ok (.ireturn, 1) := by decide +kernel
theorem dX11_leave_16 : decode cX11_leave 16 = .ok (.aload_n 0, 1) := by decide +kernel
theorem dX11_leave_17 : decode cX11_leave 17 = .ok (.getfield 35, 3) := by decide +kernel
theorem dX11_leave_20 : decode cX11_leave 20 = .ok (.aload_n 0, 1) := by decide +kernel
theorem dX11_leave_21 : decode cX11_leave 21 = .ok (.getfield 26, 3) := by decide +kernel
theorem dX11_leave_24 : decode cX11_leave 24 = .ok (.invokevirtual 178, 3) := by decide +kernel
theorem dX11_leave_27 : decode cX11_leave 27 = .ok (.aload_n 0, 1) := by decide +kernel
theorem dX11_leave_28 : decode cX11_leave 28 = .ok (.getfield 26, 3) := by decide +kernel
theorem dX11_leave_31 : decode cX11_leave 31 = .ok (.iload_n 1, 1) := by decide +kernel
theorem dX11_leave_32 : decode cX11_leave 32 = .ok (.invokevirtual 189, 3) := by decide +kernel
theorem dX11_leave_35 : decode cX11_leave 35 = .ok (.aload_n 0, 1) := by decide +kernel
theorem dX11_leave_36 : decode cX11_leave 36 = .ok (.getfield 45, 3) := by decide +kernel
theorem dX11_leave_39 : decode cX11_leave 39 = .ok (.iconst 1, 1) := by decide +kernel
theorem dX11_leave_40 : decode cX11_leave 40 = .ok (.putfield 185, 3) := by decide +kernel
theorem dX11_leave_43 : decode cX11_leave 43 = .ok (.aload_n 0, 1) := by decide +kernel
theorem dX11_leave_44 : decode cX11_leave 44 = .ok (.getfield 26, 3) := by decide +kernel
theorem dX11_leave_47 : decode cX11_leave 47 = .ok (.getfield 167, 3) := by decide +kernel
theorem dX11_leave_50 : decode cX11_leave 50 = .ok (.ireturn, 1) := by decide +kernel
theorem dX11_undo_0 : decode cX11_undo 0 = .ok (.aload_n 0, 1) := by decide +kernel
theorem dX11_undo_1 : decode cX11_undo 1 = .ok (.getfield 35, 3) := by decide +kernel
theorem dX11_undo_4 : decode cX11_undo 4 = .ok (.aload_n 0, 1) := by decide +kernel
theorem dX11_undo_5 : decode cX11_undo 5 = .ok (.getfield 26, 3) := by decide +kernel
theorem dX11_undo_8 : decode cX11_undo 8 = .ok (.invokevirtual 192, 3) := by decide +kernel
theorem dX11_undo_11 : decode cX11_undo 11 = .ok (.ifCond .ne 6, 3) := by decide +kernel
theorem dX11_undo_14 : decode cX11_undo 14 = .ok (.bipush (-2), 2) := by decide +kernel
theorem dX11_undo_16 : decode cX11_undo 16 = .ok (.ireturn, 1) := by decide +kernel
theorem dX11_undo_17 : decode cX11_undo 17 = .ok (.aload_n 0, 1) := by decide +kernel
theorem dX11_undo_18 : decode cX11_undo 18 = .ok (.getfield 45, 3) := by decide +kernel
theorem dX11_undo_21 : decode cX11_undo 21 = .ok (.iconst 1, 1) := by decide +kernel
theorem dX11_undo_22 : decode cX11_undo 22 = .ok (.putfield 185, 3) := by decide +kernel
theorem dX11_undo_25 : decode cX11_undo 25 = .ok (.aload_n 0, 1) := by decide +kernel
theorem dX11_undo_26 : decode cX11_undo 26 = .ok (.getfield 35, 3) := by decide +kernel
theorem dX11_undo_29 : decode cX11_undo 29 = .ok (.getfield 196, 3) := by decide +kernel
theorem dX11_undo_32 : decode cX11_undo 32 = .ok (.ireturn, 1) := by decide +kernel
theorem dX11_tempt_0 : decode cX11_tempt 0 = .ok (.iload_n 1, 1) := by decide +kernel
theorem dX11_tempt_1 : decode cX11_tempt 1 = .ok (.aload_n 0, 1) := by decide +kernel
theorem dX11_tempt_2 : decode cX11_tempt 2 = .ok (.getfield 80, 3) := by decide +kernel
theorem dX11_tempt_5 : decode cX11_tempt 5 = .ok (.getfield 136, 3) := by decide +kernel
theorem dX11_tempt_8 : decode cX11_tempt 8 = .ok (.invokestatic 119, 3) := by decide +kernel
theorem dX11_tempt_11 : decode cX11_tempt 11 = .ok (.ifCond .ne 12, 3) := by decide +kernel
theorem dX11_tempt_14 : decode cX11_tempt 14 = .ok (.iload_n 2, 1) := by decide +kernel
theorem dX11_tempt_15 : decode cX11_tempt 15 = .ok (.bipush 31, 2) := by decide +kernel
theorem dX11_tempt_17 : decode cX11_tempt 17 = .ok (.invokestatic 119, 3) := by decide +kernel
theorem dX11_tempt_20 : decode cX11_tempt 20 = .ok (.ifCond .eq 5, 3) := by decide +kernel
theorem dX11_tempt_23 : decode cX11_tempt 23 = .ok (.iconst (-1), 1) := by decide +kernel
theorem dX11_tempt_24 : decode cX11_tempt 24 = .ok (.ireturn, 1) := by decide +kernel
theorem dX11_tempt_25 : decode cX11_tempt 25 = .ok (.aload_n 0, 1) := by decide +kernel
theorem dX11_tempt_26 : decode cX11_tempt 26 = .ok (.getfield 52, 3) := by decide +kernel
theorem dX11_tempt_29 : decode cX11_tempt 29 = .ok (.aload_n 0, 1) := by decide +kernel
theorem dX11_tempt_30 : decode cX11_tempt 30 = .ok (.getfield 80, 3) := by decide +kernel
theorem dX11_tempt_33 : decode cX11_tempt 33 = .ok (.aload_n 0, 1) := by decide +kernel
theorem dX11_tempt_34 : decode cX11_tempt 34 = .ok (.invokevirtual 145, 3) := by decide +kernel
theorem dX11_tempt_37 : decode cX11_tempt 37 = .ok (.getfield 197, 3) := by decide +kernel
theorem dX11_tempt_40 : decode cX11_tempt 40 = .ok (.iload_n 2, 1) := by decide +kernel
theorem dX11_tempt_41 : decode cX11_tempt 41 = .ok (.aaload, 1) := by decide +kernel
theorem dX11_tempt_42 : decode cX11_tempt 42 = .ok (.iload_n 1, 1) := by decide +kernel
theorem dX11_tempt_43 : decode cX11_tempt 43 = .ok (.invokevirtual 200, 3) := by decide +kernel
theorem dX11_tempt_46 : decode cX11_tempt 46 = .ok (.ireturn, 1) := by decide +kernel
theorem dX11_fewest_0 : decode cX11_fewest 0 = .ok (.iload_n 1, 1) := by decide +kernel
theorem dX11_fewest_1 : decode cX11_fewest 1 = .ok (.iconst 1, 1) := by decide +kernel
theorem dX11_fewest_2 : decode cX11_fewest 2 = .ok (.aload_n 0, 1) := by decide +kernel
theorem dX11_fewest_3 : decode cX11_fewest 3 = .ok (.getfield 80, 3) := by decide +kernel
theorem dX11_fewest_6 : decode cX11_fewest 6 = .ok (.getfield 136, 3) := by decide +kernel
theorem dX11_fewest_9 : decode cX11_fewest 9 = .ok (.ishl, 1) := by decide +kernel
theorem dX11_fewest_10 : decode cX11_fewest 10 = .ok (.invokestatic 119, 3) := by decide +kernel
theorem dX11_fewest_13 : decode cX11_fewest 13 = .ok (.ifCond .ne 12, 3) := by decide +kernel
theorem dX11_fewest_16 : decode cX11_fewest 16 = .ok (.iload_n 2, 1) := by decide +kernel
theorem dX11_fewest_17 : decode cX11_fewest 17 = .ok (.bipush 31, 2) := by decide +kernel
theorem dX11_fewest_19 : decode cX11_fewest 19 = .ok (.invokestatic 119, 3) := by decide +kernel
theorem dX11_fewest_22 : decode cX11_fewest 22 = .ok (.ifCond .eq 5, 3) := by decide +kernel
theorem dX11_fewest_25 : decode cX11_fewest 25 = .ok (.iconst (-1), 1) := by decide +kernel
theorem dX11_fewest_26 : decode cX11_fewest 26 = .ok (.ireturn, 1) := by decide +kernel
theorem dX11_fewest_27 : decode cX11_fewest 27 = .ok (.aload_n 0, 1) := by decide +kernel
theorem dX11_fewest_28 : decode cX11_fewest 28 = .ok (.invokevirtual 145, 3) := by decide +kernel
theorem dX11_fewest_31 : decode cX11_fewest 31 = .ok (.getfield 153, 3) := by decide +kernel
theorem dX11_fewest_34 : decode cX11_fewest 34 = .ok (.iload_n 2, 1) := by decide +kernel
theorem dX11_fewest_35 : decode cX11_fewest 35 = .ok (.iaload, 1) := by decide +kernel
theorem dX11_fewest_36 : decode cX11_fewest 36 = .ok (.iload_n 1, 1) := by decide +kernel
theorem dX11_fewest_37 : decode cX11_fewest 37 = .ok (.iand, 1) := by decide +kernel
theorem dX11_fewest_38 : decode cX11_fewest 38 = .ok (.iload_n 1, 1) := by decide +kernel
theorem dX11_fewest_39 : decode cX11_fewest 39 = .ok (.if_icmp .ne 5, 3) := by decide +kernel
theorem dX11_fewest_42 : decode cX11_fewest 42 = .ok (.iconst 0, 1) := by decide +kernel
theorem dX11_fewest_43 : decode cX11_fewest 43 = .ok (.ireturn, 1) := by decide +kernel
theorem dX11_fewest_44 : decode cX11_fewest 44 = .ok (.aload_n 0, 1) := by decide +kernel
theorem dX11_fewest_45 : decode cX11_fewest 45 = .ok (.getfield 52, 3) := by decide +kernel
theorem dX11_fewest_48 : decode cX11_fewest 48 = .ok (.aload_n 0, 1) := by decide +kernel
theorem dX11_fewest_49 : decode cX11_fewest 49 = .ok (.getfield 80, 3) := by decide +kernel
theorem dX11_fewest_52 : decode cX11_fewest 52 = .ok (.aload_n 0, 1) := by decide +kernel
theorem dX11_fewest_53 : decode cX11_fewest 53 = .ok (.getfield 45, 3) := by decide +kernel
theorem dX11_fewest_56 : decode cX11_fewest 56 = .ok (.getfield 197, 3) := by decide +kernel
theorem dX11_fewest_59 : decode cX11_fewest 59 = .ok (.iload_n 2, 1) := by decide +kernel
theorem dX11_fewest_60 : decode cX11_fewest 60 = .ok (.aaload, 1) := by decide +kernel
theorem dX11_fewest_61 : decode cX11_fewest 61 = .ok (.iload_n 1, 1) := by decide +kernel
theorem dX11_fewest_62 : decode cX11_fewest 62 = .ok (.invokevirtual 204, 3) := by decide +kernel
theorem dX11_fewest_65 : decode cX11_fewest 65 = .ok (.ireturn, 1) := by decide +kernel
theorem dX11_safe_0 : decode cX11_safe 0 = .ok (.iload_n 1, 1) := by decide +kernel
theorem dX11_safe_1 : decode cX11_safe 1 = .ok (.bipush 31, 2) := by decide +kernel
theorem dX11_safe_3 : decode cX11_safe 3 = .ok (.invokestatic 119, 3) := by decide +kernel
theorem dX11_safe_6 : decode cX11_safe 6 = .ok (.ifCond .eq 5, 3) := by decide +kernel
theorem dX11_safe_9 : decode cX11_safe 9 = .ok (.iconst (-1), 1) := by decide +kernel
theorem dX11_safe_10 : decode cX11_safe 10 = .ok (.ireturn, 1) := by decide +kernel
theorem dX11_safe_11 : decode cX11_safe 11 = .ok (.aload_n 0, 1) := by decide +kernel
theorem dX11_safe_12 : decode cX11_safe 12 = .ok (.invokevirtual 145, 3) := by decide +kernel
theorem dX11_safe_15 : decode cX11_safe 15 = .ok (.getfield 153, 3) := by decide +kernel
theorem dX11_safe_18 : decode cX11_safe 18 = .ok (.iload_n 1, 1) := by decide +kernel
theorem dX11_safe_19 : decode cX11_safe 19 = .ok (.iaload, 1) := by decide +kernel
theorem dX11_safe_20 : decode cX11_safe 20 = .ok (.aload_n 0, 1) := by decide +kernel
theorem dX11_safe_21 : decode cX11_safe 21 = .ok (.getfield 52, 3) := by decide +kernel
theorem dX11_safe_24 : decode cX11_safe 24 = .ok (.aload_n 0, 1) := by decide +kernel
theorem dX11_safe_25 : decode cX11_safe 25 = .ok (.getfield 80, 3) := by decide +kernel
theorem dX11_safe_28 : decode cX11_safe 28 = .ok (.aload_n 0, 1) := by decide +kernel
theorem dX11_safe_29 : decode cX11_safe 29 = .ok (.getfield 45, 3) := by decide +kernel
theorem dX11_safe_32 : decode cX11_safe 32 = .ok (.getfield 197, 3) := by decide +kernel
theorem dX11_safe_35 : decode cX11_safe 35 = .ok (.iload_n 1, 1) := by decide +kernel
theorem dX11_safe_36 : decode cX11_safe 36 = .ok (.aaload, 1) := by decide +kernel
theorem dX11_safe_37 : decode cX11_safe 37 = .ok (.invokevirtual 207, 3) := by decide +kernel
theorem dX11_safe_40 : decode cX11_safe 40 = .ok (.ior, 1) := by decide +kernel
theorem dX11_safe_41 : decode cX11_safe 41 = .ok (.istore_n 2, 1) := by decide +kernel
theorem dX11_safe_42 : decode cX11_safe 42 = .ok (.iconst 1, 1) := by decide +kernel
theorem dX11_safe_43 : decode cX11_safe 43 = .ok (.aload_n 0, 1) := by decide +kernel
theorem dX11_safe_44 : decode cX11_safe 44 = .ok (.getfield 80, 3) := by decide +kernel
theorem dX11_safe_47 : decode cX11_safe 47 = .ok (.getfield 136, 3) := by decide +kernel
theorem dX11_safe_50 : decode cX11_safe 50 = .ok (.ishl, 1) := by decide +kernel
theorem dX11_safe_51 : decode cX11_safe 51 = .ok (.iconst 1, 1) := by decide +kernel
theorem dX11_safe_52 : decode cX11_safe 52 = .ok (.isub, 1) := by decide +kernel
theorem dX11_safe_53 : decode cX11_safe 53 = .ok (.iload_n 2, 1) := by decide +kernel
theorem dX11_safe_54 : decode cX11_safe 54 = .ok (.iconst (-1), 1) := by decide +kernel
theorem dX11_safe_55 : decode cX11_safe 55 = .ok (.ixor, 1) := by decide +kernel
theorem dX11_safe_56 : decode cX11_safe 56 = .ok (.iand, 1) := by decide +kernel
theorem dX11_safe_57 : decode cX11_safe 57 = .ok (.ireturn, 1) := by decide +kernel
theorem dX11_hang_0 : decode cX11_hang 0 = .ok (.iload_n 1, 1) := by decide +kernel
theorem dX11_hang_1 : decode cX11_hang 1 = .ok (.iconst 2, 1) := by decide +kernel
theorem dX11_hang_2 : decode cX11_hang 2 = .ok (.invokestatic 119, 3) := by decide +kernel
theorem dX11_hang_5 : decode cX11_hang 5 = .ok (.ifCond .eq 5, 3) := by decide +kernel
theorem dX11_hang_8 : decode cX11_hang 8 = .ok (.iconst (-1), 1) := by decide +kernel
theorem dX11_hang_9 : decode cX11_hang 9 = .ok (.ireturn, 1) := by decide +kernel
theorem dX11_hang_10 : decode cX11_hang 10 = .ok (.iconst 0, 1) := by decide +kernel
theorem dX11_hang_11 : decode cX11_hang 11 = .ok (.istore_n 2, 1) := by decide +kernel
theorem dX11_hang_12 : decode cX11_hang 12 = .ok (.iconst 0, 1) := by decide +kernel
theorem dX11_hang_13 : decode cX11_hang 13 = .ok (.istore_n 3, 1) := by decide +kernel
theorem dX11_hang_14 : decode cX11_hang 14 = .ok (.iload_n 3, 1) := by decide +kernel
theorem dX11_hang_15 : decode cX11_hang 15 = .ok (.aload_n 0, 1) := by decide +kernel
theorem dX11_hang_16 : decode cX11_hang 16 = .ok (.getfield 80, 3) := by decide +kernel
theorem dX11_hang_19 : decode cX11_hang 19 = .ok (.getfield 116, 3) := by decide +kernel
theorem dX11_hang_22 : decode cX11_hang 22 = .ok (.if_icmp .ge 58, 3) := by decide +kernel
theorem dX11_hang_25 : decode cX11_hang 25 = .ok (.aload_n 0, 1) := by decide +kernel
theorem dX11_hang_26 : decode cX11_hang 26 = .ok (.getfield 80, 3) := by decide +kernel
theorem dX11_hang_29 : decode cX11_hang 29 = .ok (.getfield 127, 3) := by decide +kernel
theorem dX11_hang_32 : decode cX11_hang 32 = .ok (.iload_n 3, 1) := by decide +kernel
theorem dX11_hang_33 : decode cX11_hang 33 = .ok (.iaload, 1) := by decide +kernel
theorem dX11_hang_34 : decode cX11_hang 34 = .ok (.invokestatic 211, 3) := by decide +kernel
theorem dX11_hang_37 : decode cX11_hang 37 = .ok (.aload_n 0, 1) := by decide +kernel
theorem dX11_hang_38 : decode cX11_hang 38 = .ok (.getfield 80, 3) := by decide +kernel
theorem dX11_hang_41 : decode cX11_hang 41 = .ok (.aload_n 0, 1) := by decide +kernel
theorem dX11_hang_42 : decode cX11_hang 42 = .ok (.getfield 80, 3) := by decide +kernel
theorem dX11_hang_45 : decode cX11_hang 45 = .ok (.getfield 123, 3) := by decide +kernel
theorem dX11_hang_48 : decode cX11_hang 48 = .ok (.iload_n 3, 1) := by decide +kernel
theorem dX11_hang_49 : decode cX11_hang 49 = .ok (.iaload, 1) := by decide +kernel
theorem dX11_hang_50 : decode cX11_hang 50 = .ok (.invokevirtual 216, 3) := by decide +kernel
theorem dX11_hang_53 : decode cX11_hang 53 = .ok (.isub, 1) := by decide +kernel
theorem dX11_hang_54 : decode cX11_hang 54 = .ok (.istore 4, 2) := by decide +kernel
theorem dX11_hang_56 : decode cX11_hang 56 = .ok (.iload 4, 2) := by decide +kernel
theorem dX11_hang_58 : decode cX11_hang 58 = .ok (.ifCond .le 16, 3) := by decide +kernel
theorem dX11_hang_61 : decode cX11_hang 61 = .ok (.iload_n 2, 1) := by decide +kernel
theorem dX11_hang_62 : decode cX11_hang 62 = .ok (.iload_n 1, 1) := by decide +kernel
theorem dX11_hang_63 : decode cX11_hang 63 = .ok (.ifCond .ne 8, 3) := by decide +kernel
theorem dX11_hang_66 : decode cX11_hang 66 = .ok (.iload 4, 2) := by decide +kernel
theorem dX11_hang_68 : decode cX11_hang 68 = .ok (.goto 4, 3) := by decide +kernel
theorem dX11_hang_71 : decode cX11_hang 71 = .ok (.iconst 1, 1) := by decide +kernel
theorem dX11_hang_72 : decode cX11_hang 72 = .ok (.iadd, 1) := by decide +kernel
theorem dX11_hang_73 : decode cX11_hang 73 = .ok (.istore_n 2, 1) := by decide +kernel
theorem dX11_hang_74 : decode cX11_hang 74 = .ok (.iinc 3 1, 3) := by decide +kernel
theorem dX11_hang_77 : decode cX11_hang 77 = .ok (.goto (-63), 3) := by decide +kernel
theorem dX11_hang_80 : decode cX11_hang 80 = .ok (.iload_n 2, 1) := by decide +kernel
theorem dX11_hang_81 : decode cX11_hang 81 = .ok (.ireturn, 1) := by decide +kernel
theorem dX11_seen_0 : decode cX11_seen 0 = .ok (.iload_n 1, 1) := by decide +kernel
theorem dX11_seen_1 : decode cX11_seen 1 = .ok (.bipush 41, 2) := by decide +kernel
theorem dX11_seen_3 : decode cX11_seen 3 = .ok (.invokestatic 119, 3) := by decide +kernel
theorem dX11_seen_6 : decode cX11_seen 6 = .ok (.ifCond .ne 12, 3) := by decide +kernel
theorem dX11_seen_9 : decode cX11_seen 9 = .ok (.iload_n 2, 1) := by decide +kernel
theorem dX11_seen_10 : decode cX11_seen 10 = .ok (.bipush 41, 2) := by decide +kernel
theorem dX11_seen_12 : decode cX11_seen 12 = .ok (.invokestatic 119, 3) := by decide +kernel
theorem dX11_seen_15 : decode cX11_seen 15 = .ok (.ifCond .eq 5, 3) := by decide +kernel
theorem dX11_seen_18 : decode cX11_seen 18 = .ok (.iconst (-1), 1) := by decide +kernel
theorem dX11_seen_19 : decode cX11_seen 19 = .ok (.ireturn, 1) := by decide +kernel
theorem dX11_seen_20 : decode cX11_seen 20 = .ok (.aload_n 0, 1) := by decide +kernel
theorem dX11_seen_21 : decode cX11_seen 21 = .ok (.getfield 59, 3) := by decide +kernel
theorem dX11_seen_24 : decode cX11_seen 24 = .ok (.iload_n 1, 1) := by decide +kernel
theorem dX11_seen_25 : decode cX11_seen 25 = .ok (.bipush 20, 2) := by decide +kernel
theorem dX11_seen_27 : decode cX11_seen 27 = .ok (.isub, 1) := by decide +kernel
theorem dX11_seen_28 : decode cX11_seen 28 = .ok (.iload_n 2, 1) := by decide +kernel
theorem dX11_seen_29 : decode cX11_seen 29 = .ok (.bipush 20, 2) := by decide +kernel
theorem dX11_seen_31 : decode cX11_seen 31 = .ok (.isub, 1) := by decide +kernel
theorem dX11_seen_32 : decode cX11_seen 32 = .ok (.invokevirtual 219, 3) := by decide +kernel
theorem dX11_seen_35 : decode cX11_seen 35 = .ok (.ifCond .eq 13, 3) := by decide +kernel
theorem dX11_seen_38 : decode cX11_seen 38 = .ok (.aload_n 0, 1) := by decide +kernel
theorem dX11_seen_39 : decode cX11_seen 39 = .ok (.getfield 59, 3) := by decide +kernel
theorem dX11_seen_42 : decode cX11_seen 42 = .ok (.getfield 221, 3) := by decide +kernel
theorem dX11_seen_45 : decode cX11_seen 45 = .ok (.goto 5, 3) := by decide +kernel
theorem dX11_seen_48 : decode cX11_seen 48 = .ok (.bipush (-3), 2) := by decide +kernel
theorem dX11_seen_50 : decode cX11_seen 50 = .ok (.ireturn, 1) := by decide +kernel
theorem dX11_forget_0 : decode cX11_forget 0 = .ok (.aload_n 0, 1) := by decide +kernel
theorem dX11_forget_1 : decode cX11_forget 1 = .ok (.getfield 59, 3) := by decide +kernel
theorem dX11_forget_4 : decode cX11_forget 4 = .ok (.invokevirtual 222, 3) := by decide +kernel
theorem dX11_forget_7 : decode cX11_forget 7 = .ok (.ireturn, 1) := by decide +kernel
theorem dX11_bears_0 : decode cX11_bears 0 = .ok (.iload_n 1, 1) := by decide +kernel
theorem dX11_bears_1 : decode cX11_bears 1 = .ok (.iconst 4, 1) := by decide +kernel
theorem dX11_bears_2 : decode cX11_bears 2 = .ok (.invokestatic 119, 3) := by decide +kernel
theorem dX11_bears_5 : decode cX11_bears 5 = .ok (.ifCond .eq 7, 3) := by decide +kernel
theorem dX11_bears_8 : decode cX11_bears 8 = .ok (.iconst (-1), 1) := by decide +kernel
theorem dX11_bears_9 : decode cX11_bears 9 = .ok (.goto 11, 3) := by decide +kernel
theorem dX11_bears_12 : decode cX11_bears 12 = .ok (.aload_n 0, 1) := by decide +kernel
theorem dX11_bears_13 : decode cX11_bears 13 = .ok (.getfield 59, 3) := by decide +kernel
theorem dX11_bears_16 : decode cX11_bears 16 = .ok (.iload_n 1, 1) := by decide +kernel
theorem dX11_bears_17 : decode cX11_bears 17 = .ok (.invokevirtual 223, 3) := by decide +kernel
theorem dX11_bears_20 : decode cX11_bears 20 = .ok (.ireturn, 1) := by decide +kernel
theorem dX11_look_0 : decode cX11_look 0 = .ok (.iload_n 1, 1) := by decide +kernel
theorem dX11_look_1 : decode cX11_look 1 = .ok (.iconst 4, 1) := by decide +kernel
theorem dX11_look_2 : decode cX11_look 2 = .ok (.invokestatic 119, 3) := by decide +kernel
theorem dX11_look_5 : decode cX11_look 5 = .ok (.ifCond .ne 11, 3) := by decide +kernel
theorem dX11_look_8 : decode cX11_look 8 = .ok (.iload_n 2, 1) := by decide +kernel
theorem dX11_look_9 : decode cX11_look 9 = .ok (.iconst 2, 1) := by decide +kernel
theorem dX11_look_10 : decode cX11_look 10 = .ok (.invokestatic 119, 3) := by decide +kernel
theorem dX11_look_13 : decode cX11_look 13 = .ok (.ifCond .eq 5, 3) := by decide +kernel
theorem dX11_look_16 : decode cX11_look 16 = .ok (.iconst (-1), 1) := by decide +kernel
theorem dX11_look_17 : decode cX11_look 17 = .ok (.ireturn, 1) := by decide +kernel
theorem dX11_look_18 : decode cX11_look 18 = .ok (.aload_n 0, 1) := by decide +kernel
theorem dX11_look_19 : decode cX11_look 19 = .ok (.getfield 59, 3) := by decide +kernel
theorem dX11_look_22 : decode cX11_look 22 = .ok (.iload_n 1, 1) := by decide +kernel
theorem dX11_look_23 : decode cX11_look 23 = .ok (.invokevirtual 223, 3) := by decide +kernel
theorem dX11_look_26 : decode cX11_look 26 = .ok (.istore_n 3, 1) := by decide +kernel
theorem dX11_look_27 : decode cX11_look 27 = .ok (.iload_n 3, 1) := by decide +kernel
theorem dX11_look_28 : decode cX11_look 28 = .ok (.ifCond .ne 6, 3) := by decide +kernel
theorem dX11_look_31 : decode cX11_look 31 = .ok (.bipush (-4), 2) := by decide +kernel
theorem dX11_look_33 : decode cX11_look 33 = .ok (.ireturn, 1) := by decide +kernel
theorem dX11_look_34 : decode cX11_look 34 = .ok (.aload_n 0, 1) := by decide +kernel
theorem dX11_look_35 : decode cX11_look 35 = .ok (.getfield 59, 3) := by decide +kernel
theorem dX11_look_38 : decode cX11_look 38 = .ok (.iload_n 1, 1) := by decide +kernel
theorem dX11_look_39 : decode cX11_look 39 = .ok (.iload_n 3, 1) := by decide +kernel
theorem dX11_look_40 : decode cX11_look 40 = .ok (.invokevirtual 226, 3) := by decide +kernel
theorem dX11_look_43 : decode cX11_look 43 = .ok (.istore 4, 2) := by decide +kernel
theorem dX11_look_45 : decode cX11_look 45 = .ok (.iload_n 2, 1) := by decide +kernel
theorem dX11_look_46 : decode cX11_look 46 = .ok (.ifCond .ne 8, 3) := by decide +kernel
theorem dX11_look_49 : decode cX11_look 49 = .ok (.iload 4, 2) := by decide +kernel
theorem dX11_look_51 : decode cX11_look 51 = .ok (.goto 14, 3) := by decide +kernel
theorem dX11_look_54 : decode cX11_look 54 = .ok (.aload_n 0, 1) := by decide +kernel
theorem dX11_look_55 : decode cX11_look 55 = .ok (.getfield 59, 3) := by decide +kernel
theorem dX11_look_58 : decode cX11_look 58 = .ok (.iload_n 1, 1) := by decide +kernel
theorem dX11_look_59 : decode cX11_look 59 = .ok (.iload_n 3, 1) := by decide +kernel
theorem dX11_look_60 : decode cX11_look 60 = .ok (.iload 4, 2) := by decide +kernel
theorem dX11_look_62 : decode cX11_look 62 = .ok (.invokevirtual 230, 3) := by decide +kernel
theorem dX11_look_65 : decode cX11_look 65 = .ok (.ireturn, 1) := by decide +kernel
theorem dX11_who_0 : decode cX11_who 0 = .ok (.iload_n 1, 1) := by decide +kernel
theorem dX11_who_1 : decode cX11_who 1 = .ok (.bipush 41, 2) := by decide +kernel
theorem dX11_who_3 : decode cX11_who 3 = .ok (.invokestatic 119, 3) := by decide +kernel
theorem dX11_who_6 : decode cX11_who 6 = .ok (.ifCond .ne 17, 3) := by decide +kernel
theorem dX11_who_9 : decode cX11_who 9 = .ok (.iload_n 2, 1) := by decide +kernel
theorem dX11_who_10 : decode cX11_who 10 = .ok (.bipush 41, 2) := by decide +kernel
theorem dX11_who_12 : decode cX11_who 12 = .ok (.invokestatic 119, 3) := by decide +kernel
theorem dX11_who_15 : decode cX11_who 15 = .ok (.ifCond .ne 8, 3) := by decide +kernel
theorem dX11_who_18 : decode cX11_who 18 = .ok (.iload_n 1, 1) := by decide +kernel
theorem dX11_who_19 : decode cX11_who 19 = .ok (.iload_n 2, 1) := by decide +kernel
theorem dX11_who_20 : decode cX11_who 20 = .ok (.if_icmp .ne 5, 3) := by decide +kernel
theorem dX11_who_23 : decode cX11_who 23 = .ok (.iconst (-1), 1) := by decide +kernel
theorem dX11_who_24 : decode cX11_who 24 = .ok (.ireturn, 1) := by decide +kernel
theorem dX11_who_25 : decode cX11_who 25 = .ok (.iconst 0, 1) := by decide +kernel
theorem dX11_who_26 : decode cX11_who 26 = .ok (.istore_n 3, 1) := by decide +kernel
theorem dX11_who_27 : decode cX11_who 27 = .ok (.iconst 0, 1) := by decide +kernel
theorem dX11_who_28 : decode cX11_who 28 = .ok (.istore 4, 2) := by decide +kernel
theorem dX11_who_30 : decode cX11_who 30 = .ok (.iload 4, 2) := by decide +kernel
theorem dX11_who_32 : decode cX11_who 32 = .ok (.aload_n 0, 1) := by decide +kernel
theorem dX11_who_33 : decode cX11_who 33 = .ok (.getfield 80, 3) := by decide +kernel
theorem dX11_who_36 : decode cX11_who 36 = .ok (.getfield 136, 3) := by decide +kernel
theorem dX11_who_39 : decode cX11_who 39 = .ok (.if_icmp .ge 36, 3) := by decide +kernel
theorem dX11_who_42 : decode cX11_who 42 = .ok (.aload_n 0, 1) := by decide +kernel
theorem dX11_who_43 : decode cX11_who 43 = .ok (.getfield 80, 3) := by decide +kernel
theorem dX11_who_46 : decode cX11_who 46 = .ok (.iload 4, 2) := by decide +kernel
theorem dX11_who_48 : decode cX11_who 48 = .ok (.iload_n 1, 1) := by decide +kernel
theorem dX11_who_49 : decode cX11_who 49 = .ok (.bipush 20, 2) := by decide +kernel
theorem dX11_who_51 : decode cX11_who 51 = .ok (.isub, 1) := by decide +kernel
theorem dX11_who_52 : decode cX11_who 52 = .ok (.invokevirtual 234, 3) := by decide +kernel
theorem dX11_who_55 : decode cX11_who 55 = .ok (.iload_n 2, 1) := by decide +kernel
theorem dX11_who_56 : decode cX11_who 56 = .ok (.bipush 20, 2) := by decide +kernel
theorem dX11_who_58 : decode cX11_who 58 = .ok (.isub, 1) := by decide +kernel
theorem dX11_who_59 : decode cX11_who 59 = .ok (.if_icmp .ne 10, 3) := by decide +kernel
theorem dX11_who_62 : decode cX11_who 62 = .ok (.iload_n 3, 1) := by decide +kernel
theorem dX11_who_63 : decode cX11_who 63 = .ok (.iconst 1, 1) := by decide +kernel
theorem dX11_who_64 : decode cX11_who 64 = .ok (.iload 4, 2) := by decide +kernel
theorem dX11_who_66 : decode cX11_who 66 = .ok (.ishl, 1) := by decide +kernel
theorem dX11_who_67 : decode cX11_who 67 = .ok (.ior, 1) := by decide +kernel
theorem dX11_who_68 : decode cX11_who 68 = .ok (.istore_n 3, 1) := by decide +kernel
theorem dX11_who_69 : decode cX11_who 69 = .ok (.iinc 4 1, 3) := by decide +kernel
theorem dX11_who_72 : decode cX11_who 72 = .ok (.goto (-42), 3) := by decide +kernel
theorem dX11_who_75 : decode cX11_who 75 = .ok (.iload_n 3, 1) := by decide +kernel
theorem dX11_who_76 : decode cX11_who 76 = .ok (.ireturn, 1) := by decide +kernel
theorem dX11_ends_0 : decode cX11_ends 0 = .ok (.iload_n 1, 1) := by decide +kernel
theorem dX11_ends_1 : decode cX11_ends 1 = .ok (.aload_n 0, 1) := by decide +kernel
theorem dX11_ends_2 : decode cX11_ends 2 = .ok (.getfield 80, 3) := by decide +kernel
theorem dX11_ends_5 : decode cX11_ends 5 = .ok (.getfield 136, 3) := by decide +kernel
theorem dX11_ends_8 : decode cX11_ends 8 = .ok (.invokestatic 119, 3) := by decide +kernel
theorem dX11_ends_11 : decode cX11_ends 11 = .ok (.ifCond .ne 35, 3) := by decide +kernel
theorem dX11_ends_14 : decode cX11_ends 14 = .ok (.iload_n 2, 1) := by decide +kernel
theorem dX11_ends_15 : decode cX11_ends 15 = .ok (.aload_n 0, 1) := by decide +kernel
theorem dX11_ends_16 : decode cX11_ends 16 = .ok (.getfield 80, 3) := by decide +kernel
theorem dX11_ends_19 : decode cX11_ends 19 = .ok (.getfield 136, 3) := by decide +kernel
theorem dX11_ends_22 : decode cX11_ends 22 = .ok (.invokestatic 119, 3) := by decide +kernel
theorem dX11_ends_25 : decode cX11_ends 25 = .ok (.ifCond .ne 21, 3) := by decide +kernel
theorem dX11_ends_28 : decode cX11_ends 28 = .ok (.iload_n 3, 1) := by decide +kernel
theorem dX11_ends_29 : decode cX11_ends 29 = .ok (.bipush 41, 2) := by decide +kernel
theorem dX11_ends_31 : decode cX11_ends 31 = .ok (.invokestatic 119, 3) := by decide +kernel
theorem dX11_ends_34 : decode cX11_ends 34 = .ok (.ifCond .ne 12, 3) := by decide +kernel
theorem dX11_ends_37 : decode cX11_ends 37 = .ok (.iload 4, 2) := by decide +kernel
theorem dX11_ends_39 : decode cX11_ends 39 = .ok (.iconst 2, 1) := by decide +kernel
theorem dX11_ends_40 : decode cX11_ends 40 = .ok (.invokestatic 119, 3) := by decide +kernel
theorem dX11_ends_43 : decode cX11_ends 43 = .ok (.ifCond .eq 5, 3) := by decide +kernel
theorem dX11_ends_46 : decode cX11_ends 46 = .ok (.iconst (-1), 1) := by decide +kernel
theorem dX11_ends_47 : decode cX11_ends 47 = .ok (.ireturn, 1) := by decide +kernel
theorem dX11_ends_48 : decode cX11_ends 48 = .ok (.iload_n 3, 1) := by decide +kernel
theorem dX11_ends_49 : decode cX11_ends 49 = .ok (.bipush 20, 2) := by decide +kernel
theorem dX11_ends_51 : decode cX11_ends 51 = .ok (.isub, 1) := by decide +kernel
theorem dX11_ends_52 : decode cX11_ends 52 = .ok (.istore 5, 2) := by decide +kernel
theorem dX11_ends_54 : decode cX11_ends 54 = .ok (.iconst 0, 1) := by decide +kernel
theorem dX11_ends_55 : decode cX11_ends 55 = .ok (.istore 6, 2) := by decide +kernel
theorem dX11_ends_57 : decode cX11_ends 57 = .ok (.iload 6, 2) := by decide +kernel
theorem dX11_ends_59 : decode cX11_ends 59 = .ok (.bipush 80, 2) := by decide +kernel
theorem dX11_ends_61 : decode cX11_ends 61 = .ok (.if_icmp .gt 78, 3) := by decide +kernel
theorem dX11_ends_64 : decode cX11_ends 64 = .ok (.aload_n 0, 1) := by decide +kernel
theorem dX11_ends_65 : decode cX11_ends 65 = .ok (.getfield 80, 3) := by decide +kernel
theorem dX11_ends_68 : decode cX11_ends 68 = .ok (.iload_n 1, 1) := by decide +kernel
theorem dX11_ends_69 : decode cX11_ends 69 = .ok (.iload 5, 2) := by decide +kernel
theorem dX11_ends_71 : decode cX11_ends 71 = .ok (.invokevirtual 234, 3) := by decide +kernel
theorem dX11_ends_74 : decode cX11_ends 74 = .ok (.iload 5, 2) := by decide +kernel
theorem dX11_ends_76 : decode cX11_ends 76 = .ok (.if_icmp .ne 34, 3) := by decide +kernel
theorem dX11_ends_79 : decode cX11_ends 79 = .ok (.aload_n 0, 1) := by decide +kernel
theorem dX11_ends_80 : decode cX11_ends 80 = .ok (.getfield 80, 3) := by decide +kernel
theorem dX11_ends_83 : decode cX11_ends 83 = .ok (.iload_n 2, 1) := by decide +kernel
theorem dX11_ends_84 : decode cX11_ends 84 = .ok (.iload 5, 2) := by decide +kernel
theorem dX11_ends_86 : decode cX11_ends 86 = .ok (.invokevirtual 234, 3) := by decide +kernel
theorem dX11_ends_89 : decode cX11_ends 89 = .ok (.iload 5, 2) := by decide +kernel
theorem dX11_ends_91 : decode cX11_ends 91 = .ok (.if_icmp .ne 19, 3) := by decide +kernel
theorem dX11_ends_94 : decode cX11_ends 94 = .ok (.iload 4, 2) := by decide +kernel
theorem dX11_ends_96 : decode cX11_ends 96 = .ok (.ifCond .ne 11, 3) := by decide +kernel
theorem dX11_ends_99 : decode cX11_ends 99 = .ok (.iload 5, 2) := by decide +kernel
theorem dX11_ends_101 : decode cX11_ends 101 = .ok (.bipush 40, 2) := by decide +kernel
theorem dX11_ends_103 : decode cX11_ends 103 = .ok (.iadd, 1) := by decide +kernel
theorem dX11_ends_104 : decode cX11_ends 104 = .ok (.goto 5, 3) := by decide +kernel
theorem dX11_ends_107 : decode cX11_ends 107 = .ok (.iload 6, 2) := by decide +kernel
theorem dX11_ends_109 : decode cX11_ends 109 = .ok (.ireturn, 1) := by decide +kernel
theorem dX11_ends_110 : decode cX11_ends 110 = .ok (.aload_n 0, 1) := by decide +kernel
theorem dX11_ends_111 : decode cX11_ends 111 = .ok (.getfield 80, 3) := by decide +kernel
theorem dX11_ends_114 : decode cX11_ends 114 = .ok (.iload 6, 2) := by decide +kernel
theorem dX11_ends_116 : decode cX11_ends 116 = .ok (.iconst 2, 1) := by decide +kernel
theorem dX11_ends_117 : decode cX11_ends 117 = .ok (.irem, 1) := by decide +kernel
theorem dX11_ends_118 : decode cX11_ends 118 = .ok (.ifCond .ne 7, 3) := by decide +kernel
theorem dX11_ends_121 : decode cX11_ends 121 = .ok (.iload_n 1, 1) := by decide +kernel
theorem dX11_ends_122 : decode cX11_ends 122 = .ok (.goto 4, 3) := by decide +kernel
theorem dX11_ends_125 : decode cX11_ends 125 = .ok (.iload_n 2, 1) := by decide +kernel
theorem dX11_ends_126 : decode cX11_ends 126 = .ok (.iload 5, 2) := by decide +kernel
theorem dX11_ends_128 : decode cX11_ends 128 = .ok (.invokevirtual 234, 3) := by decide +kernel
theorem dX11_ends_131 : decode cX11_ends 131 = .ok (.istore 5, 2) := by decide +kernel
theorem dX11_ends_133 : decode cX11_ends 133 = .ok (.iinc 6 1, 3) := by decide +kernel
theorem dX11_ends_136 : decode cX11_ends 136 = .ok (.goto (-79), 3) := by decide +kernel
theorem dX11_ends_139 : decode cX11_ends 139 = .ok (.bipush (-4), 2) := by decide +kernel
theorem dX11_ends_141 : decode cX11_ends 141 = .ok (.ireturn, 1) := by decide +kernel
theorem dX11_wire_0 : decode cX11_wire 0 = .ok (.iload_n 1, 1) := by decide +kernel
theorem dX11_wire_1 : decode cX11_wire 1 = .ok (.bipush 41, 2) := by decide +kernel
theorem dX11_wire_3 : decode cX11_wire 3 = .ok (.invokestatic 119, 3) := by decide +kernel
theorem dX11_wire_6 : decode cX11_wire 6 = .ok (.ifCond .ne 53, 3) := by decide +kernel
theorem dX11_wire_9 : decode cX11_wire 9 = .ok (.iload_n 2, 1) := by decide +kernel
theorem dX11_wire_10 : decode cX11_wire 10 = .ok (.bipush 21, 2) := by decide +kernel
theorem dX11_wire_12 : decode cX11_wire 12 = .ok (.invokestatic 119, 3) := by decide +kernel
theorem dX11_wire_15 : decode cX11_wire 15 = .ok (.ifCond .ne 44, 3) := by decide +kernel
theorem dX11_wire_18 : decode cX11_wire 18 = .ok (.iload_n 3, 1) := by decide +kernel
theorem dX11_wire_19 : decode cX11_wire 19 = .ok (.bipush 7, 2) := by decide +kernel
theorem dX11_wire_21 : decode cX11_wire 21 = .ok (.invokestatic 119, 3) := by decide +kernel
theorem dX11_wire_24 : decode cX11_wire 24 = .ok (.ifCond .ne 35, 3) := by decide +kernel
theorem dX11_wire_27 : decode cX11_wire 27 = .ok (.iload 4, 2) := by decide +kernel
theorem dX11_wire_29 : decode cX11_wire 29 = .ok (.bipush 11, 2) := by decide +kernel
theorem dX11_wire_31 : decode cX11_wire 31 = .ok (.invokestatic 119, 3) := by decide +kernel
theorem dX11_wire_34 : decode cX11_wire 34 = .ok (.ifCond .ne 25, 3) := by decide +kernel
theorem dX11_wire_37 : decode cX11_wire 37 = .ok (.iload 5, 2) := by decide +kernel
theorem dX11_wire_39 : decode cX11_wire 39 = .ok (.bipush 11, 2) := by decide +kernel
theorem dX11_wire_41 : decode cX11_wire 41 = .ok (.iload 4, 2) := by decide +kernel
theorem dX11_wire_43 : decode cX11_wire 43 = .ok (.isub, 1) := by decide +kernel
theorem dX11_wire_44 : decode cX11_wire 44 = .ok (.invokestatic 119, 3) := by decide +kernel
theorem dX11_wire_47 : decode cX11_wire 47 = .ok (.ifCond .ne 12, 3) := by decide +kernel
theorem dX11_wire_50 : decode cX11_wire 50 = .ok (.iload 6, 2) := by decide +kernel
theorem dX11_wire_52 : decode cX11_wire 52 = .ok (.iconst 2, 1) := by decide +kernel
theorem dX11_wire_53 : decode cX11_wire 53 = .ok (.invokestatic 119, 3) := by decide +kernel
theorem dX11_wire_56 : decode cX11_wire 56 = .ok (.ifCond .eq 5, 3) := by decide +kernel
theorem dX11_wire_59 : decode cX11_wire 59 = .ok (.iconst (-1), 1) := by decide +kernel
theorem dX11_wire_60 : decode cX11_wire 60 = .ok (.ireturn, 1) := by decide +kernel
theorem dX11_wire_61 : decode cX11_wire 61 = .ok (.aload_n 0, 1) := by decide +kernel
theorem dX11_wire_62 : decode cX11_wire 62 = .ok (.getfield 73, 3) := by decide +kernel
theorem dX11_wire_65 : decode cX11_wire 65 = .ok (.iload_n 3, 1) := by decide +kernel
theorem dX11_wire_66 : decode cX11_wire 66 = .ok (.iload 4, 2) := by decide +kernel
theorem dX11_wire_68 : decode cX11_wire 68 = .ok (.iload 5, 2) := by decide +kernel
theorem dX11_wire_70 : decode cX11_wire 70 = .ok (.invokevirtual 237, 3) := by decide +kernel
theorem dX11_wire_73 : decode cX11_wire 73 = .ok (.aload_n 0, 1) := by decide +kernel
theorem dX11_wire_74 : decode cX11_wire 74 = .ok (.getfield 73, 3) := by decide +kernel
theorem dX11_wire_77 : decode cX11_wire 77 = .ok (.iload_n 1, 1) := by decide +kernel
theorem dX11_wire_78 : decode cX11_wire 78 = .ok (.bipush 20, 2) := by decide +kernel
theorem dX11_wire_80 : decode cX11_wire 80 = .ok (.isub, 1) := by decide +kernel
theorem dX11_wire_81 : decode cX11_wire 81 = .ok (.iload_n 2, 1) := by decide +kernel
theorem dX11_wire_82 : decode cX11_wire 82 = .ok (.invokevirtual 240, 3) := by decide +kernel
theorem dX11_wire_85 : decode cX11_wire 85 = .ok (.istore 7, 2) := by decide +kernel
theorem dX11_wire_87 : decode cX11_wire 87 = .ok (.aload_n 0, 1) := by decide +kernel
theorem dX11_wire_88 : decode cX11_wire 88 = .ok (.getfield 73, 3) := by decide +kernel
theorem dX11_wire_91 : decode cX11_wire 91 = .ok (.iload_n 3, 1) := by decide +kernel
theorem dX11_wire_92 : decode cX11_wire 92 = .ok (.invokevirtual 243, 3) := by decide +kernel
theorem dX11_wire_95 : decode cX11_wire 95 = .ok (.istore 8, 2) := by decide +kernel
theorem dX11_wire_97 : decode cX11_wire 97 = .ok (.iload 7, 2) := by decide +kernel
theorem dX11_wire_99 : decode cX11_wire 99 = .ok (.iload 8, 2) := by decide +kernel
theorem dX11_wire_101 : decode cX11_wire 101 = .ok (.invokestatic 246, 3) := by decide +kernel
theorem dX11_wire_104 : decode cX11_wire 104 = .ok (.istore 9, 2) := by decide +kernel
theorem dX11_wire_106 : decode cX11_wire 106 = .ok (.iload 6, 2) := by decide +kernel
theorem dX11_wire_108 : decode cX11_wire 108 = .ok (.ifCond .ne 8, 3) := by decide +kernel
theorem dX11_wire_111 : decode cX11_wire 111 = .ok (.iload 7, 2) := by decide +kernel
theorem dX11_wire_113 : decode cX11_wire 113 = .ok (.goto 5, 3) := by decide +kernel
theorem dX11_wire_116 : decode cX11_wire 116 = .ok (.iload 8, 2) := by decide +kernel
theorem dX11_wire_118 : decode cX11_wire 118 = .ok (.istore 10, 2) := by decide +kernel
theorem dX11_wire_120 : decode cX11_wire 120 = .ok (.iload 9, 2) := by decide +kernel
theorem dX11_wire_122 : decode cX11_wire 122 = .ok (.ifCond .le 11, 3) := by decide +kernel
theorem dX11_wire_125 : decode cX11_wire 125 = .ok (.iload 10, 2) := by decide +kernel
theorem dX11_wire_127 : decode cX11_wire 127 = .ok (.iload 9, 2) := by decide +kernel
theorem dX11_wire_129 : decode cX11_wire 129 = .ok (.idiv, 1) := by decide +kernel
theorem dX11_wire_130 : decode cX11_wire 130 = .ok (.goto 5, 3) := by decide +kernel
theorem dX11_wire_133 : decode cX11_wire 133 = .ok (.iload 10, 2) := by decide +kernel
theorem dX11_wire_135 : decode cX11_wire 135 = .ok (.ireturn, 1) := by decide +kernel
theorem dX11_most_0 : decode cX11_most 0 = .ok (.iload_n 1, 1) := by decide +kernel
theorem dX11_most_1 : decode cX11_most 1 = .ok (.iconst 2, 1) := by decide +kernel
theorem dX11_most_2 : decode cX11_most 2 = .ok (.invokestatic 119, 3) := by decide +kernel
theorem dX11_most_5 : decode cX11_most 5 = .ok (.ifCond .eq 5, 3) := by decide +kernel
theorem dX11_most_8 : decode cX11_most 8 = .ok (.iconst (-1), 1) := by decide +kernel
theorem dX11_most_9 : decode cX11_most 9 = .ok (.ireturn, 1) := by decide +kernel
theorem dX11_most_10 : decode cX11_most 10 = .ok (.aload_n 0, 1) := by decide +kernel
theorem dX11_most_11 : decode cX11_most 11 = .ok (.getfield 80, 3) := by decide +kernel
theorem dX11_most_14 : decode cX11_most 14 = .ok (.getfield 136, 3) := by decide +kernel
theorem dX11_most_17 : decode cX11_most 17 = .ok (.ifCond .ne 6, 3) := by decide +kernel
theorem dX11_most_20 : decode cX11_most 20 = .ok (.bipush (-4), 2) := by decide +kernel
theorem dX11_most_22 : decode cX11_most 22 = .ok (.ireturn, 1) := by decide +kernel
theorem dX11_most_23 : decode cX11_most 23 = .ok (.iconst 0, 1) := by decide +kernel
theorem dX11_most_24 : decode cX11_most 24 = .ok (.istore_n 2, 1) := by decide +kernel
theorem dX11_most_25 : decode cX11_most 25 = .ok (.iconst 1, 1) := by decide +kernel
theorem dX11_most_26 : decode cX11_most 26 = .ok (.istore_n 3, 1) := by decide +kernel
theorem dX11_most_27 : decode cX11_most 27 = .ok (.iload_n 3, 1) := by decide +kernel
theorem dX11_most_28 : decode cX11_most 28 = .ok (.aload_n 0, 1) := by decide +kernel
theorem dX11_most_29 : decode cX11_most 29 = .ok (.getfield 80, 3) := by decide +kernel
theorem dX11_most_32 : decode cX11_most 32 = .ok (.getfield 136, 3) := by decide +kernel
theorem dX11_most_35 : decode cX11_most 35 = .ok (.if_icmp .ge 30, 3) := by decide +kernel
theorem dX11_most_38 : decode cX11_most 38 = .ok (.aload_n 0, 1) := by decide +kernel
theorem dX11_most_39 : decode cX11_most 39 = .ok (.invokevirtual 145, 3) := by decide +kernel
theorem dX11_most_42 : decode cX11_most 42 = .ok (.iload_n 3, 1) := by decide +kernel
theorem dX11_most_43 : decode cX11_most 43 = .ok (.invokevirtual 249, 3) := by decide +kernel
theorem dX11_most_46 : decode cX11_most 46 = .ok (.aload_n 0, 1) := by decide +kernel
theorem dX11_most_47 : decode cX11_most 47 = .ok (.invokevirtual 145, 3) := by decide +kernel
theorem dX11_most_50 : decode cX11_most 50 = .ok (.iload_n 2, 1) := by decide +kernel
theorem dX11_most_51 : decode cX11_most 51 = .ok (.invokevirtual 249, 3) := by decide +kernel
theorem dX11_most_54 : decode cX11_most 54 = .ok (.if_icmp .le 5, 3) := by decide +kernel
theorem dX11_most_57 : decode cX11_most 57 = .ok (.iload_n 3, 1) := by decide +kernel
theorem dX11_most_58 : decode cX11_most 58 = .ok (.istore_n 2, 1) := by decide +kernel
theorem dX11_most_59 : decode cX11_most 59 = .ok (.iinc 3 1, 3) := by decide +kernel
theorem dX11_most_62 : decode cX11_most 62 = .ok (.goto (-35), 3) := by decide +kernel
theorem dX11_most_65 : decode cX11_most 65 = .ok (.iload_n 1, 1) := by decide +kernel
theorem dX11_most_66 : decode cX11_most 66 = .ok (.ifCond .ne 7, 3) := by decide +kernel
theorem dX11_most_69 : decode cX11_most 69 = .ok (.iload_n 2, 1) := by decide +kernel
theorem dX11_most_70 : decode cX11_most 70 = .ok (.goto 11, 3) := by decide +kernel
theorem dX11_most_73 : decode cX11_most 73 = .ok (.aload_n 0, 1) := by decide +kernel
theorem dX11_most_74 : decode cX11_most 74 = .ok (.invokevirtual 145, 3) := by decide +kernel
theorem dX11_most_77 : decode cX11_most 77 = .ok (.iload_n 2, 1) := by decide +kernel
theorem dX11_most_78 : decode cX11_most 78 = .ok (.invokevirtual 249, 3) := by decide +kernel
theorem dX11_most_81 : decode cX11_most 81 = .ok (.ireturn, 1) := by decide +kernel
theorem dX11_patches_0 : decode cX11_patches 0 = .ok (.iload_n 1, 1) := by decide +kernel
theorem dX11_patches_1 : decode cX11_patches 1 = .ok (.bipush 31, 2) := by decide +kernel
theorem dX11_patches_3 : decode cX11_patches 3 = .ok (.invokestatic 119, 3) := by decide +kernel
theorem dX11_patches_6 : decode cX11_patches 6 = .ok (.ifCond .eq 5, 3) := by decide +kernel
theorem dX11_patches_9 : decode cX11_patches 9 = .ok (.iconst (-1), 1) := by decide +kernel
theorem dX11_patches_10 : decode cX11_patches 10 = .ok (.ireturn, 1) := by decide +kernel
theorem dX11_patches_11 : decode cX11_patches 11 = .ok (.iconst 0, 1) := by decide +kernel
theorem dX11_patches_12 : decode cX11_patches 12 = .ok (.istore_n 2, 1) := by decide +kernel
theorem dX11_patches_13 : decode cX11_patches 13 = .ok (.iconst 0, 1) := by decide +kernel
theorem dX11_patches_14 : decode cX11_patches 14 = .ok (.istore_n 3, 1) := by decide +kernel
theorem dX11_patches_15 : decode cX11_patches 15 = .ok (.iload_n 3, 1) := by decide +kernel
theorem dX11_patches_16 : decode cX11_patches 16 = .ok (.aload_n 0, 1) := by decide +kernel
theorem dX11_patches_17 : decode cX11_patches 17 = .ok (.getfield 80, 3) := by decide +kernel
theorem dX11_patches_20 : decode cX11_patches 20 = .ok (.getfield 116, 3) := by decide +kernel
theorem dX11_patches_23 : decode cX11_patches 23 = .ok (.if_icmp .ge 35, 3) := by decide +kernel
theorem dX11_patches_26 : decode cX11_patches 26 = .ok (.aload_n 0, 1) := by decide +kernel
theorem dX11_patches_27 : decode cX11_patches 27 = .ok (.invokevirtual 145, 3) := by decide +kernel
theorem dX11_patches_30 : decode cX11_patches 30 = .ok (.getfield 149, 3) := by decide +kernel
theorem dX11_patches_33 : decode cX11_patches 33 = .ok (.iload_n 1, 1) := by decide +kernel
theorem dX11_patches_34 : decode cX11_patches 34 = .ok (.aaload, 1) := by decide +kernel
theorem dX11_patches_35 : decode cX11_patches 35 = .ok (.iload_n 3, 1) := by decide +kernel
theorem dX11_patches_36 : decode cX11_patches 36 = .ok (.iaload, 1) := by decide +kernel
theorem dX11_patches_37 : decode cX11_patches 37 = .ok (.aload_n 0, 1) := by decide +kernel
theorem dX11_patches_38 : decode cX11_patches 38 = .ok (.getfield 80, 3) := by decide +kernel
theorem dX11_patches_41 : decode cX11_patches 41 = .ok (.getfield 133, 3) := by decide +kernel
theorem dX11_patches_44 : decode cX11_patches 44 = .ok (.iload_n 3, 1) := by decide +kernel
theorem dX11_patches_45 : decode cX11_patches 45 = .ok (.iaload, 1) := by decide +kernel
theorem dX11_patches_46 : decode cX11_patches 46 = .ok (.if_icmp .ne 6, 3) := by decide +kernel
theorem dX11_patches_49 : decode cX11_patches 49 = .ok (.iinc 2 1, 3) := by decide +kernel
theorem dX11_patches_52 : decode cX11_patches 52 = .ok (.iinc 3 1, 3) := by decide +kernel
theorem dX11_patches_55 : decode cX11_patches 55 = .ok (.goto (-40), 3) := by decide +kernel
theorem dX11_patches_58 : decode cX11_patches 58 = .ok (.iload_n 2, 1) := by decide +kernel
theorem dX11_patches_59 : decode cX11_patches 59 = .ok (.ireturn, 1) := by decide +kernel
theorem dX11_night_0 : decode cX11_night 0 = .ok (.iload_n 1, 1) := by decide +kernel
theorem dX11_night_1 : decode cX11_night 1 = .ok (.sipush 10000, 3) := by decide +kernel
theorem dX11_night_4 : decode cX11_night 4 = .ok (.invokestatic 119, 3) := by decide +kernel
theorem dX11_night_7 : decode cX11_night 7 = .ok (.ifCond .ne 11, 3) := by decide +kernel
theorem dX11_night_10 : decode cX11_night 10 = .ok (.iload_n 2, 1) := by decide +kernel
theorem dX11_night_11 : decode cX11_night 11 = .ok (.iconst 2, 1) := by decide +kernel
theorem dX11_night_12 : decode cX11_night 12 = .ok (.invokestatic 119, 3) := by decide +kernel
theorem dX11_night_15 : decode cX11_night 15 = .ok (.ifCond .eq 5, 3) := by decide +kernel
theorem dX11_night_18 : decode cX11_night 18 = .ok (.iconst (-1), 1) := by decide +kernel
theorem dX11_night_19 : decode cX11_night 19 = .ok (.ireturn, 1) := by decide +kernel
theorem dX11_night_20 : decode cX11_night 20 = .ok (.aload_n 0, 1) := by decide +kernel
theorem dX11_night_21 : decode cX11_night 21 = .ok (.getfield 66, 3) := by decide +kernel
theorem dX11_night_24 : decode cX11_night 24 = .ok (.aload_n 0, 1) := by decide +kernel
theorem dX11_night_25 : decode cX11_night 25 = .ok (.getfield 80, 3) := by decide +kernel
theorem dX11_night_28 : decode cX11_night 28 = .ok (.iload_n 1, 1) := by decide +kernel
theorem dX11_night_29 : decode cX11_night 29 = .ok (.invokevirtual 252, 3) := by decide +kernel
theorem dX11_night_32 : decode cX11_night 32 = .ok (.istore_n 3, 1) := by decide +kernel
theorem dX11_night_33 : decode cX11_night 33 = .ok (.iload_n 2, 1) := by decide +kernel
theorem dX11_night_34 : decode cX11_night 34 = .ok (.ifCond .ne 7, 3) := by decide +kernel
theorem dX11_night_37 : decode cX11_night 37 = .ok (.iload_n 3, 1) := by decide +kernel
theorem dX11_night_38 : decode cX11_night 38 = .ok (.goto 15, 3) := by decide +kernel
theorem dX11_night_41 : decode cX11_night 41 = .ok (.aload_n 0, 1) := by decide +kernel
theorem dX11_night_42 : decode cX11_night 42 = .ok (.getfield 66, 3) := by decide +kernel
theorem dX11_night_45 : decode cX11_night 45 = .ok (.getfield 256, 3) := by decide +kernel
theorem dX11_night_48 : decode cX11_night 48 = .ok (.iconst 0, 1) := by decide +kernel
theorem dX11_night_49 : decode cX11_night 49 = .ok (.iaload, 1) := by decide +kernel
theorem dX11_night_50 : decode cX11_night 50 = .ok (.bipush 40, 2) := by decide +kernel
theorem dX11_night_52 : decode cX11_night 52 = .ok (.iadd, 1) := by decide +kernel
theorem dX11_night_53 : decode cX11_night 53 = .ok (.ireturn, 1) := by decide +kernel
theorem dX11_keep_0 : decode cX11_keep 0 = .ok (.aload_n 0, 1) := by decide +kernel
theorem dX11_keep_1 : decode cX11_keep 1 = .ok (.getfield 39, 3) := by decide +kernel
theorem dX11_keep_4 : decode cX11_keep 4 = .ok (.getfield 196, 3) := by decide +kernel
theorem dX11_keep_7 : decode cX11_keep 7 = .ok (.iconst 2, 1) := by decide +kernel
theorem dX11_keep_8 : decode cX11_keep 8 = .ok (.if_icmp .lt 6, 3) := by decide +kernel
theorem dX11_keep_11 : decode cX11_keep 11 = .ok (.bipush (-3), 2) := by decide +kernel
theorem dX11_keep_13 : decode cX11_keep 13 = .ok (.ireturn, 1) := by decide +kernel
theorem dX11_keep_14 : decode cX11_keep 14 = .ok (.aload_n 0, 1) := by decide +kernel
theorem dX11_keep_15 : decode cX11_keep 15 = .ok (.getfield 39, 3) := by decide +kernel
theorem dX11_keep_18 : decode cX11_keep 18 = .ok (.aload_n 0, 1) := by decide +kernel
theorem dX11_keep_19 : decode cX11_keep 19 = .ok (.getfield 26, 3) := by decide +kernel
theorem dX11_keep_22 : decode cX11_keep 22 = .ok (.invokevirtual 178, 3) := by decide +kernel
theorem dX11_keep_25 : decode cX11_keep 25 = .ok (.aload_n 0, 1) := by decide +kernel
theorem dX11_keep_26 : decode cX11_keep 26 = .ok (.getfield 39, 3) := by decide +kernel
theorem dX11_keep_29 : decode cX11_keep 29 = .ok (.getfield 196, 3) := by decide +kernel
theorem dX11_keep_32 : decode cX11_keep 32 = .ok (.ireturn, 1) := by decide +kernel
theorem dX11_back_0 : decode cX11_back 0 = .ok (.aload_n 0, 1) := by decide +kernel
theorem dX11_back_1 : decode cX11_back 1 = .ok (.getfield 39, 3) := by decide +kernel
theorem dX11_back_4 : decode cX11_back 4 = .ok (.aload_n 0, 1) := by decide +kernel
theorem dX11_back_5 : decode cX11_back 5 = .ok (.getfield 26, 3) := by decide +kernel
theorem dX11_back_8 : decode cX11_back 8 = .ok (.invokevirtual 192, 3) := by decide +kernel
theorem dX11_back_11 : decode cX11_back 11 = .ok (.ifCond .ne 6, 3) := by decide +kernel
theorem dX11_back_14 : decode cX11_back 14 = .ok (.bipush (-2), 2) := by decide +kernel
theorem dX11_back_16 : decode cX11_back 16 = .ok (.ireturn, 1) := by decide +kernel
theorem dX11_back_17 : decode cX11_back 17 = .ok (.aload_n 0, 1) := by decide +kernel
theorem dX11_back_18 : decode cX11_back 18 = .ok (.getfield 35, 3) := by decide +kernel
theorem dX11_back_21 : decode cX11_back 21 = .ok (.iconst 0, 1) := by decide +kernel
theorem dX11_back_22 : decode cX11_back 22 = .ok (.putfield 196, 3) := by decide +kernel
theorem dX11_back_25 : decode cX11_back 25 = .ok (.aload_n 0, 1) := by decide +kernel
theorem dX11_back_26 : decode cX11_back 26 = .ok (.getfield 45, 3) := by decide +kernel
theorem dX11_back_29 : decode cX11_back 29 = .ok (.iconst 1, 1) := by decide +kernel
theorem dX11_back_30 : decode cX11_back 30 = .ok (.putfield 185, 3) := by decide +kernel
theorem dX11_back_33 : decode cX11_back 33 = .ok (.aload_n 0, 1) := by decide +kernel
theorem dX11_back_34 : decode cX11_back 34 = .ok (.getfield 39, 3) := by decide +kernel
theorem dX11_back_37 : decode cX11_back 37 = .ok (.getfield 196, 3) := by decide +kernel
theorem dX11_back_40 : decode cX11_back 40 = .ok (.ireturn, 1) := by decide +kernel
theorem dX11_count_0 : decode cX11_count 0 = .ok (.iload_n 1, 1) := by decide +kernel
theorem dX11_count_1 : decode cX11_count 1 = .ok (.tableswitch 111 0 7 #[47, 55, 63, 71, 79, 87, 95, 103], 47) := by decide +kernel
theorem dX11_count_48 : decode cX11_count 48 = .ok (.aload_n 0, 1) := by decide +kernel
theorem dX11_count_49 : decode cX11_count 49 = .ok (.getfield 80, 3) := by decide +kernel
theorem dX11_count_52 : decode cX11_count 52 = .ok (.getfield 116, 3) := by decide +kernel
theorem dX11_count_55 : decode cX11_count 55 = .ok (.ireturn, 1) := by decide +kernel
theorem dX11_count_56 : decode cX11_count 56 = .ok (.aload_n 0, 1) := by decide +kernel
theorem dX11_count_57 : decode cX11_count 57 = .ok (.getfield 80, 3) := by decide +kernel
theorem dX11_count_60 : decode cX11_count 60 = .ok (.getfield 136, 3) := by decide +kernel
theorem dX11_count_63 : decode cX11_count 63 = .ok (.ireturn, 1) := by decide +kernel
theorem dX11_count_64 : decode cX11_count 64 = .ok (.aload_n 0, 1) := by decide +kernel
theorem dX11_count_65 : decode cX11_count 65 = .ok (.getfield 80, 3) := by decide +kernel
theorem dX11_count_68 : decode cX11_count 68 = .ok (.getfield 259, 3) := by decide +kernel
theorem dX11_count_71 : decode cX11_count 71 = .ok (.ireturn, 1) := by decide +kernel
theorem dX11_count_72 : decode cX11_count 72 = .ok (.aload_n 0, 1) := by decide +kernel
theorem dX11_count_73 : decode cX11_count 73 = .ok (.getfield 26, 3) := by decide +kernel
theorem dX11_count_76 : decode cX11_count 76 = .ok (.getfield 167, 3) := by decide +kernel
theorem dX11_count_79 : decode cX11_count 79 = .ok (.ireturn, 1) := by decide +kernel
theorem dX11_count_80 : decode cX11_count 80 = .ok (.aload_n 0, 1) := by decide +kernel
theorem dX11_count_81 : decode cX11_count 81 = .ok (.getfield 59, 3) := by decide +kernel
theorem dX11_count_84 : decode cX11_count 84 = .ok (.getfield 221, 3) := by decide +kernel
theorem dX11_count_87 : decode cX11_count 87 = .ok (.ireturn, 1) := by decide +kernel
theorem dX11_count_88 : decode cX11_count 88 = .ok (.aload_n 0, 1) := by decide +kernel
theorem dX11_count_89 : decode cX11_count 89 = .ok (.getfield 35, 3) := by decide +kernel
theorem dX11_count_92 : decode cX11_count 92 = .ok (.getfield 196, 3) := by decide +kernel
theorem dX11_count_95 : decode cX11_count 95 = .ok (.ireturn, 1) := by decide +kernel
theorem dX11_count_96 : decode cX11_count 96 = .ok (.aload_n 0, 1) := by decide +kernel
theorem dX11_count_97 : decode cX11_count 97 = .ok (.getfield 39, 3) := by decide +kernel
theorem dX11_count_100 : decode cX11_count 100 = .ok (.getfield 196, 3) := by decide +kernel
theorem dX11_count_103 : decode cX11_count 103 = .ok (.ireturn, 1) := by decide +kernel
theorem dX11_count_104 : decode cX11_count 104 = .ok (.aload_n 0, 1) := by decide +kernel
theorem dX11_count_105 : decode cX11_count 105 = .ok (.getfield 10, 3) := by decide +kernel
theorem dX11_count_108 : decode cX11_count 108 = .ok (.getfield 113, 3) := by decide +kernel
theorem dX11_count_111 : decode cX11_count 111 = .ok (.ireturn, 1) := by decide +kernel
theorem dX11_count_112 : decode cX11_count 112 = .ok (.iconst (-1), 1) := by decide +kernel
theorem dX11_count_113 : decode cX11_count 113 = .ok (.ireturn, 1) := by decide +kernel
theorem dX11_moveIn_0 : decode cX11_moveIn 0 = .ok (.aload_n 0, 1) := by decide +kernel
theorem dX11_moveIn_1 : decode cX11_moveIn 1 = .ok (.getfield 80, 3) := by decide +kernel
theorem dX11_moveIn_4 : decode cX11_moveIn 4 = .ok (.astore_n 1, 1) := by decide +kernel
theorem dX11_moveIn_5 : decode cX11_moveIn 5 = .ok (.aload_n 0, 1) := by decide +kernel
theorem dX11_moveIn_6 : decode cX11_moveIn 6 = .ok (.aload_n 0, 1) := by decide +kernel
theorem dX11_moveIn_7 : decode cX11_moveIn 7 = .ok (.getfield 84, 3) := by decide +kernel
theorem dX11_moveIn_10 : decode cX11_moveIn 10 = .ok (.putfield 80, 3) := by decide +kernel
theorem dX11_moveIn_13 : decode cX11_moveIn 13 = .ok (.aload_n 0, 1) := by decide +kernel
theorem dX11_moveIn_14 : decode cX11_moveIn 14 = .ok (.aload_n 1, 1) := by decide +kernel
theorem dX11_moveIn_15 : decode cX11_moveIn 15 = .ok (.putfield 84, 3) := by decide +kernel
theorem dX11_moveIn_18 : decode cX11_moveIn 18 = .ok (.aload_n 0, 1) := by decide +kernel
theorem dX11_moveIn_19 : decode cX11_moveIn 19 = .ok (.getfield 26, 3) := by decide +kernel
theorem dX11_moveIn_22 : decode cX11_moveIn 22 = .ok (.aload_n 0, 1) := by decide +kernel
theorem dX11_moveIn_23 : decode cX11_moveIn 23 = .ok (.getfield 80, 3) := by decide +kernel
theorem dX11_moveIn_26 : decode cX11_moveIn 26 = .ok (.getfield 262, 3) := by decide +kernel
theorem dX11_moveIn_29 : decode cX11_moveIn 29 = .ok (.invokevirtual 265, 3) := by decide +kernel
theorem dX11_moveIn_32 : decode cX11_moveIn 32 = .ok (.aload_n 0, 1) := by decide +kernel
theorem dX11_moveIn_33 : decode cX11_moveIn 33 = .ok (.getfield 35, 3) := by decide +kernel
theorem dX11_moveIn_36 : decode cX11_moveIn 36 = .ok (.iconst 0, 1) := by decide +kernel
theorem dX11_moveIn_37 : decode cX11_moveIn 37 = .ok (.putfield 196, 3) := by decide +kernel
theorem dX11_moveIn_40 : decode cX11_moveIn 40 = .ok (.aload_n 0, 1) := by decide +kernel
theorem dX11_moveIn_41 : decode cX11_moveIn 41 = .ok (.getfield 39, 3) := by decide +kernel
theorem dX11_moveIn_44 : decode cX11_moveIn 44 = .ok (.iconst 0, 1) := by decide +kernel
theorem dX11_moveIn_45 : decode cX11_moveIn 45 = .ok (.putfield 196, 3) := by decide +kernel
theorem dX11_moveIn_48 : decode cX11_moveIn 48 = .ok (.aload_n 0, 1) := by decide +kernel
theorem dX11_moveIn_49 : decode cX11_moveIn 49 = .ok (.getfield 59, 3) := by decide +kernel
theorem dX11_moveIn_52 : decode cX11_moveIn 52 = .ok (.invokevirtual 222, 3) := by decide +kernel
theorem dX11_moveIn_55 : decode cX11_moveIn 55 = .ok (.pop, 1) := by decide +kernel
theorem dX11_moveIn_56 : decode cX11_moveIn 56 = .ok (.aload_n 0, 1) := by decide +kernel
theorem dX11_moveIn_57 : decode cX11_moveIn 57 = .ok (.getfield 45, 3) := by decide +kernel
theorem dX11_moveIn_60 : decode cX11_moveIn 60 = .ok (.iconst 1, 1) := by decide +kernel
theorem dX11_moveIn_61 : decode cX11_moveIn 61 = .ok (.putfield 185, 3) := by decide +kernel
theorem dX11_moveIn_64 : decode cX11_moveIn 64 = .ok (.return_, 1) := by decide +kernel
theorem dX11_daysNow_0 : decode cX11_daysNow 0 = .ok (.aload_n 0, 1) := by decide +kernel
theorem dX11_daysNow_1 : decode cX11_daysNow 1 = .ok (.getfield 45, 3) := by decide +kernel
theorem dX11_daysNow_4 : decode cX11_daysNow 4 = .ok (.getfield 185, 3) := by decide +kernel
theorem dX11_daysNow_7 : decode cX11_daysNow 7 = .ok (.ifCond .eq 18, 3) := by decide +kernel
theorem dX11_daysNow_10 : decode cX11_daysNow 10 = .ok (.aload_n 0, 1) := by decide +kernel
theorem dX11_daysNow_11 : decode cX11_daysNow 11 = .ok (.getfield 45, 3) := by decide +kernel
theorem dX11_daysNow_14 : decode cX11_daysNow 14 = .ok (.aload_n 0, 1) := by decide +kernel
theorem dX11_daysNow_15 : decode cX11_daysNow 15 = .ok (.getfield 80, 3) := by decide +kernel
theorem dX11_daysNow_18 : decode cX11_daysNow 18 = .ok (.aload_n 0, 1) := by decide +kernel
theorem dX11_daysNow_19 : decode cX11_daysNow 19 = .ok (.getfield 26, 3) := by decide +kernel
theorem dX11_daysNow_22 : decode cX11_daysNow 22 = .ok (.invokevirtual 268, 3) := by decide +kernel
theorem dX11_daysNow_25 : decode cX11_daysNow 25 = .ok (.aload_n 0, 1) := by decide +kernel
theorem dX11_daysNow_26 : decode cX11_daysNow 26 = .ok (.getfield 45, 3) := by decide +kernel
theorem dX11_daysNow_29 : decode cX11_daysNow 29 = .ok (.areturn, 1) := by decide +kernel
theorem dX11_outside_0 : decode cX11_outside 0 = .ok (.iload_n 0, 1) := by decide +kernel
theorem dX11_outside_1 : decode cX11_outside 1 = .ok (.ifCond .lt 8, 3) := by decide +kernel
theorem dX11_outside_4 : decode cX11_outside 4 = .ok (.iload_n 0, 1) := by decide +kernel
theorem dX11_outside_5 : decode cX11_outside 5 = .ok (.iload_n 1, 1) := by decide +kernel
theorem dX11_outside_6 : decode cX11_outside 6 = .ok (.if_icmp .lt 7, 3) := by decide +kernel
theorem dX11_outside_9 : decode cX11_outside 9 = .ok (.iconst 1, 1) := by decide +kernel
theorem dX11_outside_10 : decode cX11_outside 10 = .ok (.goto 4, 3) := by decide +kernel
theorem dX11_outside_13 : decode cX11_outside 13 = .ok (.iconst 0, 1) := by decide +kernel
theorem dX11_outside_14 : decode cX11_outside 14 = .ok (.ireturn, 1) := by decide +kernel
theorem dX11_keptWithin_0 : decode cX11_keptWithin 0 = .ok (.bipush (-40), 2) := by decide +kernel
theorem dX11_keptWithin_2 : decode cX11_keptWithin 2 = .ok (.bipush 40, 2) := by decide +kernel
theorem dX11_keptWithin_4 : decode cX11_keptWithin 4 = .ok (.iload_n 0, 1) := by decide +kernel
theorem dX11_keptWithin_5 : decode cX11_keptWithin 5 = .ok (.invokestatic 271, 3) := by decide +kernel
theorem dX11_keptWithin_8 : decode cX11_keptWithin 8 = .ok (.invokestatic 274, 3) := by decide +kernel
theorem dX11_keptWithin_11 : decode cX11_keptWithin 11 = .ok (.ireturn, 1) := by decide +kernel
theorem dX12_init_0 : decode cX12_init 0 = .ok (.aload_n 0, 1) := by decide +kernel
theorem dX12_init_1 : decode cX12_init 1 = .ok (.invokespecial 1, 3) := by decide +kernel
theorem dX12_init_4 : decode cX12_init 4 = .ok (.aload_n 0, 1) := by decide +kernel
theorem dX12_init_5 : decode cX12_init 5 = .ok (.iconst 4, 1) := by decide +kernel
theorem dX12_init_6 : decode cX12_init 6 = .ok (.putfield 7, 3) := by decide +kernel
theorem dX12_init_9 : decode cX12_init 9 = .ok (.aload_n 0, 1) := by decide +kernel
theorem dX12_init_10 : decode cX12_init 10 = .ok (.bipush 28, 2) := by decide +kernel
theorem dX12_init_12 : decode cX12_init 12 = .ok (.newarray .int, 2) := by decide +kernel
theorem dX12_init_14 : decode cX12_init 14 = .ok (.putfield 13, 3) := by decide +kernel
theorem dX12_init_17 : decode cX12_init 17 = .ok (.aload_n 0, 1) := by decide +kernel
theorem dX12_init_18 : decode cX12_init 18 = .ok (.iconst 3, 1) := by decide +kernel
theorem dX12_init_19 : decode cX12_init 19 = .ok (.putfield 17, 3) := by decide +kernel
theorem dX12_init_22 : decode cX12_init 22 = .ok (.aload_n 0, 1) := by decide +kernel
theorem dX12_init_23 : decode cX12_init 23 = .ok (.bipush 10, 2) := by decide +kernel
theorem dX12_init_25 : decode cX12_init 25 = .ok (.newarray .int, 2) := by decide +kernel
theorem dX12_init_27 : decode cX12_init 27 = .ok (.putfield 20, 3) := by decide +kernel
theorem dX12_init_30 : decode cX12_init 30 = .ok (.aload_n 0, 1) := by decide +kernel
theorem dX12_init_31 : decode cX12_init 31 = .ok (.iconst 4, 1) := by decide +kernel
theorem dX12_init_32 : decode cX12_init 32 = .ok (.putfield 23, 3) := by decide +kernel
theorem dX12_init_35 : decode cX12_init 35 = .ok (.aload_n 0, 1) := by decide +kernel
theorem dX12_init_36 : decode cX12_init 36 = .ok (.bipush 30, 2) := by decide +kernel
theorem dX12_init_38 : decode cX12_init 38 = .ok (.newarray .int, 2) := by decide +kernel
theorem dX12_init_40 : decode cX12_init 40 = .ok (.putfield 26, 3) := by decide +kernel
theorem dX12_init_43 : decode cX12_init 43 = .ok (.aload_n 0, 1) := by decide +kernel
theorem dX12_init_44 : decode cX12_init 44 = .ok (.bipush 10, 2) := by decide +kernel
theorem dX12_init_46 : decode cX12_init 46 = .ok (.newarray .int, 2) := by decide +kernel
theorem dX12_init_48 : decode cX12_init 48 = .ok (.putfield 29, 3) := by decide +kernel
theorem dX12_init_51 : decode cX12_init 51 = .ok (.aload_n 0, 1) := by decide +kernel
theorem dX12_init_52 : decode cX12_init 52 = .ok (.bipush 25, 2) := by decide +kernel
theorem dX12_init_54 : decode cX12_init 54 = .ok (.newarray .int, 2) := by decide +kernel
theorem dX12_init_56 : decode cX12_init 56 = .ok (.putfield 32, 3) := by decide +kernel
theorem dX12_init_59 : decode cX12_init 59 = .ok (.aload_n 0, 1) := by decide +kernel
theorem dX12_init_60 : decode cX12_init 60 = .ok (.sipush 200, 3) := by decide +kernel
theorem dX12_init_63 : decode cX12_init 63 = .ok (.newarray .int, 2) := by decide +kernel
theorem dX12_init_65 : decode cX12_init 65 = .ok (.putfield 35, 3) := by decide +kernel
theorem dX12_init_68 : decode cX12_init 68 = .ok (.aload_n 0, 1) := by decide +kernel
theorem dX12_init_69 : decode cX12_init 69 = .ok (.bipush 50, 2) := by decide +kernel
theorem dX12_init_71 : decode cX12_init 71 = .ok (.newarray .int, 2) := by decide +kernel
theorem dX12_init_73 : decode cX12_init 73 = .ok (.putfield 38, 3) := by decide +kernel
theorem dX12_init_76 : decode cX12_init 76 = .ok (.aload_n 0, 1) := by decide +kernel
theorem dX12_init_77 : decode cX12_init 77 = .ok (.bipush 16, 2) := by decide +kernel
theorem dX12_init_79 : decode cX12_init 79 = .ok (.newarray .int, 2) := by decide +kernel
theorem dX12_init_81 : decode cX12_init 81 = .ok (.putfield 41, 3) := by decide +kernel
theorem dX12_init_84 : decode cX12_init 84 = .ok (.aload_n 0, 1) := by decide +kernel
theorem dX12_init_85 : decode cX12_init 85 = .ok (.sipush 200, 3) := by decide +kernel
theorem dX12_init_88 : decode cX12_init 88 = .ok (.newarray .int, 2) := by decide +kernel
theorem dX12_init_90 : decode cX12_init 90 = .ok (.putfield 44, 3) := by decide +kernel
theorem dX12_init_93 : decode cX12_init 93 = .ok (.aload_n 0, 1) := by decide +kernel
theorem dX12_init_94 : decode cX12_init 94 = .ok (.iconst 4, 1) := by decide +kernel
theorem dX12_init_95 : decode cX12_init 95 = .ok (.newarray .int, 2) := by decide +kernel
theorem dX12_init_97 : decode cX12_init 97 = .ok (.putfield 47, 3) := by decide +kernel
theorem dX12_init_100 : decode cX12_init 100 = .ok (.aload_n 0, 1) := by decide +kernel
theorem dX12_init_101 : decode cX12_init 101 = .ok (.bipush 28, 2) := by decide +kernel
theorem dX12_init_103 : decode cX12_init 103 = .ok (.newarray .int, 2) := by decide +kernel
theorem dX12_init_105 : decode cX12_init 105 = .ok (.putfield 50, 3) := by decide +kernel
theorem dX12_init_108 : decode cX12_init 108 = .ok (.aload_n 0, 1) := by decide +kernel
theorem dX12_init_109 : decode cX12_init 109 = .ok (.bipush 10, 2) := by decide +kernel
theorem dX12_init_111 : decode cX12_init 111 = .ok (.newarray .int, 2) := by decide +kernel
theorem dX12_init_113 : decode cX12_init 113 = .ok (.putfield 53, 3) := by decide +kernel
theorem dX12_init_116 : decode cX12_init 116 = .ok (.aload_n 0, 1) := by decide +kernel
theorem dX12_init_117 : decode cX12_init 117 = .ok (.bipush 30, 2) := by decide +kernel
theorem dX12_init_119 : decode cX12_init 119 = .ok (.newarray .int, 2) := by decide +kernel
theorem dX12_init_121 : decode cX12_init 121 = .ok (.putfield 56, 3) := by decide +kernel
theorem dX12_init_124 : decode cX12_init 124 = .ok (.aload_n 0, 1) := by decide +kernel
theorem dX12_init_125 : decode cX12_init 125 = .ok (.bipush 25, 2) := by decide +kernel
theorem dX12_init_127 : decode cX12_init 127 = .ok (.newarray .int, 2) := by decide +kernel
theorem dX12_init_129 : decode cX12_init 129 = .ok (.putfield 59, 3) := by decide +kernel
theorem dX12_init_132 : decode cX12_init 132 = .ok (.aload_n 0, 1) := by decide +kernel
theorem dX12_init_133 : decode cX12_init 133 = .ok (.bipush 7, 2) := by decide +kernel
theorem dX12_init_135 : decode cX12_init 135 = .ok (.newarray .int, 2) := by decide +kernel
theorem dX12_init_137 : decode cX12_init 137 = .ok (.putfield 62, 3) := by decide +kernel
theorem dX12_init_140 : decode cX12_init 140 = .ok (.aload_n 0, 1) := by decide +kernel
theorem dX12_init_141 : decode cX12_init 141 = .ok (.bipush 7, 2) := by decide +kernel
theorem dX12_init_143 : decode cX12_init 143 = .ok (.newarray .int, 2) := by decide +kernel
theorem dX12_init_145 : decode cX12_init 145 = .ok (.putfield 65, 3) := by decide +kernel
theorem dX12_init_148 : decode cX12_init 148 = .ok (.aload_n 0, 1) := by decide +kernel
theorem dX12_init_149 : decode cX12_init 149 = .ok (.iconst 5, 1) := by decide +kernel
theorem dX12_init_150 : decode cX12_init 150 = .ok (.newarray .int, 2) := by decide +kernel
theorem dX12_init_152 : decode cX12_init 152 = .ok (.putfield 68, 3) := by decide +kernel
theorem dX12_init_155 : decode cX12_init 155 = .ok (.aload_n 0, 1) := by decide +kernel
theorem dX12_init_156 : decode cX12_init 156 = .ok (.bipush 7, 2) := by decide +kernel
theorem dX12_init_158 : decode cX12_init 158 = .ok (.newarray .int, 2) := by decide +kernel
theorem dX12_init_160 : decode cX12_init 160 = .ok (.putfield 71, 3) := by decide +kernel
theorem dX12_init_163 : decode cX12_init 163 = .ok (.aload_n 0, 1) := by decide +kernel
theorem dX12_init_164 : decode cX12_init 164 = .ok (.bipush 13, 2) := by decide +kernel
theorem dX12_init_166 : decode cX12_init 166 = .ok (.newarray .int, 2) := by decide +kernel
theorem dX12_init_168 : decode cX12_init 168 = .ok (.putfield 74, 3) := by decide +kernel
theorem dX12_init_171 : decode cX12_init 171 = .ok (.aload_n 0, 1) := by decide +kernel
theorem dX12_init_172 : decode cX12_init 172 = .ok (.iconst 5, 1) := by decide +kernel
theorem dX12_init_173 : decode cX12_init 173 = .ok (.newarray .int, 2) := by decide +kernel
theorem dX12_init_175 : decode cX12_init 175 = .ok (.putfield 77, 3) := by decide +kernel
theorem dX12_init_178 : decode cX12_init 178 = .ok (.aload_n 0, 1) := by decide +kernel
theorem dX12_init_179 : decode cX12_init 179 = .ok (.getfield 13, 3) := by decide +kernel
theorem dX12_init_182 : decode cX12_init 182 = .ok (.iconst 0, 1) := by decide +kernel
theorem dX12_init_183 : decode cX12_init 183 = .ok (.iconst 0, 1) := by decide +kernel
theorem dX12_init_184 : decode cX12_init 184 = .ok (.iconst 3, 1) := by decide +kernel
theorem dX12_init_185 : decode cX12_init 185 = .ok (.iconst 1, 1) := by decide +kernel
theorem dX12_init_186 : decode cX12_init 186 = .ok (.invokestatic 80, 3) := by decide +kernel
theorem dX12_init_189 : decode cX12_init 189 = .ok (.aload_n 0, 1) := by decide +kernel
theorem dX12_init_190 : decode cX12_init 190 = .ok (.getfield 13, 3) := by decide +kernel
theorem dX12_init_193 : decode cX12_init 193 = .ok (.iconst 4, 1) := by decide +kernel
theorem dX12_init_194 : decode cX12_init 194 = .ok (.iconst 0, 1) := by decide +kernel
theorem dX12_init_195 : decode cX12_init 195 = .ok (.iconst 0, 1) := by decide +kernel
theorem dX12_init_196 : decode cX12_init 196 = .ok (.iconst 0, 1) := by decide +kernel
theorem dX12_init_197 : decode cX12_init 197 = .ok (.invokestatic 80, 3) := by decide +kernel
theorem dX12_init_200 : decode cX12_init 200 = .ok (.aload_n 0, 1) := by decide +kernel
theorem dX12_init_201 : decode cX12_init 201 = .ok (.getfield 13, 3) := by decide +kernel
theorem dX12_init_204 : decode cX12_init 204 = .ok (.bipush 8, 2) := by decide +kernel
theorem dX12_init_206 : decode cX12_init 206 = .ok (.iconst 1, 1) := by decide +kernel
theorem dX12_init_207 : decode cX12_init 207 = .ok (.bipush (-5), 2) := by decide +kernel
theorem dX12_init_209 : decode cX12_init 209 = .ok (.iconst 0, 1) := by decide +kernel
theorem dX12_init_210 : decode cX12_init 210 = .ok (.invokestatic 80, 3) := by decide +kernel
theorem dX12_init_213 : decode cX12_init 213 = .ok (.aload_n 0, 1) := by decide +kernel
theorem dX12_init_214 : decode cX12_init 214 = .ok (.getfield 13, 3) := by decide +kernel
theorem dX12_init_217 : decode cX12_init 217 = .ok (.bipush 12, 2) := by decide +kernel
theorem dX12_init_219 : decode cX12_init 219 = .ok (.iconst 1, 1) := by decide +kernel
theorem dX12_init_220 : decode cX12_init 220 = .ok (.bipush 6, 2) := by decide +kernel
theorem dX12_init_222 : decode cX12_init 222 = .ok (.iconst (-1), 1) := by decide +kernel
theorem dX12_init_223 : decode cX12_init 223 = .ok (.invokestatic 80, 3) := by decide +kernel
theorem dX12_init_226 : decode cX12_init 226 = .ok (.aload_n 0, 1) := by decide +kernel
theorem dX12_init_227 : decode cX12_init 227 = .ok (.getfield 13, 3) := by decide +kernel
theorem dX12_init_230 : decode cX12_init 230 = .ok (.bipush 11, 2) := by decide +kernel
theorem dX12_init_232 : decode cX12_init 232 = .ok (.bipush (-4), 2) := by decide +kernel
theorem dX12_init_234 : decode cX12_init 234 = .ok (.iastore, 1) := by decide +kernel
theorem dX12_init_235 : decode cX12_init 235 = .ok (.aload_n 0, 1) := by decide +kernel
theorem dX12_init_236 : decode cX12_init 236 = .ok (.getfield 20, 3) := by decide +kernel
theorem dX12_init_239 : decode cX12_init 239 = .ok (.iconst 0, 1) := by decide +kernel
theorem dX12_init_240 : decode cX12_init 240 = .ok (.iconst 0, 1) := by decide +kernel
theorem dX12_init_241 : decode cX12_init 241 = .ok (.iconst 2, 1) := by decide +kernel
theorem dX12_init_242 : decode cX12_init 242 = .ok (.iconst 1, 1) := by decide +kernel
theorem dX12_init_243 : decode cX12_init 243 = .ok (.invokestatic 80, 3) := by decide +kernel
theorem dX12_init_246 : decode cX12_init 246 = .ok (.aload_n 0, 1) := by decide +kernel
theorem dX12_init_247 : decode cX12_init 247 = .ok (.getfield 20, 3) := by decide +kernel
theorem dX12_init_250 : decode cX12_init 250 = .ok (.iconst 3, 1) := by decide +kernel
theorem dX12_init_251 : decode cX12_init 251 = .ok (.iconst 1, 1) := by decide +kernel
theorem dX12_init_252 : decode cX12_init 252 = .ok (.iconst 2, 1) := by decide +kernel
theorem dX12_init_253 : decode cX12_init 253 = .ok (.iconst 3, 1) := by decide +kernel
theorem dX12_init_254 : decode cX12_init 254 = .ok (.invokestatic 80, 3) := by decide +kernel
theorem dX12_init_257 : decode cX12_init 257 = .ok (.aload_n 0, 1) := by decide +kernel
theorem dX12_init_258 : decode cX12_init 258 = .ok (.getfield 26, 3) := by decide +kernel
theorem dX12_init_261 : decode cX12_init 261 = .ok (.iconst 0, 1) := by decide +kernel
theorem dX12_init_262 : decode cX12_init 262 = .ok (.iconst 0, 1) := by decide +kernel
theorem dX12_init_263 : decode cX12_init 263 = .ok (.bipush 8, 2) := by decide +kernel
theorem dX12_init_265 : decode cX12_init 265 = .ok (.iconst 0, 1) := by decide +kernel
theorem dX12_init_266 : decode cX12_init 266 = .ok (.invokestatic 80, 3) := by decide +kernel
theorem dX12_init_269 : decode cX12_init 269 = .ok (.aload_n 0, 1) := by decide +kernel
theorem dX12_init_270 : decode cX12_init 270 = .ok (.getfield 26, 3) := by decide +kernel
theorem dX12_init_273 : decode cX12_init 273 = .ok (.iconst 3, 1) := by decide +kernel
theorem dX12_init_274 : decode cX12_init 274 = .ok (.iconst 1, 1) := by decide +kernel
theorem dX12_init_275 : decode cX12_init 275 = .ok (.bipush 9, 2) := by decide +kernel
theorem dX12_init_277 : decode cX12_init 277 = .ok (.iconst 0, 1) := by decide +kernel
theorem dX12_init_278 : decode cX12_init 278 = .ok (.invokestatic 80, 3) := by decide +kernel
theorem dX12_init_281 : decode cX12_init 281 = .ok (.aload_n 0, 1) := by decide +kernel
theorem dX12_init_282 : decode cX12_init 282 = .ok (.getfield 26, 3) := by decide +kernel
theorem dX12_init_285 : decode cX12_init 285 = .ok (.bipush 6, 2) := by decide +kernel
theorem dX12_init_287 : decode cX12_init 287 = .ok (.iconst 1, 1) := by decide +kernel
theorem dX12_init_288 : decode cX12_init 288 = .ok (.bipush 10, 2) := by decide +kernel
theorem dX12_init_290 : decode cX12_init 290 = .ok (.iconst 1, 1) := by decide +kernel
theorem dX12_init_291 : decode cX12_init 291 = .ok (.invokestatic 80, 3) := by decide +kernel
theorem dX12_init_294 : decode cX12_init 294 = .ok (.aload_n 0, 1) := by decide +kernel
theorem dX12_init_295 : decode cX12_init 295 = .ok (.getfield 26, 3) := by decide +kernel
theorem dX12_init_298 : decode cX12_init 298 = .ok (.bipush 9, 2) := by decide +kernel
theorem dX12_init_300 : decode cX12_init 300 = .ok (.iconst 2, 1) := by decide +kernel
theorem dX12_init_301 : decode cX12_init 301 = .ok (.bipush 8, 2) := by decide +kernel
theorem dX12_init_303 : decode cX12_init 303 = .ok (.iconst 1, 1) := by decide +kernel
theorem dX12_init_304 : decode cX12_init 304 = .ok (.invokestatic 80, 3) := by decide +kernel
theorem dX12_init_307 : decode cX12_init 307 = .ok (.aload_n 0, 1) := by decide +kernel
theorem dX12_init_308 : decode cX12_init 308 = .ok (.getfield 32, 3) := by decide +kernel
theorem dX12_init_311 : decode cX12_init 311 = .ok (.iconst 0, 1) := by decide +kernel
theorem dX12_init_312 : decode cX12_init 312 = .ok (.iconst 2, 1) := by decide +kernel
theorem dX12_init_313 : decode cX12_init 313 = .ok (.iastore, 1) := by decide +kernel
theorem dX12_init_314 : decode cX12_init 314 = .ok (.aload_n 0, 1) := by decide +kernel
theorem dX12_init_315 : decode cX12_init 315 = .ok (.getfield 32, 3) := by decide +kernel
theorem dX12_init_318 : decode cX12_init 318 = .ok (.iconst 1, 1) := by decide +kernel
theorem dX12_init_319 : decode cX12_init 319 = .ok (.iconst 1, 1) := by decide +kernel
theorem dX12_init_320 : decode cX12_init 320 = .ok (.iconst 1, 1) := by decide +kernel
theorem dX12_init_321 : decode cX12_init 321 = .ok (.iconst 4, 1) := by decide +kernel
theorem dX12_init_322 : decode cX12_init 322 = .ok (.invokestatic 80, 3) := by decide +kernel
theorem dX12_init_325 : decode cX12_init 325 = .ok (.aload_n 0, 1) := by decide +kernel
theorem dX12_init_326 : decode cX12_init 326 = .ok (.getfield 32, 3) := by decide +kernel
theorem dX12_init_329 : decode cX12_init 329 = .ok (.iconst 4, 1) := by decide +kernel
theorem dX12_init_330 : decode cX12_init 330 = .ok (.iconst 2, 1) := by decide +kernel
theorem dX12_init_331 : decode cX12_init 331 = .ok (.iconst 2, 1) := by decide +kernel
theorem dX12_init_332 : decode cX12_init 332 = .ok (.bipush (-2), 2) := by decide +kernel
theorem dX12_init_334 : decode cX12_init 334 = .ok (.invokestatic 80, 3) := by decide +kernel
theorem dX12_init_337 : decode cX12_init 337 = .ok (.aload_n 0, 1) := by decide +kernel
theorem dX12_init_338 : decode cX12_init 338 = .ok (.invokevirtual 84, 3) := by decide +kernel
theorem dX12_init_341 : decode cX12_init 341 = .ok (.return_, 1) := by decide +kernel
theorem dX12_lays_0 : decode cX12_lays 0 = .ok (.aload_n 0, 1) := by decide +kernel
theorem dX12_lays_1 : decode cX12_lays 1 = .ok (.iload_n 1, 1) := by decide +kernel
theorem dX12_lays_2 : decode cX12_lays 2 = .ok (.iload_n 2, 1) := by decide +kernel
theorem dX12_lays_3 : decode cX12_lays 3 = .ok (.iastore, 1) := by decide +kernel
theorem dX12_lays_4 : decode cX12_lays 4 = .ok (.aload_n 0, 1) := by decide +kernel
theorem dX12_lays_5 : decode cX12_lays 5 = .ok (.iload_n 1, 1) := by decide +kernel
theorem dX12_lays_6 : decode cX12_lays 6 = .ok (.iconst 1, 1) := by decide +kernel
theorem dX12_lays_7 : decode cX12_lays 7 = .ok (.iadd, 1) := by decide +kernel
theorem dX12_lays_8 : decode cX12_lays 8 = .ok (.iload_n 3, 1) := by decide +kernel
theorem dX12_lays_9 : decode cX12_lays 9 = .ok (.iastore, 1) := by decide +kernel
theorem dX12_lays_10 : decode cX12_lays 10 = .ok (.aload_n 0, 1) := by decide +kernel
theorem dX12_lays_11 : decode cX12_lays 11 = .ok (.iload_n 1, 1) := by decide +kernel
theorem dX12_lays_12 : decode cX12_lays 12 = .ok (.iconst 2, 1) := by decide +kernel
theorem dX12_lays_13 : decode cX12_lays 13 = .ok (.iadd, 1) := by decide +kernel
theorem dX12_lays_14 : decode cX12_lays 14 = .ok (.iload 4, 2) := by decide +kernel
theorem dX12_lays_16 : decode cX12_lays 16 = .ok (.iastore, 1) := by decide +kernel
theorem dX12_lays_17 : decode cX12_lays 17 = .ok (.return_, 1) := by decide +kernel
theorem dX12_in_0 : decode cX12_in 0 = .ok (.iload_n 0, 1) := by decide +kernel
theorem dX12_in_1 : decode cX12_in 1 = .ok (.iload_n 1, 1) := by decide +kernel
theorem dX12_in_2 : decode cX12_in 2 = .ok (.if_icmp .lt 12, 3) := by decide +kernel
theorem dX12_in_5 : decode cX12_in 5 = .ok (.iload_n 0, 1) := by decide +kernel
theorem dX12_in_6 : decode cX12_in 6 = .ok (.iload_n 2, 1) := by decide +kernel
theorem dX12_in_7 : decode cX12_in 7 = .ok (.if_icmp .gt 7, 3) := by decide +kernel
theorem dX12_in_10 : decode cX12_in 10 = .ok (.iconst 1, 1) := by decide +kernel
theorem dX12_in_11 : decode cX12_in 11 = .ok (.goto 4, 3) := by decide +kernel
theorem dX12_in_14 : decode cX12_in 14 = .ok (.iconst 0, 1) := by decide +kernel
theorem dX12_in_15 : decode cX12_in 15 = .ok (.ireturn, 1) := by decide +kernel
theorem dX12_has_0 : decode cX12_has 0 = .ok (.iload_n 0, 1) := by decide +kernel
theorem dX12_has_1 : decode cX12_has 1 = .ok (.iload_n 1, 1) := by decide +kernel
theorem dX12_has_2 : decode cX12_has 2 = .ok (.ishr, 1) := by decide +kernel
theorem dX12_has_3 : decode cX12_has 3 = .ok (.iconst 1, 1) := by decide +kernel
theorem dX12_has_4 : decode cX12_has 4 = .ok (.iand, 1) := by decide +kernel
theorem dX12_has_5 : decode cX12_has 5 = .ok (.iconst 1, 1) := by decide +kernel
theorem dX12_has_6 : decode cX12_has 6 = .ok (.if_icmp .ne 7, 3) := by decide +kernel
theorem dX12_has_9 : decode cX12_has 9 = .ok (.iconst 1, 1) := by decide +kernel
theorem dX12_has_10 : decode cX12_has 10 = .ok (.goto 4, 3) := by decide +kernel
theorem dX12_has_13 : decode cX12_has 13 = .ok (.iconst 0, 1) := by decide +kernel
theorem dX12_has_14 : decode cX12_has 14 = .ok (.ireturn, 1) := by decide +kernel
theorem dX12_bits_0 : decode cX12_bits 0 = .ok (.iconst 0, 1) := by decide +kernel
theorem dX12_bits_1 : decode cX12_bits 1 = .ok (.istore_n 1, 1) := by decide +kernel
theorem dX12_bits_2 : decode cX12_bits 2 = .ok (.iload_n 0, 1) := by decide +kernel
theorem dX12_bits_3 : decode cX12_bits 3 = .ok (.istore_n 2, 1) := by decide +kernel
theorem dX12_bits_4 : decode cX12_bits 4 = .ok (.iload_n 2, 1) := by decide +kernel
theorem dX12_bits_5 : decode cX12_bits 5 = .ok (.ifCond .le 15, 3) := by decide +kernel
theorem dX12_bits_8 : decode cX12_bits 8 = .ok (.iinc 1 1, 3) := by decide +kernel
theorem dX12_bits_11 : decode cX12_bits 11 = .ok (.iload_n 2, 1) := by decide +kernel
theorem dX12_bits_12 : decode cX12_bits 12 = .ok (.iload_n 2, 1) := by decide +kernel
theorem dX12_bits_13 : decode cX12_bits 13 = .ok (.iconst 1, 1) := by decide +kernel
theorem dX12_bits_14 : decode cX12_bits 14 = .ok (.isub, 1) := by decide +kernel
theorem dX12_bits_15 : decode cX12_bits 15 = .ok (.iand, 1) := by decide +kernel
theorem dX12_bits_16 : decode cX12_bits 16 = .ok (.istore_n 2, 1) := by decide +kernel
theorem dX12_bits_17 : decode cX12_bits 17 = .ok (.goto (-13), 3) := by decide +kernel
theorem dX12_bits_20 : decode cX12_bits 20 = .ok (.iload_n 1, 1) := by decide +kernel
theorem dX12_bits_21 : decode cX12_bits 21 = .ok (.ireturn, 1) := by decide +kernel
theorem dX12_size_0 : decode cX12_size 0 = .ok (.iload_n 0, 1) := by decide +kernel
theorem dX12_size_1 : decode cX12_size 1 = .ok (.ifCond .ge 8, 3) := by decide +kernel
theorem dX12_size_4 : decode cX12_size 4 = .ok (.iload_n 0, 1) := by decide +kernel
theorem dX12_size_5 : decode cX12_size 5 = .ok (.ineg, 1) := by decide +kernel
theorem dX12_size_6 : decode cX12_size 6 = .ok (.goto 4, 3) := by decide +kernel
theorem dX12_size_9 : decode cX12_size 9 = .ok (.iload_n 0, 1) := by decide +kernel
theorem dX12_size_10 : decode cX12_size 10 = .ok (.ireturn, 1) := by decide +kernel
theorem dX12_within_0 : decode cX12_within 0 = .ok (.iload_n 0, 1) := by decide +kernel
theorem dX12_within_1 : decode cX12_within 1 = .ok (.bipush (-40), 2) := by decide +kernel
theorem dX12_within_3 : decode cX12_within 3 = .ok (.if_icmp .ge 8, 3) := by decide +kernel
theorem dX12_within_6 : decode cX12_within 6 = .ok (.bipush (-40), 2) := by decide +kernel
theorem dX12_within_8 : decode cX12_within 8 = .ok (.goto 15, 3) := by decide +kernel
theorem dX12_within_11 : decode cX12_within 11 = .ok (.iload_n 0, 1) := by decide +kernel
theorem dX12_within_12 : decode cX12_within 12 = .ok (.bipush 40, 2) := by decide +kernel
theorem dX12_within_14 : decode cX12_within 14 = .ok (.if_icmp .le 8, 3) := by decide +kernel
theorem dX12_within_17 : decode cX12_within 17 = .ok (.bipush 40, 2) := by decide +kernel
theorem dX12_within_19 : decode cX12_within 19 = .ok (.goto 4, 3) := by decide +kernel
theorem dX12_within_22 : decode cX12_within 22 = .ok (.iload_n 0, 1) := by decide +kernel
theorem dX12_within_23 : decode cX12_within 23 = .ok (.ireturn, 1) := by decide +kernel
theorem dX12_isFrame_0 : decode cX12_isFrame 0 = .ok (.iload_n 1, 1) := by decide +kernel
theorem dX12_isFrame_1 : decode cX12_isFrame 1 = .ok (.iconst 0, 1) := by decide +kernel
theorem dX12_isFrame_2 : decode cX12_isFrame 2 = .ok (.aload_n 0, 1) := by decide +kernel
theorem dX12_isFrame_3 : decode cX12_isFrame 3 = .ok (.getfield 7, 3) := by decide +kernel
theorem dX12_isFrame_6 : decode cX12_isFrame 6 = .ok (.iconst 1, 1) := by decide +kernel
theorem dX12_isFrame_7 : decode cX12_isFrame 7 = .ok (.isub, 1) := by decide +kernel
theorem dX12_isFrame_8 : decode cX12_isFrame 8 = .ok (.invokestatic 87, 3) := by decide +kernel
theorem dX12_isFrame_11 : decode cX12_isFrame 11 = .ok (.ireturn, 1) := by decide +kernel
theorem dX12_isPerson_0 : decode cX12_isPerson 0 = .ok (.iload_n 1, 1) := by decide +kernel
theorem dX12_isPerson_1 : decode cX12_isPerson 1 = .ok (.iconst 0, 1) := by decide +kernel
end
section
theorem dX12_isPerson_2 : decode cX12_isPerson 2 = .ok (.aload_n 0, 1) := by decide +kernel
theorem dX12_isPerson_3 : decode cX12_isPerson 3 = .ok (.getfield 17, 3) := by decide +kernel
theorem dX12_isPerson_6 : decode cX12_isPerson 6 = .ok (.iconst 1, 1) := by decide +kernel
theorem dX12_isPerson_7 : decode cX12_isPerson 7 = .ok (.isub, 1) := by decide +kernel
theorem dX12_isPerson_8 : decode cX12_isPerson 8 = .ok (.invokestatic 87, 3) := by decide +kernel
theorem dX12_isPerson_11 : decode cX12_isPerson 11 = .ok (.ireturn, 1) := by decide +kernel
theorem dX12_isDay_0 : decode cX12_isDay 0 = .ok (.iload_n 0, 1) := by decide +kernel
theorem dX12_isDay_1 : decode cX12_isDay 1 = .ok (.iconst 0, 1) := by decide +kernel
theorem dX12_isDay_2 : decode cX12_isDay 2 = .ok (.bipush 30, 2) := by decide +kernel
theorem dX12_isDay_4 : decode cX12_isDay 4 = .ok (.invokestatic 87, 3) := by decide +kernel
theorem dX12_isDay_7 : decode cX12_isDay 7 = .ok (.ireturn, 1) := by decide +kernel
theorem dX12_orders_0 : decode cX12_orders 0 = .ok (.iconst 0, 1) := by decide +kernel
theorem dX12_orders_1 : decode cX12_orders 1 = .ok (.istore_n 1, 1) := by decide +kernel
theorem dX12_orders_2 : decode cX12_orders 2 = .ok (.iconst 0, 1) := by decide +kernel
theorem dX12_orders_3 : decode cX12_orders 3 = .ok (.istore_n 2, 1) := by decide +kernel
theorem dX12_orders_4 : decode cX12_orders 4 = .ok (.iload_n 2, 1) := by decide +kernel
theorem dX12_orders_5 : decode cX12_orders 5 = .ok (.bipush 24, 2) := by decide +kernel
theorem dX12_orders_7 : decode cX12_orders 7 = .ok (.if_icmp .ge 49, 3) := by decide +kernel
theorem dX12_orders_10 : decode cX12_orders 10 = .ok (.iconst 0, 1) := by decide +kernel
theorem dX12_orders_11 : decode cX12_orders 11 = .ok (.istore_n 3, 1) := by decide +kernel
theorem dX12_orders_12 : decode cX12_orders 12 = .ok (.iload_n 3, 1) := by decide +kernel
theorem dX12_orders_13 : decode cX12_orders 13 = .ok (.aload_n 0, 1) := by decide +kernel
theorem dX12_orders_14 : decode cX12_orders 14 = .ok (.getfield 23, 3) := by decide +kernel
theorem dX12_orders_17 : decode cX12_orders 17 = .ok (.if_icmp .ge 33, 3) := by decide +kernel
theorem dX12_orders_20 : decode cX12_orders 20 = .ok (.aload_n 0, 1) := by decide +kernel
theorem dX12_orders_21 : decode cX12_orders 21 = .ok (.getfield 26, 3) := by decide +kernel
theorem dX12_orders_24 : decode cX12_orders 24 = .ok (.iconst 3, 1) := by decide +kernel
theorem dX12_orders_25 : decode cX12_orders 25 = .ok (.iload_n 3, 1) := by decide +kernel
theorem dX12_orders_26 : decode cX12_orders 26 = .ok (.imul, 1) := by decide +kernel
theorem dX12_orders_27 : decode cX12_orders 27 = .ok (.iconst 1, 1) := by decide +kernel
theorem dX12_orders_28 : decode cX12_orders 28 = .ok (.iadd, 1) := by decide +kernel
theorem dX12_orders_29 : decode cX12_orders 29 = .ok (.iaload, 1) := by decide +kernel
theorem dX12_orders_30 : decode cX12_orders 30 = .ok (.iload_n 2, 1) := by decide +kernel
theorem dX12_orders_31 : decode cX12_orders 31 = .ok (.if_icmp .ne 13, 3) := by decide +kernel
theorem dX12_orders_34 : decode cX12_orders 34 = .ok (.aload_n 0, 1) := by decide +kernel
theorem dX12_orders_35 : decode cX12_orders 35 = .ok (.getfield 29, 3) := by decide +kernel
theorem dX12_orders_38 : decode cX12_orders 38 = .ok (.iload_n 1, 1) := by decide +kernel
theorem dX12_orders_39 : decode cX12_orders 39 = .ok (.iload_n 3, 1) := by decide +kernel
theorem dX12_orders_40 : decode cX12_orders 40 = .ok (.iastore, 1) := by decide +kernel
theorem dX12_orders_41 : decode cX12_orders 41 = .ok (.iinc 1 1, 3) := by decide +kernel
theorem dX12_orders_44 : decode cX12_orders 44 = .ok (.iinc 3 1, 3) := by decide +kernel
theorem dX12_orders_47 : decode cX12_orders 47 = .ok (.goto (-35), 3) := by decide +kernel
theorem dX12_orders_50 : decode cX12_orders 50 = .ok (.iinc 2 1, 3) := by decide +kernel
theorem dX12_orders_53 : decode cX12_orders 53 = .ok (.goto (-49), 3) := by decide +kernel
theorem dX12_orders_56 : decode cX12_orders 56 = .ok (.return_, 1) := by decide +kernel
theorem dX12_write_0 : decode cX12_write 0 = .ok (.iload_n 1, 1) := by decide +kernel
theorem dX12_write_1 : decode cX12_write 1 = .ok (.bipush 32, 2) := by decide +kernel
theorem dX12_write_3 : decode cX12_write 3 = .ok (.bipush 126, 2) := by decide +kernel
theorem dX12_write_5 : decode cX12_write 5 = .ok (.invokestatic 87, 3) := by decide +kernel
theorem dX12_write_8 : decode cX12_write 8 = .ok (.ifCond .ne 5, 3) := by decide +kernel
theorem dX12_write_11 : decode cX12_write 11 = .ok (.iconst (-1), 1) := by decide +kernel
theorem dX12_write_12 : decode cX12_write 12 = .ok (.ireturn, 1) := by decide +kernel
theorem dX12_write_13 : decode cX12_write 13 = .ok (.aload_n 0, 1) := by decide +kernel
theorem dX12_write_14 : decode cX12_write 14 = .ok (.getfield 91, 3) := by decide +kernel
theorem dX12_write_17 : decode cX12_write 17 = .ok (.sipush 200, 3) := by decide +kernel
theorem dX12_write_20 : decode cX12_write 20 = .ok (.if_icmp .ne 6, 3) := by decide +kernel
theorem dX12_write_23 : decode cX12_write 23 = .ok (.bipush (-3), 2) := by decide +kernel
theorem dX12_write_25 : decode cX12_write 25 = .ok (.ireturn, 1) := by decide +kernel
theorem dX12_write_26 : decode cX12_write 26 = .ok (.aload_n 0, 1) := by decide +kernel
theorem dX12_write_27 : decode cX12_write 27 = .ok (.getfield 44, 3) := by decide +kernel
theorem dX12_write_30 : decode cX12_write 30 = .ok (.aload_n 0, 1) := by decide +kernel
theorem dX12_write_31 : decode cX12_write 31 = .ok (.getfield 91, 3) := by decide +kernel
theorem dX12_write_34 : decode cX12_write 34 = .ok (.iload_n 1, 1) := by decide +kernel
theorem dX12_write_35 : decode cX12_write 35 = .ok (.iastore, 1) := by decide +kernel
theorem dX12_write_36 : decode cX12_write 36 = .ok (.aload_n 0, 1) := by decide +kernel
theorem dX12_write_37 : decode cX12_write 37 = .ok (.dup, 1) := by decide +kernel
theorem dX12_write_38 : decode cX12_write 38 = .ok (.getfield 91, 3) := by decide +kernel
theorem dX12_write_41 : decode cX12_write 41 = .ok (.iconst 1, 1) := by decide +kernel
theorem dX12_write_42 : decode cX12_write 42 = .ok (.iadd, 1) := by decide +kernel
theorem dX12_write_43 : decode cX12_write 43 = .ok (.putfield 91, 3) := by decide +kernel
theorem dX12_write_46 : decode cX12_write 46 = .ok (.aload_n 0, 1) := by decide +kernel
theorem dX12_write_47 : decode cX12_write 47 = .ok (.getfield 91, 3) := by decide +kernel
theorem dX12_write_50 : decode cX12_write 50 = .ok (.ireturn, 1) := by decide +kernel
theorem dX12_wipe_0 : decode cX12_wipe 0 = .ok (.aload_n 0, 1) := by decide +kernel
theorem dX12_wipe_1 : decode cX12_wipe 1 = .ok (.getfield 91, 3) := by decide +kernel
theorem dX12_wipe_4 : decode cX12_wipe 4 = .ok (.istore_n 1, 1) := by decide +kernel
theorem dX12_wipe_5 : decode cX12_wipe 5 = .ok (.aload_n 0, 1) := by decide +kernel
theorem dX12_wipe_6 : decode cX12_wipe 6 = .ok (.iconst 0, 1) := by decide +kernel
theorem dX12_wipe_7 : decode cX12_wipe 7 = .ok (.putfield 91, 3) := by decide +kernel
theorem dX12_wipe_10 : decode cX12_wipe 10 = .ok (.iload_n 1, 1) := by decide +kernel
theorem dX12_wipe_11 : decode cX12_wipe 11 = .ok (.ireturn, 1) := by decide +kernel
theorem dX12_letterAt_0 : decode cX12_letterAt 0 = .ok (.iload_n 1, 1) := by decide +kernel
theorem dX12_letterAt_1 : decode cX12_letterAt 1 = .ok (.aload_n 0, 1) := by decide +kernel
theorem dX12_letterAt_2 : decode cX12_letterAt 2 = .ok (.getfield 91, 3) := by decide +kernel
theorem dX12_letterAt_5 : decode cX12_letterAt 5 = .ok (.if_icmp .ge 12, 3) := by decide +kernel
theorem dX12_letterAt_8 : decode cX12_letterAt 8 = .ok (.aload_n 0, 1) := by decide +kernel
theorem dX12_letterAt_9 : decode cX12_letterAt 9 = .ok (.getfield 44, 3) := by decide +kernel
theorem dX12_letterAt_12 : decode cX12_letterAt 12 = .ok (.iload_n 1, 1) := by decide +kernel
theorem dX12_letterAt_13 : decode cX12_letterAt 13 = .ok (.iaload, 1) := by decide +kernel
theorem dX12_letterAt_14 : decode cX12_letterAt 14 = .ok (.goto 4, 3) := by decide +kernel
theorem dX12_letterAt_17 : decode cX12_letterAt 17 = .ok (.iconst (-1), 1) := by decide +kernel
theorem dX12_letterAt_18 : decode cX12_letterAt 18 = .ok (.ireturn, 1) := by decide +kernel
theorem dX12_isFigure_0 : decode cX12_isFigure 0 = .ok (.iload_n 0, 1) := by decide +kernel
theorem dX12_isFigure_1 : decode cX12_isFigure 1 = .ok (.bipush 48, 2) := by decide +kernel
theorem dX12_isFigure_3 : decode cX12_isFigure 3 = .ok (.bipush 57, 2) := by decide +kernel
theorem dX12_isFigure_5 : decode cX12_isFigure 5 = .ok (.invokestatic 87, 3) := by decide +kernel
theorem dX12_isFigure_8 : decode cX12_isFigure 8 = .ok (.ireturn, 1) := by decide +kernel
theorem dX12_readNumbers_0 : decode cX12_readNumbers 0 = .ok (.iconst 0, 1) := by decide +kernel
theorem dX12_readNumbers_1 : decode cX12_readNumbers 1 = .ok (.istore_n 2, 1) := by decide +kernel
theorem dX12_readNumbers_2 : decode cX12_readNumbers 2 = .ok (.iload_n 2, 1) := by decide +kernel
theorem dX12_readNumbers_3 : decode cX12_readNumbers 3 = .ok (.iload_n 1, 1) := by decide +kernel
theorem dX12_readNumbers_4 : decode cX12_readNumbers 4 = .ok (.if_icmp .ge 140, 3) := by decide +kernel
theorem dX12_readNumbers_7 : decode cX12_readNumbers 7 = .ok (.aload_n 0, 1) := by decide +kernel
theorem dX12_readNumbers_8 : decode cX12_readNumbers 8 = .ok (.aload_n 0, 1) := by decide +kernel
theorem dX12_readNumbers_9 : decode cX12_readNumbers 9 = .ok (.getfield 94, 3) := by decide +kernel
theorem dX12_readNumbers_12 : decode cX12_readNumbers 12 = .ok (.invokevirtual 97, 3) := by decide +kernel
theorem dX12_readNumbers_15 : decode cX12_readNumbers 15 = .ok (.invokestatic 101, 3) := by decide +kernel
theorem dX12_readNumbers_18 : decode cX12_readNumbers 18 = .ok (.ifCond .ne 5, 3) := by decide +kernel
theorem dX12_readNumbers_21 : decode cX12_readNumbers 21 = .ok (.iconst 0, 1) := by decide +kernel
theorem dX12_readNumbers_22 : decode cX12_readNumbers 22 = .ok (.ireturn, 1) := by decide +kernel
theorem dX12_readNumbers_23 : decode cX12_readNumbers 23 = .ok (.aload_n 0, 1) := by decide +kernel
theorem dX12_readNumbers_24 : decode cX12_readNumbers 24 = .ok (.getfield 47, 3) := by decide +kernel
theorem dX12_readNumbers_27 : decode cX12_readNumbers 27 = .ok (.iload_n 2, 1) := by decide +kernel
theorem dX12_readNumbers_28 : decode cX12_readNumbers 28 = .ok (.aload_n 0, 1) := by decide +kernel
theorem dX12_readNumbers_29 : decode cX12_readNumbers 29 = .ok (.aload_n 0, 1) := by decide +kernel
theorem dX12_readNumbers_30 : decode cX12_readNumbers 30 = .ok (.getfield 94, 3) := by decide +kernel
theorem dX12_readNumbers_33 : decode cX12_readNumbers 33 = .ok (.invokevirtual 97, 3) := by decide +kernel
theorem dX12_readNumbers_36 : decode cX12_readNumbers 36 = .ok (.bipush 48, 2) := by decide +kernel
theorem dX12_readNumbers_38 : decode cX12_readNumbers 38 = .ok (.isub, 1) := by decide +kernel
theorem dX12_readNumbers_39 : decode cX12_readNumbers 39 = .ok (.iastore, 1) := by decide +kernel
theorem dX12_readNumbers_40 : decode cX12_readNumbers 40 = .ok (.aload_n 0, 1) := by decide +kernel
theorem dX12_readNumbers_41 : decode cX12_readNumbers 41 = .ok (.dup, 1) := by decide +kernel
theorem dX12_readNumbers_42 : decode cX12_readNumbers 42 = .ok (.getfield 94, 3) := by decide +kernel
theorem dX12_readNumbers_45 : decode cX12_readNumbers 45 = .ok (.iconst 1, 1) := by decide +kernel
theorem dX12_readNumbers_46 : decode cX12_readNumbers 46 = .ok (.iadd, 1) := by decide +kernel
theorem dX12_readNumbers_47 : decode cX12_readNumbers 47 = .ok (.putfield 94, 3) := by decide +kernel
theorem dX12_readNumbers_50 : decode cX12_readNumbers 50 = .ok (.aload_n 0, 1) := by decide +kernel
theorem dX12_readNumbers_51 : decode cX12_readNumbers 51 = .ok (.aload_n 0, 1) := by decide +kernel
theorem dX12_readNumbers_52 : decode cX12_readNumbers 52 = .ok (.getfield 94, 3) := by decide +kernel
theorem dX12_readNumbers_55 : decode cX12_readNumbers 55 = .ok (.invokevirtual 97, 3) := by decide +kernel
theorem dX12_readNumbers_58 : decode cX12_readNumbers 58 = .ok (.invokestatic 101, 3) := by decide +kernel
theorem dX12_readNumbers_61 : decode cX12_readNumbers 61 = .ok (.ifCond .eq 40, 3) := by decide +kernel
theorem dX12_readNumbers_64 : decode cX12_readNumbers 64 = .ok (.aload_n 0, 1) := by decide +kernel
theorem dX12_readNumbers_65 : decode cX12_readNumbers 65 = .ok (.getfield 47, 3) := by decide +kernel
theorem dX12_readNumbers_68 : decode cX12_readNumbers 68 = .ok (.iload_n 2, 1) := by decide +kernel
theorem dX12_readNumbers_69 : decode cX12_readNumbers 69 = .ok (.bipush 10, 2) := by decide +kernel
theorem dX12_readNumbers_71 : decode cX12_readNumbers 71 = .ok (.aload_n 0, 1) := by decide +kernel
theorem dX12_readNumbers_72 : decode cX12_readNumbers 72 = .ok (.getfield 47, 3) := by decide +kernel
theorem dX12_readNumbers_75 : decode cX12_readNumbers 75 = .ok (.iload_n 2, 1) := by decide +kernel
theorem dX12_readNumbers_76 : decode cX12_readNumbers 76 = .ok (.iaload, 1) := by decide +kernel
theorem dX12_readNumbers_77 : decode cX12_readNumbers 77 = .ok (.imul, 1) := by decide +kernel
theorem dX12_readNumbers_78 : decode cX12_readNumbers 78 = .ok (.aload_n 0, 1) := by decide +kernel
theorem dX12_readNumbers_79 : decode cX12_readNumbers 79 = .ok (.aload_n 0, 1) := by decide +kernel
theorem dX12_readNumbers_80 : decode cX12_readNumbers 80 = .ok (.getfield 94, 3) := by decide +kernel
theorem dX12_readNumbers_83 : decode cX12_readNumbers 83 = .ok (.invokevirtual 97, 3) := by decide +kernel
theorem dX12_readNumbers_86 : decode cX12_readNumbers 86 = .ok (.iadd, 1) := by decide +kernel
theorem dX12_readNumbers_87 : decode cX12_readNumbers 87 = .ok (.bipush 48, 2) := by decide +kernel
theorem dX12_readNumbers_89 : decode cX12_readNumbers 89 = .ok (.isub, 1) := by decide +kernel
theorem dX12_readNumbers_90 : decode cX12_readNumbers 90 = .ok (.iastore, 1) := by decide +kernel
theorem dX12_readNumbers_91 : decode cX12_readNumbers 91 = .ok (.aload_n 0, 1) := by decide +kernel
theorem dX12_readNumbers_92 : decode cX12_readNumbers 92 = .ok (.dup, 1) := by decide +kernel
theorem dX12_readNumbers_93 : decode cX12_readNumbers 93 = .ok (.getfield 94, 3) := by decide +kernel
theorem dX12_readNumbers_96 : decode cX12_readNumbers 96 = .ok (.iconst 1, 1) := by decide +kernel
theorem dX12_readNumbers_97 : decode cX12_readNumbers 97 = .ok (.iadd, 1) := by decide +kernel
theorem dX12_readNumbers_98 : decode cX12_readNumbers 98 = .ok (.putfield 94, 3) := by decide +kernel
theorem dX12_readNumbers_101 : decode cX12_readNumbers 101 = .ok (.aload_n 0, 1) := by decide +kernel
theorem dX12_readNumbers_102 : decode cX12_readNumbers 102 = .ok (.aload_n 0, 1) := by decide +kernel
theorem dX12_readNumbers_103 : decode cX12_readNumbers 103 = .ok (.getfield 94, 3) := by decide +kernel
theorem dX12_readNumbers_106 : decode cX12_readNumbers 106 = .ok (.invokevirtual 97, 3) := by decide +kernel
theorem dX12_readNumbers_109 : decode cX12_readNumbers 109 = .ok (.iload_n 2, 1) := by decide +kernel
theorem dX12_readNumbers_110 : decode cX12_readNumbers 110 = .ok (.iload_n 1, 1) := by decide +kernel
theorem dX12_readNumbers_111 : decode cX12_readNumbers 111 = .ok (.iconst 1, 1) := by decide +kernel
theorem dX12_readNumbers_112 : decode cX12_readNumbers 112 = .ok (.isub, 1) := by decide +kernel
theorem dX12_readNumbers_113 : decode cX12_readNumbers 113 = .ok (.if_icmp .ge 8, 3) := by decide +kernel
theorem dX12_readNumbers_116 : decode cX12_readNumbers 116 = .ok (.bipush 44, 2) := by decide +kernel
theorem dX12_readNumbers_118 : decode cX12_readNumbers 118 = .ok (.goto 5, 3) := by decide +kernel
theorem dX12_readNumbers_121 : decode cX12_readNumbers 121 = .ok (.bipush 59, 2) := by decide +kernel
theorem dX12_readNumbers_123 : decode cX12_readNumbers 123 = .ok (.if_icmp .eq 5, 3) := by decide +kernel
theorem dX12_readNumbers_126 : decode cX12_readNumbers 126 = .ok (.iconst 0, 1) := by decide +kernel
theorem dX12_readNumbers_127 : decode cX12_readNumbers 127 = .ok (.ireturn, 1) := by decide +kernel
theorem dX12_readNumbers_128 : decode cX12_readNumbers 128 = .ok (.aload_n 0, 1) := by decide +kernel
theorem dX12_readNumbers_129 : decode cX12_readNumbers 129 = .ok (.dup, 1) := by decide +kernel
theorem dX12_readNumbers_130 : decode cX12_readNumbers 130 = .ok (.getfield 94, 3) := by decide +kernel
theorem dX12_readNumbers_133 : decode cX12_readNumbers 133 = .ok (.iconst 1, 1) := by decide +kernel
theorem dX12_readNumbers_134 : decode cX12_readNumbers 134 = .ok (.iadd, 1) := by decide +kernel
theorem dX12_readNumbers_135 : decode cX12_readNumbers 135 = .ok (.putfield 94, 3) := by decide +kernel
theorem dX12_readNumbers_138 : decode cX12_readNumbers 138 = .ok (.iinc 2 1, 3) := by decide +kernel
theorem dX12_readNumbers_141 : decode cX12_readNumbers 141 = .ok (.goto (-139), 3) := by decide +kernel
theorem dX12_readNumbers_144 : decode cX12_readNumbers 144 = .ok (.iconst 1, 1) := by decide +kernel
theorem dX12_readNumbers_145 : decode cX12_readNumbers 145 = .ok (.ireturn, 1) := by decide +kernel
theorem dX12_isTold_0 : decode cX12_isTold 0 = .ok (.aload_n 0, 1) := by decide +kernel
theorem dX12_isTold_1 : decode cX12_isTold 1 = .ok (.getfield 47, 3) := by decide +kernel
theorem dX12_isTold_4 : decode cX12_isTold 4 = .ok (.iload_n 1, 1) := by decide +kernel
theorem dX12_isTold_5 : decode cX12_isTold 5 = .ok (.iaload, 1) := by decide +kernel
theorem dX12_isTold_6 : decode cX12_isTold 6 = .ok (.iload_n 2, 1) := by decide +kernel
theorem dX12_isTold_7 : decode cX12_isTold 7 = .ok (.iload_n 3, 1) := by decide +kernel
theorem dX12_isTold_8 : decode cX12_isTold 8 = .ok (.invokestatic 87, 3) := by decide +kernel
theorem dX12_isTold_11 : decode cX12_isTold 11 = .ok (.ireturn, 1) := by decide +kernel
theorem dX12_put_0 : decode cX12_put 0 = .ok (.iconst 0, 1) := by decide +kernel
theorem dX12_put_1 : decode cX12_put 1 = .ok (.istore 4, 2) := by decide +kernel
theorem dX12_put_3 : decode cX12_put 3 = .ok (.iload 4, 2) := by decide +kernel
theorem dX12_put_5 : decode cX12_put 5 = .ok (.iload_n 3, 1) := by decide +kernel
theorem dX12_put_6 : decode cX12_put 6 = .ok (.if_icmp .ge 19, 3) := by decide +kernel
theorem dX12_put_9 : decode cX12_put 9 = .ok (.aload_n 0, 1) := by decide +kernel
theorem dX12_put_10 : decode cX12_put 10 = .ok (.iload_n 1, 1) := by decide +kernel
theorem dX12_put_11 : decode cX12_put 11 = .ok (.iload 4, 2) := by decide +kernel
theorem dX12_put_13 : decode cX12_put 13 = .ok (.iadd, 1) := by decide +kernel
theorem dX12_put_14 : decode cX12_put 14 = .ok (.aload_n 2, 1) := by decide +kernel
theorem dX12_put_15 : decode cX12_put 15 = .ok (.iload 4, 2) := by decide +kernel
theorem dX12_put_17 : decode cX12_put 17 = .ok (.iaload, 1) := by decide +kernel
theorem dX12_put_18 : decode cX12_put 18 = .ok (.iastore, 1) := by decide +kernel
theorem dX12_put_19 : decode cX12_put 19 = .ok (.iinc 4 1, 3) := by decide +kernel
theorem dX12_put_22 : decode cX12_put 22 = .ok (.goto (-19), 3) := by decide +kernel
theorem dX12_put_25 : decode cX12_put 25 = .ok (.return_, 1) := by decide +kernel
theorem dX12_readFrameOf_0 : decode cX12_readFrameOf 0 = .ok (.aload_n 0, 1) := by decide +kernel
theorem dX12_readFrameOf_1 : decode cX12_readFrameOf 1 = .ok (.getfield 105, 3) := by decide +kernel
theorem dX12_readFrameOf_4 : decode cX12_readFrameOf 4 = .ok (.bipush 7, 2) := by decide +kernel
theorem dX12_readFrameOf_6 : decode cX12_readFrameOf 6 = .ok (.if_icmp .eq 32, 3) := by decide +kernel
theorem dX12_readFrameOf_9 : decode cX12_readFrameOf 9 = .ok (.aload_n 0, 1) := by decide +kernel
theorem dX12_readFrameOf_10 : decode cX12_readFrameOf 10 = .ok (.iconst 2, 1) := by decide +kernel
theorem dX12_readFrameOf_11 : decode cX12_readFrameOf 11 = .ok (.invokevirtual 108, 3) := by decide +kernel
theorem dX12_readFrameOf_14 : decode cX12_readFrameOf 14 = .ok (.ifCond .eq 24, 3) := by decide +kernel
theorem dX12_readFrameOf_17 : decode cX12_readFrameOf 17 = .ok (.aload_n 0, 1) := by decide +kernel
theorem dX12_readFrameOf_18 : decode cX12_readFrameOf 18 = .ok (.iconst 0, 1) := by decide +kernel
theorem dX12_readFrameOf_19 : decode cX12_readFrameOf 19 = .ok (.iconst 0, 1) := by decide +kernel
theorem dX12_readFrameOf_20 : decode cX12_readFrameOf 20 = .ok (.iconst 3, 1) := by decide +kernel
theorem dX12_readFrameOf_21 : decode cX12_readFrameOf 21 = .ok (.invokevirtual 111, 3) := by decide +kernel
theorem dX12_readFrameOf_24 : decode cX12_readFrameOf 24 = .ok (.ifCond .eq 14, 3) := by decide +kernel
theorem dX12_readFrameOf_27 : decode cX12_readFrameOf 27 = .ok (.aload_n 0, 1) := by decide +kernel
theorem dX12_readFrameOf_28 : decode cX12_readFrameOf 28 = .ok (.iconst 1, 1) := by decide +kernel
theorem dX12_readFrameOf_29 : decode cX12_readFrameOf 29 = .ok (.iconst 0, 1) := by decide +kernel
theorem dX12_readFrameOf_30 : decode cX12_readFrameOf 30 = .ok (.bipush 40, 2) := by decide +kernel
theorem dX12_readFrameOf_32 : decode cX12_readFrameOf 32 = .ok (.invokevirtual 111, 3) := by decide +kernel
theorem dX12_readFrameOf_35 : decode cX12_readFrameOf 35 = .ok (.ifCond .ne 5, 3) := by decide +kernel
theorem dX12_readFrameOf_38 : decode cX12_readFrameOf 38 = .ok (.iconst 0, 1) := by decide +kernel
theorem dX12_readFrameOf_39 : decode cX12_readFrameOf 39 = .ok (.ireturn, 1) := by decide +kernel
theorem dX12_readFrameOf_40 : decode cX12_readFrameOf 40 = .ok (.iconst 4, 1) := by decide +kernel
theorem dX12_readFrameOf_41 : decode cX12_readFrameOf 41 = .ok (.aload_n 0, 1) := by decide +kernel
theorem dX12_readFrameOf_42 : decode cX12_readFrameOf 42 = .ok (.getfield 105, 3) := by decide +kernel
theorem dX12_readFrameOf_45 : decode cX12_readFrameOf 45 = .ok (.imul, 1) := by decide +kernel
theorem dX12_readFrameOf_46 : decode cX12_readFrameOf 46 = .ok (.istore_n 1, 1) := by decide +kernel
theorem dX12_readFrameOf_47 : decode cX12_readFrameOf 47 = .ok (.aload_n 0, 1) := by decide +kernel
theorem dX12_readFrameOf_48 : decode cX12_readFrameOf 48 = .ok (.getfield 50, 3) := by decide +kernel
theorem dX12_readFrameOf_51 : decode cX12_readFrameOf 51 = .ok (.iload_n 1, 1) := by decide +kernel
theorem dX12_readFrameOf_52 : decode cX12_readFrameOf 52 = .ok (.aload_n 0, 1) := by decide +kernel
theorem dX12_readFrameOf_53 : decode cX12_readFrameOf 53 = .ok (.getfield 47, 3) := by decide +kernel
theorem dX12_readFrameOf_56 : decode cX12_readFrameOf 56 = .ok (.iconst 0, 1) := by decide +kernel
theorem dX12_readFrameOf_57 : decode cX12_readFrameOf 57 = .ok (.iaload, 1) := by decide +kernel
theorem dX12_readFrameOf_58 : decode cX12_readFrameOf 58 = .ok (.aload_n 0, 1) := by decide +kernel
theorem dX12_readFrameOf_59 : decode cX12_readFrameOf 59 = .ok (.getfield 47, 3) := by decide +kernel
theorem dX12_readFrameOf_62 : decode cX12_readFrameOf 62 = .ok (.iconst 1, 1) := by decide +kernel
theorem dX12_readFrameOf_63 : decode cX12_readFrameOf 63 = .ok (.iaload, 1) := by decide +kernel
theorem dX12_readFrameOf_64 : decode cX12_readFrameOf 64 = .ok (.bipush 20, 2) := by decide +kernel
theorem dX12_readFrameOf_66 : decode cX12_readFrameOf 66 = .ok (.isub, 1) := by decide +kernel
theorem dX12_readFrameOf_67 : decode cX12_readFrameOf 67 = .ok (.iconst 0, 1) := by decide +kernel
theorem dX12_readFrameOf_68 : decode cX12_readFrameOf 68 = .ok (.invokestatic 80, 3) := by decide +kernel
theorem dX12_readFrameOf_71 : decode cX12_readFrameOf 71 = .ok (.aload_n 0, 1) := by decide +kernel
theorem dX12_readFrameOf_72 : decode cX12_readFrameOf 72 = .ok (.getfield 50, 3) := by decide +kernel
theorem dX12_readFrameOf_75 : decode cX12_readFrameOf 75 = .ok (.iload_n 1, 1) := by decide +kernel
theorem dX12_readFrameOf_76 : decode cX12_readFrameOf 76 = .ok (.iconst 3, 1) := by decide +kernel
theorem dX12_readFrameOf_77 : decode cX12_readFrameOf 77 = .ok (.iadd, 1) := by decide +kernel
theorem dX12_readFrameOf_78 : decode cX12_readFrameOf 78 = .ok (.iconst 0, 1) := by decide +kernel
theorem dX12_readFrameOf_79 : decode cX12_readFrameOf 79 = .ok (.iastore, 1) := by decide +kernel
theorem dX12_readFrameOf_80 : decode cX12_readFrameOf 80 = .ok (.aload_n 0, 1) := by decide +kernel
theorem dX12_readFrameOf_81 : decode cX12_readFrameOf 81 = .ok (.dup, 1) := by decide +kernel
theorem dX12_readFrameOf_82 : decode cX12_readFrameOf 82 = .ok (.getfield 105, 3) := by decide +kernel
theorem dX12_readFrameOf_85 : decode cX12_readFrameOf 85 = .ok (.iconst 1, 1) := by decide +kernel
theorem dX12_readFrameOf_86 : decode cX12_readFrameOf 86 = .ok (.iadd, 1) := by decide +kernel
theorem dX12_readFrameOf_87 : decode cX12_readFrameOf 87 = .ok (.putfield 105, 3) := by decide +kernel
theorem dX12_readFrameOf_90 : decode cX12_readFrameOf 90 = .ok (.iconst 1, 1) := by decide +kernel
theorem dX12_readFrameOf_91 : decode cX12_readFrameOf 91 = .ok (.ireturn, 1) := by decide +kernel
theorem dX12_readTwist_0 : decode cX12_readTwist 0 = .ok (.aload_n 0, 1) := by decide +kernel
theorem dX12_readTwist_1 : decode cX12_readTwist 1 = .ok (.iconst 2, 1) := by decide +kernel
theorem dX12_readTwist_2 : decode cX12_readTwist 2 = .ok (.invokevirtual 108, 3) := by decide +kernel
theorem dX12_readTwist_5 : decode cX12_readTwist 5 = .ok (.ifCond .eq 33, 3) := by decide +kernel
theorem dX12_readTwist_8 : decode cX12_readTwist 8 = .ok (.aload_n 0, 1) := by decide +kernel
theorem dX12_readTwist_9 : decode cX12_readTwist 9 = .ok (.iconst 0, 1) := by decide +kernel
theorem dX12_readTwist_10 : decode cX12_readTwist 10 = .ok (.iconst 0, 1) := by decide +kernel
theorem dX12_readTwist_11 : decode cX12_readTwist 11 = .ok (.aload_n 0, 1) := by decide +kernel
theorem dX12_readTwist_12 : decode cX12_readTwist 12 = .ok (.getfield 105, 3) := by decide +kernel
theorem dX12_readTwist_15 : decode cX12_readTwist 15 = .ok (.iconst 1, 1) := by decide +kernel
theorem dX12_readTwist_16 : decode cX12_readTwist 16 = .ok (.isub, 1) := by decide +kernel
theorem dX12_readTwist_17 : decode cX12_readTwist 17 = .ok (.invokevirtual 111, 3) := by decide +kernel
theorem dX12_readTwist_20 : decode cX12_readTwist 20 = .ok (.ifCond .eq 18, 3) := by decide +kernel
theorem dX12_readTwist_23 : decode cX12_readTwist 23 = .ok (.aload_n 0, 1) := by decide +kernel
theorem dX12_readTwist_24 : decode cX12_readTwist 24 = .ok (.iconst 1, 1) := by decide +kernel
theorem dX12_readTwist_25 : decode cX12_readTwist 25 = .ok (.iconst 0, 1) := by decide +kernel
theorem dX12_readTwist_26 : decode cX12_readTwist 26 = .ok (.bipush 10, 2) := by decide +kernel
theorem dX12_readTwist_28 : decode cX12_readTwist 28 = .ok (.invokevirtual 111, 3) := by decide +kernel
theorem dX12_readTwist_31 : decode cX12_readTwist 31 = .ok (.ifCond .eq 7, 3) := by decide +kernel
theorem dX12_readTwist_34 : decode cX12_readTwist 34 = .ok (.iconst 1, 1) := by decide +kernel
theorem dX12_readTwist_35 : decode cX12_readTwist 35 = .ok (.goto 4, 3) := by decide +kernel
theorem dX12_readTwist_38 : decode cX12_readTwist 38 = .ok (.iconst 0, 1) := by decide +kernel
theorem dX12_readTwist_39 : decode cX12_readTwist 39 = .ok (.istore_n 1, 1) := by decide +kernel
theorem dX12_readTwist_40 : decode cX12_readTwist 40 = .ok (.iload_n 1, 1) := by decide +kernel
theorem dX12_readTwist_41 : decode cX12_readTwist 41 = .ok (.ifCond .eq 26, 3) := by decide +kernel
theorem dX12_readTwist_44 : decode cX12_readTwist 44 = .ok (.aload_n 0, 1) := by decide +kernel
theorem dX12_readTwist_45 : decode cX12_readTwist 45 = .ok (.getfield 50, 3) := by decide +kernel
theorem dX12_readTwist_48 : decode cX12_readTwist 48 = .ok (.iconst 4, 1) := by decide +kernel
theorem dX12_readTwist_49 : decode cX12_readTwist 49 = .ok (.aload_n 0, 1) := by decide +kernel
theorem dX12_readTwist_50 : decode cX12_readTwist 50 = .ok (.getfield 47, 3) := by decide +kernel
theorem dX12_readTwist_53 : decode cX12_readTwist 53 = .ok (.iconst 0, 1) := by decide +kernel
theorem dX12_readTwist_54 : decode cX12_readTwist 54 = .ok (.iaload, 1) := by decide +kernel
theorem dX12_readTwist_55 : decode cX12_readTwist 55 = .ok (.imul, 1) := by decide +kernel
theorem dX12_readTwist_56 : decode cX12_readTwist 56 = .ok (.iconst 2, 1) := by decide +kernel
theorem dX12_readTwist_57 : decode cX12_readTwist 57 = .ok (.iadd, 1) := by decide +kernel
theorem dX12_readTwist_58 : decode cX12_readTwist 58 = .ok (.aload_n 0, 1) := by decide +kernel
theorem dX12_readTwist_59 : decode cX12_readTwist 59 = .ok (.getfield 47, 3) := by decide +kernel
theorem dX12_readTwist_62 : decode cX12_readTwist 62 = .ok (.iconst 1, 1) := by decide +kernel
theorem dX12_readTwist_63 : decode cX12_readTwist 63 = .ok (.iaload, 1) := by decide +kernel
theorem dX12_readTwist_64 : decode cX12_readTwist 64 = .ok (.iconst 5, 1) := by decide +kernel
theorem dX12_readTwist_65 : decode cX12_readTwist 65 = .ok (.isub, 1) := by decide +kernel
theorem dX12_readTwist_66 : decode cX12_readTwist 66 = .ok (.iastore, 1) := by decide +kernel
theorem dX12_readTwist_67 : decode cX12_readTwist 67 = .ok (.iload_n 1, 1) := by decide +kernel
theorem dX12_readTwist_68 : decode cX12_readTwist 68 = .ok (.ireturn, 1) := by decide +kernel
theorem dX12_readPatch_0 : decode cX12_readPatch 0 = .ok (.aload_n 0, 1) := by decide +kernel
theorem dX12_readPatch_1 : decode cX12_readPatch 1 = .ok (.iconst 2, 1) := by decide +kernel
theorem dX12_readPatch_2 : decode cX12_readPatch 2 = .ok (.invokevirtual 108, 3) := by decide +kernel
theorem dX12_readPatch_5 : decode cX12_readPatch 5 = .ok (.ifCond .eq 33, 3) := by decide +kernel
theorem dX12_readPatch_8 : decode cX12_readPatch 8 = .ok (.aload_n 0, 1) := by decide +kernel
theorem dX12_readPatch_9 : decode cX12_readPatch 9 = .ok (.iconst 0, 1) := by decide +kernel
theorem dX12_readPatch_10 : decode cX12_readPatch 10 = .ok (.iconst 0, 1) := by decide +kernel
theorem dX12_readPatch_11 : decode cX12_readPatch 11 = .ok (.aload_n 0, 1) := by decide +kernel
theorem dX12_readPatch_12 : decode cX12_readPatch 12 = .ok (.getfield 105, 3) := by decide +kernel
theorem dX12_readPatch_15 : decode cX12_readPatch 15 = .ok (.iconst 1, 1) := by decide +kernel
theorem dX12_readPatch_16 : decode cX12_readPatch 16 = .ok (.isub, 1) := by decide +kernel
theorem dX12_readPatch_17 : decode cX12_readPatch 17 = .ok (.invokevirtual 111, 3) := by decide +kernel
theorem dX12_readPatch_20 : decode cX12_readPatch 20 = .ok (.ifCond .eq 18, 3) := by decide +kernel
theorem dX12_readPatch_23 : decode cX12_readPatch 23 = .ok (.aload_n 0, 1) := by decide +kernel
theorem dX12_readPatch_24 : decode cX12_readPatch 24 = .ok (.iconst 1, 1) := by decide +kernel
theorem dX12_readPatch_25 : decode cX12_readPatch 25 = .ok (.iconst 0, 1) := by decide +kernel
theorem dX12_readPatch_26 : decode cX12_readPatch 26 = .ok (.bipush 40, 2) := by decide +kernel
theorem dX12_readPatch_28 : decode cX12_readPatch 28 = .ok (.invokevirtual 111, 3) := by decide +kernel
theorem dX12_readPatch_31 : decode cX12_readPatch 31 = .ok (.ifCond .eq 7, 3) := by decide +kernel
theorem dX12_readPatch_34 : decode cX12_readPatch 34 = .ok (.iconst 1, 1) := by decide +kernel
theorem dX12_readPatch_35 : decode cX12_readPatch 35 = .ok (.goto 4, 3) := by decide +kernel
theorem dX12_readPatch_38 : decode cX12_readPatch 38 = .ok (.iconst 0, 1) := by decide +kernel
theorem dX12_readPatch_39 : decode cX12_readPatch 39 = .ok (.istore_n 1, 1) := by decide +kernel
theorem dX12_readPatch_40 : decode cX12_readPatch 40 = .ok (.iload_n 1, 1) := by decide +kernel
theorem dX12_readPatch_41 : decode cX12_readPatch 41 = .ok (.ifCond .eq 27, 3) := by decide +kernel
theorem dX12_readPatch_44 : decode cX12_readPatch 44 = .ok (.aload_n 0, 1) := by decide +kernel
theorem dX12_readPatch_45 : decode cX12_readPatch 45 = .ok (.getfield 50, 3) := by decide +kernel
theorem dX12_readPatch_48 : decode cX12_readPatch 48 = .ok (.iconst 4, 1) := by decide +kernel
theorem dX12_readPatch_49 : decode cX12_readPatch 49 = .ok (.aload_n 0, 1) := by decide +kernel
theorem dX12_readPatch_50 : decode cX12_readPatch 50 = .ok (.getfield 47, 3) := by decide +kernel
theorem dX12_readPatch_53 : decode cX12_readPatch 53 = .ok (.iconst 0, 1) := by decide +kernel
theorem dX12_readPatch_54 : decode cX12_readPatch 54 = .ok (.iaload, 1) := by decide +kernel
theorem dX12_readPatch_55 : decode cX12_readPatch 55 = .ok (.imul, 1) := by decide +kernel
theorem dX12_readPatch_56 : decode cX12_readPatch 56 = .ok (.iconst 3, 1) := by decide +kernel
theorem dX12_readPatch_57 : decode cX12_readPatch 57 = .ok (.iadd, 1) := by decide +kernel
theorem dX12_readPatch_58 : decode cX12_readPatch 58 = .ok (.aload_n 0, 1) := by decide +kernel
theorem dX12_readPatch_59 : decode cX12_readPatch 59 = .ok (.getfield 47, 3) := by decide +kernel
theorem dX12_readPatch_62 : decode cX12_readPatch 62 = .ok (.iconst 1, 1) := by decide +kernel
theorem dX12_readPatch_63 : decode cX12_readPatch 63 = .ok (.iaload, 1) := by decide +kernel
theorem dX12_readPatch_64 : decode cX12_readPatch 64 = .ok (.bipush 20, 2) := by decide +kernel
theorem dX12_readPatch_66 : decode cX12_readPatch 66 = .ok (.isub, 1) := by decide +kernel
theorem dX12_readPatch_67 : decode cX12_readPatch 67 = .ok (.iastore, 1) := by decide +kernel
theorem dX12_readPatch_68 : decode cX12_readPatch 68 = .ok (.iload_n 1, 1) := by decide +kernel
theorem dX12_readPatch_69 : decode cX12_readPatch 69 = .ok (.ireturn, 1) := by decide +kernel
theorem dX12_readPersonOf_0 : decode cX12_readPersonOf 0 = .ok (.aload_n 0, 1) := by decide +kernel
theorem dX12_readPersonOf_1 : decode cX12_readPersonOf 1 = .ok (.getfield 114, 3) := by decide +kernel
theorem dX12_readPersonOf_4 : decode cX12_readPersonOf 4 = .ok (.iconst 5, 1) := by decide +kernel
theorem dX12_readPersonOf_5 : decode cX12_readPersonOf 5 = .ok (.if_icmp .eq 32, 3) := by decide +kernel
theorem dX12_readPersonOf_8 : decode cX12_readPersonOf 8 = .ok (.aload_n 0, 1) := by decide +kernel
theorem dX12_readPersonOf_9 : decode cX12_readPersonOf 9 = .ok (.iconst 2, 1) := by decide +kernel
theorem dX12_readPersonOf_10 : decode cX12_readPersonOf 10 = .ok (.invokevirtual 108, 3) := by decide +kernel
theorem dX12_readPersonOf_13 : decode cX12_readPersonOf 13 = .ok (.ifCond .eq 24, 3) := by decide +kernel
theorem dX12_readPersonOf_16 : decode cX12_readPersonOf 16 = .ok (.aload_n 0, 1) := by decide +kernel
theorem dX12_readPersonOf_17 : decode cX12_readPersonOf 17 = .ok (.iconst 0, 1) := by decide +kernel
theorem dX12_readPersonOf_18 : decode cX12_readPersonOf 18 = .ok (.iconst 0, 1) := by decide +kernel
theorem dX12_readPersonOf_19 : decode cX12_readPersonOf 19 = .ok (.iconst 3, 1) := by decide +kernel
theorem dX12_readPersonOf_20 : decode cX12_readPersonOf 20 = .ok (.invokevirtual 111, 3) := by decide +kernel
theorem dX12_readPersonOf_23 : decode cX12_readPersonOf 23 = .ok (.ifCond .eq 14, 3) := by decide +kernel
theorem dX12_readPersonOf_26 : decode cX12_readPersonOf 26 = .ok (.aload_n 0, 1) := by decide +kernel
theorem dX12_readPersonOf_27 : decode cX12_readPersonOf 27 = .ok (.iconst 1, 1) := by decide +kernel
theorem dX12_readPersonOf_28 : decode cX12_readPersonOf 28 = .ok (.iconst 0, 1) := by decide +kernel
theorem dX12_readPersonOf_29 : decode cX12_readPersonOf 29 = .ok (.bipush 20, 2) := by decide +kernel
theorem dX12_readPersonOf_31 : decode cX12_readPersonOf 31 = .ok (.invokevirtual 111, 3) := by decide +kernel
theorem dX12_readPersonOf_34 : decode cX12_readPersonOf 34 = .ok (.ifCond .ne 5, 3) := by decide +kernel
theorem dX12_readPersonOf_37 : decode cX12_readPersonOf 37 = .ok (.iconst 0, 1) := by decide +kernel
theorem dX12_readPersonOf_38 : decode cX12_readPersonOf 38 = .ok (.ireturn, 1) := by decide +kernel
theorem dX12_readPersonOf_39 : decode cX12_readPersonOf 39 = .ok (.aload_n 0, 1) := by decide +kernel
theorem dX12_readPersonOf_40 : decode cX12_readPersonOf 40 = .ok (.getfield 53, 3) := by decide +kernel
theorem dX12_readPersonOf_43 : decode cX12_readPersonOf 43 = .ok (.iconst 2, 1) := by decide +kernel
theorem dX12_readPersonOf_44 : decode cX12_readPersonOf 44 = .ok (.aload_n 0, 1) := by decide +kernel
theorem dX12_readPersonOf_45 : decode cX12_readPersonOf 45 = .ok (.getfield 114, 3) := by decide +kernel
theorem dX12_readPersonOf_48 : decode cX12_readPersonOf 48 = .ok (.imul, 1) := by decide +kernel
theorem dX12_readPersonOf_49 : decode cX12_readPersonOf 49 = .ok (.aload_n 0, 1) := by decide +kernel
theorem dX12_readPersonOf_50 : decode cX12_readPersonOf 50 = .ok (.getfield 47, 3) := by decide +kernel
theorem dX12_readPersonOf_53 : decode cX12_readPersonOf 53 = .ok (.iconst 2, 1) := by decide +kernel
theorem dX12_readPersonOf_54 : decode cX12_readPersonOf 54 = .ok (.invokestatic 117, 3) := by decide +kernel
theorem dX12_readPersonOf_57 : decode cX12_readPersonOf 57 = .ok (.aload_n 0, 1) := by decide +kernel
theorem dX12_readPersonOf_58 : decode cX12_readPersonOf 58 = .ok (.dup, 1) := by decide +kernel
theorem dX12_readPersonOf_59 : decode cX12_readPersonOf 59 = .ok (.getfield 114, 3) := by decide +kernel
theorem dX12_readPersonOf_62 : decode cX12_readPersonOf 62 = .ok (.iconst 1, 1) := by decide +kernel
theorem dX12_readPersonOf_63 : decode cX12_readPersonOf 63 = .ok (.iadd, 1) := by decide +kernel
theorem dX12_readPersonOf_64 : decode cX12_readPersonOf 64 = .ok (.putfield 114, 3) := by decide +kernel
theorem dX12_readPersonOf_67 : decode cX12_readPersonOf 67 = .ok (.iconst 1, 1) := by decide +kernel
theorem dX12_readPersonOf_68 : decode cX12_readPersonOf 68 = .ok (.ireturn, 1) := by decide +kernel
theorem dX12_readComingOf_0 : decode cX12_readComingOf 0 = .ok (.aload_n 0, 1) := by decide +kernel
theorem dX12_readComingOf_1 : decode cX12_readComingOf 1 = .ok (.getfield 121, 3) := by decide +kernel
theorem dX12_readComingOf_4 : decode cX12_readComingOf 4 = .ok (.bipush 10, 2) := by decide +kernel
theorem dX12_readComingOf_6 : decode cX12_readComingOf 6 = .ok (.if_icmp .eq 47, 3) := by decide +kernel
theorem dX12_readComingOf_9 : decode cX12_readComingOf 9 = .ok (.aload_n 0, 1) := by decide +kernel
theorem dX12_readComingOf_10 : decode cX12_readComingOf 10 = .ok (.iconst 3, 1) := by decide +kernel
theorem dX12_readComingOf_11 : decode cX12_readComingOf 11 = .ok (.invokevirtual 108, 3) := by decide +kernel
theorem dX12_readComingOf_14 : decode cX12_readComingOf 14 = .ok (.ifCond .eq 39, 3) := by decide +kernel
theorem dX12_readComingOf_17 : decode cX12_readComingOf 17 = .ok (.aload_n 0, 1) := by decide +kernel
theorem dX12_readComingOf_18 : decode cX12_readComingOf 18 = .ok (.iconst 0, 1) := by decide +kernel
theorem dX12_readComingOf_19 : decode cX12_readComingOf 19 = .ok (.iconst 0, 1) := by decide +kernel
theorem dX12_readComingOf_20 : decode cX12_readComingOf 20 = .ok (.aload_n 0, 1) := by decide +kernel
theorem dX12_readComingOf_21 : decode cX12_readComingOf 21 = .ok (.getfield 114, 3) := by decide +kernel
theorem dX12_readComingOf_24 : decode cX12_readComingOf 24 = .ok (.iconst 1, 1) := by decide +kernel
theorem dX12_readComingOf_25 : decode cX12_readComingOf 25 = .ok (.isub, 1) := by decide +kernel
theorem dX12_readComingOf_26 : decode cX12_readComingOf 26 = .ok (.invokevirtual 111, 3) := by decide +kernel
theorem dX12_readComingOf_29 : decode cX12_readComingOf 29 = .ok (.ifCond .eq 24, 3) := by decide +kernel
theorem dX12_readComingOf_32 : decode cX12_readComingOf 32 = .ok (.aload_n 0, 1) := by decide +kernel
theorem dX12_readComingOf_33 : decode cX12_readComingOf 33 = .ok (.iconst 1, 1) := by decide +kernel
theorem dX12_readComingOf_34 : decode cX12_readComingOf 34 = .ok (.iconst 0, 1) := by decide +kernel
theorem dX12_readComingOf_35 : decode cX12_readComingOf 35 = .ok (.bipush 23, 2) := by decide +kernel
theorem dX12_readComingOf_37 : decode cX12_readComingOf 37 = .ok (.invokevirtual 111, 3) := by decide +kernel
theorem dX12_readComingOf_40 : decode cX12_readComingOf 40 = .ok (.ifCond .eq 13, 3) := by decide +kernel
theorem dX12_readComingOf_43 : decode cX12_readComingOf 43 = .ok (.aload_n 0, 1) := by decide +kernel
theorem dX12_readComingOf_44 : decode cX12_readComingOf 44 = .ok (.iconst 2, 1) := by decide +kernel
theorem dX12_readComingOf_45 : decode cX12_readComingOf 45 = .ok (.iconst 0, 1) := by decide +kernel
theorem dX12_readComingOf_46 : decode cX12_readComingOf 46 = .ok (.iconst 3, 1) := by decide +kernel
theorem dX12_readComingOf_47 : decode cX12_readComingOf 47 = .ok (.invokevirtual 111, 3) := by decide +kernel
theorem dX12_readComingOf_50 : decode cX12_readComingOf 50 = .ok (.ifCond .ne 5, 3) := by decide +kernel
theorem dX12_readComingOf_53 : decode cX12_readComingOf 53 = .ok (.iconst 0, 1) := by decide +kernel
theorem dX12_readComingOf_54 : decode cX12_readComingOf 54 = .ok (.ireturn, 1) := by decide +kernel
theorem dX12_readComingOf_55 : decode cX12_readComingOf 55 = .ok (.aload_n 0, 1) := by decide +kernel
theorem dX12_readComingOf_56 : decode cX12_readComingOf 56 = .ok (.getfield 56, 3) := by decide +kernel
theorem dX12_readComingOf_59 : decode cX12_readComingOf 59 = .ok (.iconst 3, 1) := by decide +kernel
theorem dX12_readComingOf_60 : decode cX12_readComingOf 60 = .ok (.aload_n 0, 1) := by decide +kernel
theorem dX12_readComingOf_61 : decode cX12_readComingOf 61 = .ok (.getfield 121, 3) := by decide +kernel
theorem dX12_readComingOf_64 : decode cX12_readComingOf 64 = .ok (.imul, 1) := by decide +kernel
theorem dX12_readComingOf_65 : decode cX12_readComingOf 65 = .ok (.aload_n 0, 1) := by decide +kernel
theorem dX12_readComingOf_66 : decode cX12_readComingOf 66 = .ok (.getfield 47, 3) := by decide +kernel
theorem dX12_readComingOf_69 : decode cX12_readComingOf 69 = .ok (.iconst 3, 1) := by decide +kernel
theorem dX12_readComingOf_70 : decode cX12_readComingOf 70 = .ok (.invokestatic 117, 3) := by decide +kernel
theorem dX12_readComingOf_73 : decode cX12_readComingOf 73 = .ok (.aload_n 0, 1) := by decide +kernel
theorem dX12_readComingOf_74 : decode cX12_readComingOf 74 = .ok (.dup, 1) := by decide +kernel
theorem dX12_readComingOf_75 : decode cX12_readComingOf 75 = .ok (.getfield 121, 3) := by decide +kernel
theorem dX12_readComingOf_78 : decode cX12_readComingOf 78 = .ok (.iconst 1, 1) := by decide +kernel
theorem dX12_readComingOf_79 : decode cX12_readComingOf 79 = .ok (.iadd, 1) := by decide +kernel
theorem dX12_readComingOf_80 : decode cX12_readComingOf 80 = .ok (.putfield 121, 3) := by decide +kernel
theorem dX12_readComingOf_83 : decode cX12_readComingOf 83 = .ok (.iconst 1, 1) := by decide +kernel
theorem dX12_readComingOf_84 : decode cX12_readComingOf 84 = .ok (.ireturn, 1) := by decide +kernel
theorem dX12_readTurn_0 : decode cX12_readTurn 0 = .ok (.aload_n 0, 1) := by decide +kernel
theorem dX12_readTurn_1 : decode cX12_readTurn 1 = .ok (.getfield 59, 3) := by decide +kernel
theorem dX12_readTurn_4 : decode cX12_readTurn 4 = .ok (.iconst 0, 1) := by decide +kernel
theorem dX12_readTurn_5 : decode cX12_readTurn 5 = .ok (.iaload, 1) := by decide +kernel
theorem dX12_readTurn_6 : decode cX12_readTurn 6 = .ok (.bipush 8, 2) := by decide +kernel
theorem dX12_readTurn_8 : decode cX12_readTurn 8 = .ok (.if_icmp .eq 48, 3) := by decide +kernel
theorem dX12_readTurn_11 : decode cX12_readTurn 11 = .ok (.aload_n 0, 1) := by decide +kernel
theorem dX12_readTurn_12 : decode cX12_readTurn 12 = .ok (.iconst 3, 1) := by decide +kernel
theorem dX12_readTurn_13 : decode cX12_readTurn 13 = .ok (.invokevirtual 108, 3) := by decide +kernel
theorem dX12_readTurn_16 : decode cX12_readTurn 16 = .ok (.ifCond .eq 40, 3) := by decide +kernel
theorem dX12_readTurn_19 : decode cX12_readTurn 19 = .ok (.aload_n 0, 1) := by decide +kernel
theorem dX12_readTurn_20 : decode cX12_readTurn 20 = .ok (.iconst 0, 1) := by decide +kernel
theorem dX12_readTurn_21 : decode cX12_readTurn 21 = .ok (.iconst 0, 1) := by decide +kernel
theorem dX12_readTurn_22 : decode cX12_readTurn 22 = .ok (.bipush 30, 2) := by decide +kernel
theorem dX12_readTurn_24 : decode cX12_readTurn 24 = .ok (.invokevirtual 111, 3) := by decide +kernel
theorem dX12_readTurn_27 : decode cX12_readTurn 27 = .ok (.ifCond .eq 29, 3) := by decide +kernel
theorem dX12_readTurn_30 : decode cX12_readTurn 30 = .ok (.aload_n 0, 1) := by decide +kernel
theorem dX12_readTurn_31 : decode cX12_readTurn 31 = .ok (.iconst 1, 1) := by decide +kernel
theorem dX12_readTurn_32 : decode cX12_readTurn 32 = .ok (.iconst 0, 1) := by decide +kernel
theorem dX12_readTurn_33 : decode cX12_readTurn 33 = .ok (.aload_n 0, 1) := by decide +kernel
theorem dX12_readTurn_34 : decode cX12_readTurn 34 = .ok (.getfield 105, 3) := by decide +kernel
theorem dX12_readTurn_37 : decode cX12_readTurn 37 = .ok (.iconst 1, 1) := by decide +kernel
theorem dX12_readTurn_38 : decode cX12_readTurn 38 = .ok (.isub, 1) := by decide +kernel
theorem dX12_readTurn_39 : decode cX12_readTurn 39 = .ok (.invokevirtual 111, 3) := by decide +kernel
theorem dX12_readTurn_42 : decode cX12_readTurn 42 = .ok (.ifCond .eq 14, 3) := by decide +kernel
theorem dX12_readTurn_45 : decode cX12_readTurn 45 = .ok (.aload_n 0, 1) := by decide +kernel
theorem dX12_readTurn_46 : decode cX12_readTurn 46 = .ok (.iconst 2, 1) := by decide +kernel
theorem dX12_readTurn_47 : decode cX12_readTurn 47 = .ok (.iconst 0, 1) := by decide +kernel
theorem dX12_readTurn_48 : decode cX12_readTurn 48 = .ok (.bipush 40, 2) := by decide +kernel
theorem dX12_readTurn_50 : decode cX12_readTurn 50 = .ok (.invokevirtual 111, 3) := by decide +kernel
theorem dX12_readTurn_53 : decode cX12_readTurn 53 = .ok (.ifCond .ne 5, 3) := by decide +kernel
theorem dX12_readTurn_56 : decode cX12_readTurn 56 = .ok (.iconst 0, 1) := by decide +kernel
theorem dX12_readTurn_57 : decode cX12_readTurn 57 = .ok (.ireturn, 1) := by decide +kernel
theorem dX12_readTurn_58 : decode cX12_readTurn 58 = .ok (.aload_n 0, 1) := by decide +kernel
theorem dX12_readTurn_59 : decode cX12_readTurn 59 = .ok (.getfield 59, 3) := by decide +kernel
theorem dX12_readTurn_62 : decode cX12_readTurn 62 = .ok (.iconst 1, 1) := by decide +kernel
theorem dX12_readTurn_63 : decode cX12_readTurn 63 = .ok (.iconst 3, 1) := by decide +kernel
theorem dX12_readTurn_64 : decode cX12_readTurn 64 = .ok (.aload_n 0, 1) := by decide +kernel
theorem dX12_readTurn_65 : decode cX12_readTurn 65 = .ok (.getfield 59, 3) := by decide +kernel
theorem dX12_readTurn_68 : decode cX12_readTurn 68 = .ok (.iconst 0, 1) := by decide +kernel
theorem dX12_readTurn_69 : decode cX12_readTurn 69 = .ok (.iaload, 1) := by decide +kernel
theorem dX12_readTurn_70 : decode cX12_readTurn 70 = .ok (.imul, 1) := by decide +kernel
theorem dX12_readTurn_71 : decode cX12_readTurn 71 = .ok (.iadd, 1) := by decide +kernel
theorem dX12_readTurn_72 : decode cX12_readTurn 72 = .ok (.aload_n 0, 1) := by decide +kernel
theorem dX12_readTurn_73 : decode cX12_readTurn 73 = .ok (.getfield 47, 3) := by decide +kernel
theorem dX12_readTurn_76 : decode cX12_readTurn 76 = .ok (.iconst 0, 1) := by decide +kernel
theorem dX12_readTurn_77 : decode cX12_readTurn 77 = .ok (.iaload, 1) := by decide +kernel
theorem dX12_readTurn_78 : decode cX12_readTurn 78 = .ok (.aload_n 0, 1) := by decide +kernel
theorem dX12_readTurn_79 : decode cX12_readTurn 79 = .ok (.getfield 47, 3) := by decide +kernel
theorem dX12_readTurn_82 : decode cX12_readTurn 82 = .ok (.iconst 1, 1) := by decide +kernel
theorem dX12_readTurn_83 : decode cX12_readTurn 83 = .ok (.iaload, 1) := by decide +kernel
theorem dX12_readTurn_84 : decode cX12_readTurn 84 = .ok (.aload_n 0, 1) := by decide +kernel
theorem dX12_readTurn_85 : decode cX12_readTurn 85 = .ok (.getfield 47, 3) := by decide +kernel
theorem dX12_readTurn_88 : decode cX12_readTurn 88 = .ok (.iconst 2, 1) := by decide +kernel
theorem dX12_readTurn_89 : decode cX12_readTurn 89 = .ok (.iaload, 1) := by decide +kernel
theorem dX12_readTurn_90 : decode cX12_readTurn 90 = .ok (.bipush 20, 2) := by decide +kernel
theorem dX12_readTurn_92 : decode cX12_readTurn 92 = .ok (.isub, 1) := by decide +kernel
theorem dX12_readTurn_93 : decode cX12_readTurn 93 = .ok (.invokestatic 80, 3) := by decide +kernel
theorem dX12_readTurn_96 : decode cX12_readTurn 96 = .ok (.aload_n 0, 1) := by decide +kernel
theorem dX12_readTurn_97 : decode cX12_readTurn 97 = .ok (.getfield 59, 3) := by decide +kernel
theorem dX12_readTurn_100 : decode cX12_readTurn 100 = .ok (.iconst 0, 1) := by decide +kernel
theorem dX12_readTurn_101 : decode cX12_readTurn 101 = .ok (.dup2, 1) := by decide +kernel
theorem dX12_readTurn_102 : decode cX12_readTurn 102 = .ok (.iaload, 1) := by decide +kernel
theorem dX12_readTurn_103 : decode cX12_readTurn 103 = .ok (.iconst 1, 1) := by decide +kernel
theorem dX12_readTurn_104 : decode cX12_readTurn 104 = .ok (.iadd, 1) := by decide +kernel
theorem dX12_readTurn_105 : decode cX12_readTurn 105 = .ok (.iastore, 1) := by decide +kernel
theorem dX12_readTurn_106 : decode cX12_readTurn 106 = .ok (.iconst 1, 1) := by decide +kernel
theorem dX12_readTurn_107 : decode cX12_readTurn 107 = .ok (.ireturn, 1) := by decide +kernel
theorem dX12_readItem_0 : decode cX12_readItem 0 = .ok (.aload_n 0, 1) := by decide +kernel
theorem dX12_readItem_1 : decode cX12_readItem 1 = .ok (.aload_n 0, 1) := by decide +kernel
theorem dX12_readItem_2 : decode cX12_readItem 2 = .ok (.getfield 94, 3) := by decide +kernel
theorem dX12_readItem_5 : decode cX12_readItem 5 = .ok (.invokevirtual 97, 3) := by decide +kernel
theorem dX12_readItem_8 : decode cX12_readItem 8 = .ok (.istore_n 1, 1) := by decide +kernel
theorem dX12_readItem_9 : decode cX12_readItem 9 = .ok (.aload_n 0, 1) := by decide +kernel
theorem dX12_readItem_10 : decode cX12_readItem 10 = .ok (.dup, 1) := by decide +kernel
theorem dX12_readItem_11 : decode cX12_readItem 11 = .ok (.getfield 94, 3) := by decide +kernel
theorem dX12_readItem_14 : decode cX12_readItem 14 = .ok (.iconst 1, 1) := by decide +kernel
theorem dX12_readItem_15 : decode cX12_readItem 15 = .ok (.iadd, 1) := by decide +kernel
theorem dX12_readItem_16 : decode cX12_readItem 16 = .ok (.putfield 94, 3) := by decide +kernel
theorem dX12_readItem_19 : decode cX12_readItem 19 = .ok (.iload_n 1, 1) := by decide +kernel
theorem dX12_readItem_20 : decode cX12_readItem 20 = .ok (.lookupswitch 90 #[(99, 85), (102, 60), (110, 80), (112, 70), (116, 65), (119, 75)], 60) := by decide +kernel
theorem dX12_readItem_80 : decode cX12_readItem 80 = .ok (.aload_n 0, 1) := by decide +kernel
theorem dX12_readItem_81 : decode cX12_readItem 81 = .ok (.invokevirtual 124, 3) := by decide +kernel
theorem dX12_readItem_84 : decode cX12_readItem 84 = .ok (.ireturn, 1) := by decide +kernel
theorem dX12_readItem_85 : decode cX12_readItem 85 = .ok (.aload_n 0, 1) := by decide +kernel
theorem dX12_readItem_86 : decode cX12_readItem 86 = .ok (.invokevirtual 128, 3) := by decide +kernel
theorem dX12_readItem_89 : decode cX12_readItem 89 = .ok (.ireturn, 1) := by decide +kernel
theorem dX12_readItem_90 : decode cX12_readItem 90 = .ok (.aload_n 0, 1) := by decide +kernel
theorem dX12_readItem_91 : decode cX12_readItem 91 = .ok (.invokevirtual 131, 3) := by decide +kernel
theorem dX12_readItem_94 : decode cX12_readItem 94 = .ok (.ireturn, 1) := by decide +kernel
theorem dX12_readItem_95 : decode cX12_readItem 95 = .ok (.aload_n 0, 1) := by decide +kernel
theorem dX12_readItem_96 : decode cX12_readItem 96 = .ok (.invokevirtual 134, 3) := by decide +kernel
theorem dX12_readItem_99 : decode cX12_readItem 99 = .ok (.ireturn, 1) := by decide +kernel
theorem dX12_readItem_100 : decode cX12_readItem 100 = .ok (.aload_n 0, 1) := by decide +kernel
theorem dX12_readItem_101 : decode cX12_readItem 101 = .ok (.invokevirtual 137, 3) := by decide +kernel
theorem dX12_readItem_104 : decode cX12_readItem 104 = .ok (.ireturn, 1) := by decide +kernel
theorem dX12_readItem_105 : decode cX12_readItem 105 = .ok (.aload_n 0, 1) := by decide +kernel
theorem dX12_readItem_106 : decode cX12_readItem 106 = .ok (.invokevirtual 140, 3) := by decide +kernel
theorem dX12_readItem_109 : decode cX12_readItem 109 = .ok (.ireturn, 1) := by decide +kernel
theorem dX12_readItem_110 : decode cX12_readItem 110 = .ok (.iconst 0, 1) := by decide +kernel
theorem dX12_readItem_111 : decode cX12_readItem 111 = .ok (.ireturn, 1) := by decide +kernel
theorem dX12_fault_0 : decode cX12_fault 0 = .ok (.aload_n 0, 1) := by decide +kernel
theorem dX12_fault_1 : decode cX12_fault 1 = .ok (.iconst 0, 1) := by decide +kernel
theorem dX12_fault_2 : decode cX12_fault 2 = .ok (.putfield 94, 3) := by decide +kernel
theorem dX12_fault_5 : decode cX12_fault 5 = .ok (.aload_n 0, 1) := by decide +kernel
theorem dX12_fault_6 : decode cX12_fault 6 = .ok (.iconst 0, 1) := by decide +kernel
theorem dX12_fault_7 : decode cX12_fault 7 = .ok (.putfield 105, 3) := by decide +kernel
theorem dX12_fault_10 : decode cX12_fault 10 = .ok (.aload_n 0, 1) := by decide +kernel
theorem dX12_fault_11 : decode cX12_fault 11 = .ok (.iconst 0, 1) := by decide +kernel
theorem dX12_fault_12 : decode cX12_fault 12 = .ok (.putfield 114, 3) := by decide +kernel
theorem dX12_fault_15 : decode cX12_fault 15 = .ok (.aload_n 0, 1) := by decide +kernel
theorem dX12_fault_16 : decode cX12_fault 16 = .ok (.iconst 0, 1) := by decide +kernel
theorem dX12_fault_17 : decode cX12_fault 17 = .ok (.putfield 121, 3) := by decide +kernel
theorem dX12_fault_20 : decode cX12_fault 20 = .ok (.iconst 0, 1) := by decide +kernel
theorem dX12_fault_21 : decode cX12_fault 21 = .ok (.istore_n 1, 1) := by decide +kernel
theorem dX12_fault_22 : decode cX12_fault 22 = .ok (.iload_n 1, 1) := by decide +kernel
theorem dX12_fault_23 : decode cX12_fault 23 = .ok (.bipush 25, 2) := by decide +kernel
theorem dX12_fault_25 : decode cX12_fault 25 = .ok (.if_icmp .ge 16, 3) := by decide +kernel
theorem dX12_fault_28 : decode cX12_fault 28 = .ok (.aload_n 0, 1) := by decide +kernel
theorem dX12_fault_29 : decode cX12_fault 29 = .ok (.getfield 59, 3) := by decide +kernel
theorem dX12_fault_32 : decode cX12_fault 32 = .ok (.iload_n 1, 1) := by decide +kernel
theorem dX12_fault_33 : decode cX12_fault 33 = .ok (.iconst 0, 1) := by decide +kernel
theorem dX12_fault_34 : decode cX12_fault 34 = .ok (.iastore, 1) := by decide +kernel
theorem dX12_fault_35 : decode cX12_fault 35 = .ok (.iinc 1 1, 3) := by decide +kernel
theorem dX12_fault_38 : decode cX12_fault 38 = .ok (.goto (-16), 3) := by decide +kernel
theorem dX12_fault_41 : decode cX12_fault 41 = .ok (.aload_n 0, 1) := by decide +kernel
theorem dX12_fault_42 : decode cX12_fault 42 = .ok (.getfield 94, 3) := by decide +kernel
theorem dX12_fault_45 : decode cX12_fault 45 = .ok (.aload_n 0, 1) := by decide +kernel
theorem dX12_fault_46 : decode cX12_fault 46 = .ok (.getfield 91, 3) := by decide +kernel
theorem dX12_fault_49 : decode cX12_fault 49 = .ok (.if_icmp .ge 20, 3) := by decide +kernel
theorem dX12_fault_52 : decode cX12_fault 52 = .ok (.aload_n 0, 1) := by decide +kernel
theorem dX12_fault_53 : decode cX12_fault 53 = .ok (.getfield 94, 3) := by decide +kernel
theorem dX12_fault_56 : decode cX12_fault 56 = .ok (.istore_n 1, 1) := by decide +kernel
theorem dX12_fault_57 : decode cX12_fault 57 = .ok (.aload_n 0, 1) := by decide +kernel
theorem dX12_fault_58 : decode cX12_fault 58 = .ok (.invokevirtual 143, 3) := by decide +kernel
theorem dX12_fault_61 : decode cX12_fault 61 = .ok (.ifCond .ne 5, 3) := by decide +kernel
theorem dX12_fault_64 : decode cX12_fault 64 = .ok (.iload_n 1, 1) := by decide +kernel
theorem dX12_fault_65 : decode cX12_fault 65 = .ok (.ireturn, 1) := by decide +kernel
theorem dX12_fault_66 : decode cX12_fault 66 = .ok (.goto (-25), 3) := by decide +kernel
theorem dX12_fault_69 : decode cX12_fault 69 = .ok (.bipush (-4), 2) := by decide +kernel
theorem dX12_fault_71 : decode cX12_fault 71 = .ok (.ireturn, 1) := by decide +kernel
theorem dX12_lay_0 : decode cX12_lay 0 = .ok (.aload_n 0, 1) := by decide +kernel
theorem dX12_lay_1 : decode cX12_lay 1 = .ok (.invokevirtual 146, 3) := by decide +kernel
theorem dX12_lay_4 : decode cX12_lay 4 = .ok (.bipush (-4), 2) := by decide +kernel
theorem dX12_lay_6 : decode cX12_lay 6 = .ok (.if_icmp .ne 10, 3) := by decide +kernel
theorem dX12_lay_9 : decode cX12_lay 9 = .ok (.aload_n 0, 1) := by decide +kernel
theorem dX12_lay_10 : decode cX12_lay 10 = .ok (.getfield 105, 3) := by decide +kernel
theorem dX12_lay_13 : decode cX12_lay 13 = .ok (.ifCond .ne 6, 3) := by decide +kernel
theorem dX12_lay_16 : decode cX12_lay 16 = .ok (.bipush (-2), 2) := by decide +kernel
theorem dX12_lay_18 : decode cX12_lay 18 = .ok (.ireturn, 1) := by decide +kernel
theorem dX12_lay_19 : decode cX12_lay 19 = .ok (.aload_n 0, 1) := by decide +kernel
theorem dX12_lay_20 : decode cX12_lay 20 = .ok (.aload_n 0, 1) := by decide +kernel
theorem dX12_lay_21 : decode cX12_lay 21 = .ok (.getfield 105, 3) := by decide +kernel
theorem dX12_lay_24 : decode cX12_lay 24 = .ok (.putfield 7, 3) := by decide +kernel
theorem dX12_lay_27 : decode cX12_lay 27 = .ok (.aload_n 0, 1) := by decide +kernel
theorem dX12_lay_28 : decode cX12_lay 28 = .ok (.aload_n 0, 1) := by decide +kernel
theorem dX12_lay_29 : decode cX12_lay 29 = .ok (.getfield 114, 3) := by decide +kernel
theorem dX12_lay_32 : decode cX12_lay 32 = .ok (.putfield 17, 3) := by decide +kernel
theorem dX12_lay_35 : decode cX12_lay 35 = .ok (.aload_n 0, 1) := by decide +kernel
theorem dX12_lay_36 : decode cX12_lay 36 = .ok (.aload_n 0, 1) := by decide +kernel
theorem dX12_lay_37 : decode cX12_lay 37 = .ok (.getfield 121, 3) := by decide +kernel
theorem dX12_lay_40 : decode cX12_lay 40 = .ok (.putfield 23, 3) := by decide +kernel
theorem dX12_lay_43 : decode cX12_lay 43 = .ok (.aload_n 0, 1) := by decide +kernel
theorem dX12_lay_44 : decode cX12_lay 44 = .ok (.getfield 13, 3) := by decide +kernel
theorem dX12_lay_47 : decode cX12_lay 47 = .ok (.iconst 0, 1) := by decide +kernel
theorem dX12_lay_48 : decode cX12_lay 48 = .ok (.aload_n 0, 1) := by decide +kernel
theorem dX12_lay_49 : decode cX12_lay 49 = .ok (.getfield 50, 3) := by decide +kernel
theorem dX12_lay_52 : decode cX12_lay 52 = .ok (.bipush 28, 2) := by decide +kernel
theorem dX12_lay_54 : decode cX12_lay 54 = .ok (.invokestatic 117, 3) := by decide +kernel
theorem dX12_lay_57 : decode cX12_lay 57 = .ok (.aload_n 0, 1) := by decide +kernel
theorem dX12_lay_58 : decode cX12_lay 58 = .ok (.getfield 20, 3) := by decide +kernel
theorem dX12_lay_61 : decode cX12_lay 61 = .ok (.iconst 0, 1) := by decide +kernel
theorem dX12_lay_62 : decode cX12_lay 62 = .ok (.aload_n 0, 1) := by decide +kernel
theorem dX12_lay_63 : decode cX12_lay 63 = .ok (.getfield 53, 3) := by decide +kernel
theorem dX12_lay_66 : decode cX12_lay 66 = .ok (.bipush 10, 2) := by decide +kernel
theorem dX12_lay_68 : decode cX12_lay 68 = .ok (.invokestatic 117, 3) := by decide +kernel
theorem dX12_lay_71 : decode cX12_lay 71 = .ok (.aload_n 0, 1) := by decide +kernel
theorem dX12_lay_72 : decode cX12_lay 72 = .ok (.getfield 26, 3) := by decide +kernel
theorem dX12_lay_75 : decode cX12_lay 75 = .ok (.iconst 0, 1) := by decide +kernel
theorem dX12_lay_76 : decode cX12_lay 76 = .ok (.aload_n 0, 1) := by decide +kernel
theorem dX12_lay_77 : decode cX12_lay 77 = .ok (.getfield 56, 3) := by decide +kernel
theorem dX12_lay_80 : decode cX12_lay 80 = .ok (.bipush 30, 2) := by decide +kernel
theorem dX12_lay_82 : decode cX12_lay 82 = .ok (.invokestatic 117, 3) := by decide +kernel
theorem dX12_lay_85 : decode cX12_lay 85 = .ok (.aload_n 0, 1) := by decide +kernel
theorem dX12_lay_86 : decode cX12_lay 86 = .ok (.getfield 32, 3) := by decide +kernel
theorem dX12_lay_89 : decode cX12_lay 89 = .ok (.iconst 0, 1) := by decide +kernel
theorem dX12_lay_90 : decode cX12_lay 90 = .ok (.aload_n 0, 1) := by decide +kernel
theorem dX12_lay_91 : decode cX12_lay 91 = .ok (.getfield 59, 3) := by decide +kernel
theorem dX12_lay_94 : decode cX12_lay 94 = .ok (.bipush 25, 2) := by decide +kernel
theorem dX12_lay_96 : decode cX12_lay 96 = .ok (.invokestatic 117, 3) := by decide +kernel
theorem dX12_lay_99 : decode cX12_lay 99 = .ok (.aload_n 0, 1) := by decide +kernel
theorem dX12_lay_100 : decode cX12_lay 100 = .ok (.invokevirtual 84, 3) := by decide +kernel
theorem dX12_lay_103 : decode cX12_lay 103 = .ok (.aload_n 0, 1) := by decide +kernel
theorem dX12_lay_104 : decode cX12_lay 104 = .ok (.iconst 0, 1) := by decide +kernel
theorem dX12_lay_105 : decode cX12_lay 105 = .ok (.putfield 150, 3) := by decide +kernel
theorem dX12_lay_108 : decode cX12_lay 108 = .ok (.aload_n 0, 1) := by decide +kernel
theorem dX12_lay_109 : decode cX12_lay 109 = .ok (.iconst 0, 1) := by decide +kernel
theorem dX12_lay_110 : decode cX12_lay 110 = .ok (.putfield 153, 3) := by decide +kernel
theorem dX12_lay_113 : decode cX12_lay 113 = .ok (.aload_n 0, 1) := by decide +kernel
theorem dX12_lay_114 : decode cX12_lay 114 = .ok (.iconst 0, 1) := by decide +kernel
theorem dX12_lay_115 : decode cX12_lay 115 = .ok (.putfield 156, 3) := by decide +kernel
theorem dX12_lay_118 : decode cX12_lay 118 = .ok (.aload_n 0, 1) := by decide +kernel
theorem dX12_lay_119 : decode cX12_lay 119 = .ok (.getfield 7, 3) := by decide +kernel
theorem dX12_lay_122 : decode cX12_lay 122 = .ok (.ireturn, 1) := by decide +kernel
theorem dX12_frame_0 : decode cX12_frame 0 = .ok (.aload_n 0, 1) := by decide +kernel
theorem dX12_frame_1 : decode cX12_frame 1 = .ok (.iload_n 1, 1) := by decide +kernel
theorem dX12_frame_2 : decode cX12_frame 2 = .ok (.invokevirtual 159, 3) := by decide +kernel
theorem dX12_frame_5 : decode cX12_frame 5 = .ok (.ifCond .eq 12, 3) := by decide +kernel
theorem dX12_frame_8 : decode cX12_frame 8 = .ok (.iload_n 2, 1) := by decide +kernel
theorem dX12_frame_9 : decode cX12_frame 9 = .ok (.iconst 0, 1) := by decide +kernel
theorem dX12_frame_10 : decode cX12_frame 10 = .ok (.iconst 3, 1) := by decide +kernel
theorem dX12_frame_11 : decode cX12_frame 11 = .ok (.invokestatic 87, 3) := by decide +kernel
theorem dX12_frame_14 : decode cX12_frame 14 = .ok (.ifCond .ne 5, 3) := by decide +kernel
theorem dX12_frame_17 : decode cX12_frame 17 = .ok (.iconst (-1), 1) := by decide +kernel
theorem dX12_frame_18 : decode cX12_frame 18 = .ok (.ireturn, 1) := by decide +kernel
theorem dX12_frame_19 : decode cX12_frame 19 = .ok (.aload_n 0, 1) := by decide +kernel
theorem dX12_frame_20 : decode cX12_frame 20 = .ok (.getfield 13, 3) := by decide +kernel
theorem dX12_frame_23 : decode cX12_frame 23 = .ok (.iconst 4, 1) := by decide +kernel
theorem dX12_frame_24 : decode cX12_frame 24 = .ok (.iload_n 1, 1) := by decide +kernel
theorem dX12_frame_25 : decode cX12_frame 25 = .ok (.imul, 1) := by decide +kernel
theorem dX12_frame_26 : decode cX12_frame 26 = .ok (.iload_n 2, 1) := by decide +kernel
theorem dX12_frame_27 : decode cX12_frame 27 = .ok (.iadd, 1) := by decide +kernel
theorem dX12_frame_28 : decode cX12_frame 28 = .ok (.iaload, 1) := by decide +kernel
theorem dX12_frame_29 : decode cX12_frame 29 = .ok (.istore_n 3, 1) := by decide +kernel
theorem dX12_frame_30 : decode cX12_frame 30 = .ok (.iload_n 2, 1) := by decide +kernel
theorem dX12_frame_31 : decode cX12_frame 31 = .ok (.ifCond .ne 7, 3) := by decide +kernel
theorem dX12_frame_34 : decode cX12_frame 34 = .ok (.iload_n 3, 1) := by decide +kernel
theorem dX12_frame_35 : decode cX12_frame 35 = .ok (.goto 18, 3) := by decide +kernel
theorem dX12_frame_38 : decode cX12_frame 38 = .ok (.iload_n 2, 1) := by decide +kernel
theorem dX12_frame_39 : decode cX12_frame 39 = .ok (.iconst 2, 1) := by decide +kernel
theorem dX12_frame_40 : decode cX12_frame 40 = .ok (.if_icmp .ne 9, 3) := by decide +kernel
theorem dX12_frame_43 : decode cX12_frame 43 = .ok (.iload_n 3, 1) := by decide +kernel
theorem dX12_frame_44 : decode cX12_frame 44 = .ok (.iconst 5, 1) := by decide +kernel
theorem dX12_frame_45 : decode cX12_frame 45 = .ok (.iadd, 1) := by decide +kernel
theorem dX12_frame_46 : decode cX12_frame 46 = .ok (.goto 7, 3) := by decide +kernel
theorem dX12_frame_49 : decode cX12_frame 49 = .ok (.iload_n 3, 1) := by decide +kernel
theorem dX12_frame_50 : decode cX12_frame 50 = .ok (.bipush 40, 2) := by decide +kernel
theorem dX12_frame_52 : decode cX12_frame 52 = .ok (.iadd, 1) := by decide +kernel
theorem dX12_frame_53 : decode cX12_frame 53 = .ok (.ireturn, 1) := by decide +kernel
theorem dX12_person_0 : decode cX12_person 0 = .ok (.aload_n 0, 1) := by decide +kernel
theorem dX12_person_1 : decode cX12_person 1 = .ok (.iload_n 1, 1) := by decide +kernel
theorem dX12_person_2 : decode cX12_person 2 = .ok (.invokevirtual 162, 3) := by decide +kernel
theorem dX12_person_5 : decode cX12_person 5 = .ok (.ifCond .eq 25, 3) := by decide +kernel
theorem dX12_person_8 : decode cX12_person 8 = .ok (.iload_n 2, 1) := by decide +kernel
theorem dX12_person_9 : decode cX12_person 9 = .ok (.iconst 0, 1) := by decide +kernel
theorem dX12_person_10 : decode cX12_person 10 = .ok (.iconst 1, 1) := by decide +kernel
theorem dX12_person_11 : decode cX12_person 11 = .ok (.invokestatic 87, 3) := by decide +kernel
theorem dX12_person_14 : decode cX12_person 14 = .ok (.ifCond .eq 16, 3) := by decide +kernel
theorem dX12_person_17 : decode cX12_person 17 = .ok (.aload_n 0, 1) := by decide +kernel
theorem dX12_person_18 : decode cX12_person 18 = .ok (.getfield 20, 3) := by decide +kernel
theorem dX12_person_21 : decode cX12_person 21 = .ok (.iconst 2, 1) := by decide +kernel
theorem dX12_person_22 : decode cX12_person 22 = .ok (.iload_n 1, 1) := by decide +kernel
theorem dX12_person_23 : decode cX12_person 23 = .ok (.imul, 1) := by decide +kernel
theorem dX12_person_24 : decode cX12_person 24 = .ok (.iload_n 2, 1) := by decide +kernel
theorem dX12_person_25 : decode cX12_person 25 = .ok (.iadd, 1) := by decide +kernel
theorem dX12_person_26 : decode cX12_person 26 = .ok (.iaload, 1) := by decide +kernel
theorem dX12_person_27 : decode cX12_person 27 = .ok (.goto 4, 3) := by decide +kernel
theorem dX12_person_30 : decode cX12_person 30 = .ok (.iconst (-1), 1) := by decide +kernel
theorem dX12_person_31 : decode cX12_person 31 = .ok (.ireturn, 1) := by decide +kernel
theorem dX12_madeOf_0 : decode cX12_madeOf 0 = .ok (.iload_n 2, 1) := by decide +kernel
theorem dX12_madeOf_1 : decode cX12_madeOf 1 = .ok (.invokestatic 165, 3) := by decide +kernel
theorem dX12_madeOf_4 : decode cX12_madeOf 4 = .ok (.iload_n 0, 1) := by decide +kernel
theorem dX12_madeOf_5 : decode cX12_madeOf 5 = .ok (.iconst 3, 1) := by decide +kernel
theorem dX12_madeOf_6 : decode cX12_madeOf 6 = .ok (.if_icmp .ne 9, 3) := by decide +kernel
theorem dX12_madeOf_9 : decode cX12_madeOf 9 = .ok (.iconst 2, 1) := by decide +kernel
theorem dX12_madeOf_10 : decode cX12_madeOf 10 = .ok (.iload_n 1, 1) := by decide +kernel
theorem dX12_madeOf_11 : decode cX12_madeOf 11 = .ok (.imul, 1) := by decide +kernel
theorem dX12_madeOf_12 : decode cX12_madeOf 12 = .ok (.goto 4, 3) := by decide +kernel
theorem dX12_madeOf_15 : decode cX12_madeOf 15 = .ok (.iload_n 1, 1) := by decide +kernel
theorem dX12_madeOf_16 : decode cX12_madeOf 16 = .ok (.if_icmp .gt 5, 3) := by decide +kernel
theorem dX12_madeOf_19 : decode cX12_madeOf 19 = .ok (.iload_n 2, 1) := by decide +kernel
theorem dX12_madeOf_20 : decode cX12_madeOf 20 = .ok (.ireturn, 1) := by decide +kernel
theorem dX12_madeOf_21 : decode cX12_madeOf 21 = .ok (.iload_n 0, 1) := by decide +kernel
theorem dX12_madeOf_22 : decode cX12_madeOf 22 = .ok (.tableswitch 37 0 2 #[26, 28, 32], 26) := by decide +kernel
theorem dX12_madeOf_48 : decode cX12_madeOf 48 = .ok (.iconst 0, 1) := by decide +kernel
theorem dX12_madeOf_49 : decode cX12_madeOf 49 = .ok (.ireturn, 1) := by decide +kernel
theorem dX12_madeOf_50 : decode cX12_madeOf 50 = .ok (.iload_n 2, 1) := by decide +kernel
theorem dX12_madeOf_51 : decode cX12_madeOf 51 = .ok (.iconst 2, 1) := by decide +kernel
theorem dX12_madeOf_52 : decode cX12_madeOf 52 = .ok (.idiv, 1) := by decide +kernel
theorem dX12_madeOf_53 : decode cX12_madeOf 53 = .ok (.ireturn, 1) := by decide +kernel
theorem dX12_madeOf_54 : decode cX12_madeOf 54 = .ok (.iload_n 2, 1) := by decide +kernel
theorem dX12_madeOf_55 : decode cX12_madeOf 55 = .ok (.iconst 2, 1) := by decide +kernel
theorem dX12_madeOf_56 : decode cX12_madeOf 56 = .ok (.idiv, 1) := by decide +kernel
theorem dX12_madeOf_57 : decode cX12_madeOf 57 = .ok (.ineg, 1) := by decide +kernel
theorem dX12_madeOf_58 : decode cX12_madeOf 58 = .ok (.ireturn, 1) := by decide +kernel
theorem dX12_madeOf_59 : decode cX12_madeOf 59 = .ok (.iload_n 2, 1) := by decide +kernel
theorem dX12_madeOf_60 : decode cX12_madeOf 60 = .ok (.ifCond .ge 8, 3) := by decide +kernel
theorem dX12_madeOf_63 : decode cX12_madeOf 63 = .ok (.iload_n 1, 1) := by decide +kernel
theorem dX12_madeOf_64 : decode cX12_madeOf 64 = .ok (.ineg, 1) := by decide +kernel
theorem dX12_madeOf_65 : decode cX12_madeOf 65 = .ok (.goto 4, 3) := by decide +kernel
theorem dX12_madeOf_68 : decode cX12_madeOf 68 = .ok (.iload_n 1, 1) := by decide +kernel
theorem dX12_madeOf_69 : decode cX12_madeOf 69 = .ok (.ireturn, 1) := by decide +kernel
theorem dX12_madeBy_0 : decode cX12_madeBy 0 = .ok (.aload_n 0, 1) := by decide +kernel
theorem dX12_madeBy_1 : decode cX12_madeBy 1 = .ok (.getfield 20, 3) := by decide +kernel
theorem dX12_madeBy_4 : decode cX12_madeBy 4 = .ok (.iconst 2, 1) := by decide +kernel
theorem dX12_madeBy_5 : decode cX12_madeBy 5 = .ok (.iload_n 1, 1) := by decide +kernel
theorem dX12_madeBy_6 : decode cX12_madeBy 6 = .ok (.imul, 1) := by decide +kernel
theorem dX12_madeBy_7 : decode cX12_madeBy 7 = .ok (.iaload, 1) := by decide +kernel
theorem dX12_madeBy_8 : decode cX12_madeBy 8 = .ok (.aload_n 0, 1) := by decide +kernel
theorem dX12_madeBy_9 : decode cX12_madeBy 9 = .ok (.getfield 20, 3) := by decide +kernel
theorem dX12_madeBy_12 : decode cX12_madeBy 12 = .ok (.iconst 2, 1) := by decide +kernel
theorem dX12_madeBy_13 : decode cX12_madeBy 13 = .ok (.iload_n 1, 1) := by decide +kernel
theorem dX12_madeBy_14 : decode cX12_madeBy 14 = .ok (.imul, 1) := by decide +kernel
theorem dX12_madeBy_15 : decode cX12_madeBy 15 = .ok (.iconst 1, 1) := by decide +kernel
theorem dX12_madeBy_16 : decode cX12_madeBy 16 = .ok (.iadd, 1) := by decide +kernel
theorem dX12_madeBy_17 : decode cX12_madeBy 17 = .ok (.iaload, 1) := by decide +kernel
theorem dX12_madeBy_18 : decode cX12_madeBy 18 = .ok (.iload_n 2, 1) := by decide +kernel
theorem dX12_madeBy_19 : decode cX12_madeBy 19 = .ok (.invokestatic 168, 3) := by decide +kernel
theorem dX12_madeBy_22 : decode cX12_madeBy 22 = .ok (.ireturn, 1) := by decide +kernel
theorem dX12_begins_0 : decode cX12_begins 0 = .ok (.iconst 0, 1) := by decide +kernel
theorem dX12_begins_1 : decode cX12_begins 1 = .ok (.istore_n 1, 1) := by decide +kernel
theorem dX12_begins_2 : decode cX12_begins 2 = .ok (.iload_n 1, 1) := by decide +kernel
theorem dX12_begins_3 : decode cX12_begins 3 = .ok (.bipush 7, 2) := by decide +kernel
theorem dX12_begins_5 : decode cX12_begins 5 = .ok (.if_icmp .ge 25, 3) := by decide +kernel
theorem dX12_begins_8 : decode cX12_begins 8 = .ok (.aload_n 0, 1) := by decide +kernel
theorem dX12_begins_9 : decode cX12_begins 9 = .ok (.getfield 62, 3) := by decide +kernel
theorem dX12_begins_12 : decode cX12_begins 12 = .ok (.iload_n 1, 1) := by decide +kernel
theorem dX12_begins_13 : decode cX12_begins 13 = .ok (.aload_n 0, 1) := by decide +kernel
theorem dX12_begins_14 : decode cX12_begins 14 = .ok (.getfield 13, 3) := by decide +kernel
theorem dX12_begins_17 : decode cX12_begins 17 = .ok (.iconst 4, 1) := by decide +kernel
theorem dX12_begins_18 : decode cX12_begins 18 = .ok (.iload_n 1, 1) := by decide +kernel
theorem dX12_begins_19 : decode cX12_begins 19 = .ok (.imul, 1) := by decide +kernel
theorem dX12_begins_20 : decode cX12_begins 20 = .ok (.iconst 1, 1) := by decide +kernel
theorem dX12_begins_21 : decode cX12_begins 21 = .ok (.iadd, 1) := by decide +kernel
theorem dX12_begins_22 : decode cX12_begins 22 = .ok (.iaload, 1) := by decide +kernel
theorem dX12_begins_23 : decode cX12_begins 23 = .ok (.iastore, 1) := by decide +kernel
theorem dX12_begins_24 : decode cX12_begins 24 = .ok (.iinc 1 1, 3) := by decide +kernel
theorem dX12_begins_27 : decode cX12_begins 27 = .ok (.goto (-25), 3) := by decide +kernel
theorem dX12_begins_30 : decode cX12_begins 30 = .ok (.return_, 1) := by decide +kernel
theorem dX12_twists_0 : decode cX12_twists 0 = .ok (.iconst 0, 1) := by decide +kernel
theorem dX12_twists_1 : decode cX12_twists 1 = .ok (.istore_n 1, 1) := by decide +kernel
theorem dX12_twists_2 : decode cX12_twists 2 = .ok (.iload_n 1, 1) := by decide +kernel
theorem dX12_twists_3 : decode cX12_twists 3 = .ok (.aload_n 0, 1) := by decide +kernel
theorem dX12_twists_4 : decode cX12_twists 4 = .ok (.getfield 7, 3) := by decide +kernel
theorem dX12_twists_7 : decode cX12_twists 7 = .ok (.if_icmp .ge 35, 3) := by decide +kernel
theorem dX12_twists_10 : decode cX12_twists 10 = .ok (.aload_n 0, 1) := by decide +kernel
theorem dX12_twists_11 : decode cX12_twists 11 = .ok (.getfield 62, 3) := by decide +kernel
theorem dX12_twists_14 : decode cX12_twists 14 = .ok (.iload_n 1, 1) := by decide +kernel
theorem dX12_twists_15 : decode cX12_twists 15 = .ok (.aload_n 0, 1) := by decide +kernel
theorem dX12_twists_16 : decode cX12_twists 16 = .ok (.getfield 62, 3) := by decide +kernel
theorem dX12_twists_19 : decode cX12_twists 19 = .ok (.iload_n 1, 1) := by decide +kernel
theorem dX12_twists_20 : decode cX12_twists 20 = .ok (.iaload, 1) := by decide +kernel
theorem dX12_twists_21 : decode cX12_twists 21 = .ok (.aload_n 0, 1) := by decide +kernel
theorem dX12_twists_22 : decode cX12_twists 22 = .ok (.getfield 13, 3) := by decide +kernel
theorem dX12_twists_25 : decode cX12_twists 25 = .ok (.iconst 4, 1) := by decide +kernel
theorem dX12_twists_26 : decode cX12_twists 26 = .ok (.iload_n 1, 1) := by decide +kernel
theorem dX12_twists_27 : decode cX12_twists 27 = .ok (.imul, 1) := by decide +kernel
theorem dX12_twists_28 : decode cX12_twists 28 = .ok (.iconst 2, 1) := by decide +kernel
theorem dX12_twists_29 : decode cX12_twists 29 = .ok (.iadd, 1) := by decide +kernel
theorem dX12_twists_30 : decode cX12_twists 30 = .ok (.iaload, 1) := by decide +kernel
theorem dX12_twists_31 : decode cX12_twists 31 = .ok (.iadd, 1) := by decide +kernel
theorem dX12_twists_32 : decode cX12_twists 32 = .ok (.invokestatic 172, 3) := by decide +kernel
theorem dX12_twists_35 : decode cX12_twists 35 = .ok (.iastore, 1) := by decide +kernel
theorem dX12_twists_36 : decode cX12_twists 36 = .ok (.iinc 1 1, 3) := by decide +kernel
theorem dX12_twists_39 : decode cX12_twists 39 = .ok (.goto (-37), 3) := by decide +kernel
theorem dX12_twists_42 : decode cX12_twists 42 = .ok (.return_, 1) := by decide +kernel
theorem dX12_turnsBy_0 : decode cX12_turnsBy 0 = .ok (.aload_n 0, 1) := by decide +kernel
theorem dX12_turnsBy_1 : decode cX12_turnsBy 1 = .ok (.getfield 62, 3) := by decide +kernel
theorem dX12_turnsBy_4 : decode cX12_turnsBy 4 = .ok (.iload_n 1, 1) := by decide +kernel
theorem dX12_turnsBy_5 : decode cX12_turnsBy 5 = .ok (.aload_n 0, 1) := by decide +kernel
theorem dX12_turnsBy_6 : decode cX12_turnsBy 6 = .ok (.getfield 62, 3) := by decide +kernel
theorem dX12_turnsBy_9 : decode cX12_turnsBy 9 = .ok (.iload_n 1, 1) := by decide +kernel
theorem dX12_turnsBy_10 : decode cX12_turnsBy 10 = .ok (.iaload, 1) := by decide +kernel
theorem dX12_turnsBy_11 : decode cX12_turnsBy 11 = .ok (.iload_n 2, 1) := by decide +kernel
theorem dX12_turnsBy_12 : decode cX12_turnsBy 12 = .ok (.iadd, 1) := by decide +kernel
theorem dX12_turnsBy_13 : decode cX12_turnsBy 13 = .ok (.invokestatic 172, 3) := by decide +kernel
theorem dX12_turnsBy_16 : decode cX12_turnsBy 16 = .ok (.iastore, 1) := by decide +kernel
theorem dX12_turnsBy_17 : decode cX12_turnsBy 17 = .ok (.return_, 1) := by decide +kernel
theorem dX12_nightOf_0 : decode cX12_nightOf 0 = .ok (.aload_n 0, 1) := by decide +kernel
theorem dX12_nightOf_1 : decode cX12_nightOf 1 = .ok (.invokevirtual 175, 3) := by decide +kernel
theorem dX12_nightOf_4 : decode cX12_nightOf 4 = .ok (.iconst 0, 1) := by decide +kernel
theorem dX12_nightOf_5 : decode cX12_nightOf 5 = .ok (.istore_n 2, 1) := by decide +kernel
theorem dX12_nightOf_6 : decode cX12_nightOf 6 = .ok (.iload_n 2, 1) := by decide +kernel
theorem dX12_nightOf_7 : decode cX12_nightOf 7 = .ok (.aload_n 0, 1) := by decide +kernel
theorem dX12_nightOf_8 : decode cX12_nightOf 8 = .ok (.getfield 32, 3) := by decide +kernel
theorem dX12_nightOf_11 : decode cX12_nightOf 11 = .ok (.iconst 0, 1) := by decide +kernel
theorem dX12_nightOf_12 : decode cX12_nightOf 12 = .ok (.iaload, 1) := by decide +kernel
theorem dX12_nightOf_13 : decode cX12_nightOf 13 = .ok (.if_icmp .ge 51, 3) := by decide +kernel
theorem dX12_nightOf_16 : decode cX12_nightOf 16 = .ok (.aload_n 0, 1) := by decide +kernel
theorem dX12_nightOf_17 : decode cX12_nightOf 17 = .ok (.getfield 32, 3) := by decide +kernel
theorem dX12_nightOf_20 : decode cX12_nightOf 20 = .ok (.iconst 1, 1) := by decide +kernel
theorem dX12_nightOf_21 : decode cX12_nightOf 21 = .ok (.iconst 3, 1) := by decide +kernel
theorem dX12_nightOf_22 : decode cX12_nightOf 22 = .ok (.iload_n 2, 1) := by decide +kernel
theorem dX12_nightOf_23 : decode cX12_nightOf 23 = .ok (.imul, 1) := by decide +kernel
theorem dX12_nightOf_24 : decode cX12_nightOf 24 = .ok (.iadd, 1) := by decide +kernel
theorem dX12_nightOf_25 : decode cX12_nightOf 25 = .ok (.iaload, 1) := by decide +kernel
theorem dX12_nightOf_26 : decode cX12_nightOf 26 = .ok (.iload_n 1, 1) := by decide +kernel
theorem dX12_nightOf_27 : decode cX12_nightOf 27 = .ok (.if_icmp .ne 31, 3) := by decide +kernel
theorem dX12_nightOf_30 : decode cX12_nightOf 30 = .ok (.aload_n 0, 1) := by decide +kernel
theorem dX12_nightOf_31 : decode cX12_nightOf 31 = .ok (.aload_n 0, 1) := by decide +kernel
theorem dX12_nightOf_32 : decode cX12_nightOf 32 = .ok (.getfield 32, 3) := by decide +kernel
theorem dX12_nightOf_35 : decode cX12_nightOf 35 = .ok (.iconst 1, 1) := by decide +kernel
theorem dX12_nightOf_36 : decode cX12_nightOf 36 = .ok (.iconst 3, 1) := by decide +kernel
theorem dX12_nightOf_37 : decode cX12_nightOf 37 = .ok (.iload_n 2, 1) := by decide +kernel
theorem dX12_nightOf_38 : decode cX12_nightOf 38 = .ok (.imul, 1) := by decide +kernel
theorem dX12_nightOf_39 : decode cX12_nightOf 39 = .ok (.iadd, 1) := by decide +kernel
theorem dX12_nightOf_40 : decode cX12_nightOf 40 = .ok (.iconst 1, 1) := by decide +kernel
theorem dX12_nightOf_41 : decode cX12_nightOf 41 = .ok (.iadd, 1) := by decide +kernel
theorem dX12_nightOf_42 : decode cX12_nightOf 42 = .ok (.iaload, 1) := by decide +kernel
theorem dX12_nightOf_43 : decode cX12_nightOf 43 = .ok (.aload_n 0, 1) := by decide +kernel
theorem dX12_nightOf_44 : decode cX12_nightOf 44 = .ok (.getfield 32, 3) := by decide +kernel
theorem dX12_nightOf_47 : decode cX12_nightOf 47 = .ok (.iconst 1, 1) := by decide +kernel
theorem dX12_nightOf_48 : decode cX12_nightOf 48 = .ok (.iconst 3, 1) := by decide +kernel
theorem dX12_nightOf_49 : decode cX12_nightOf 49 = .ok (.iload_n 2, 1) := by decide +kernel
theorem dX12_nightOf_50 : decode cX12_nightOf 50 = .ok (.imul, 1) := by decide +kernel
theorem dX12_nightOf_51 : decode cX12_nightOf 51 = .ok (.iadd, 1) := by decide +kernel
theorem dX12_nightOf_52 : decode cX12_nightOf 52 = .ok (.iconst 2, 1) := by decide +kernel
theorem dX12_nightOf_53 : decode cX12_nightOf 53 = .ok (.iadd, 1) := by decide +kernel
theorem dX12_nightOf_54 : decode cX12_nightOf 54 = .ok (.iaload, 1) := by decide +kernel
theorem dX12_nightOf_55 : decode cX12_nightOf 55 = .ok (.invokevirtual 178, 3) := by decide +kernel
theorem dX12_nightOf_58 : decode cX12_nightOf 58 = .ok (.iinc 2 1, 3) := by decide +kernel
theorem dX12_nightOf_61 : decode cX12_nightOf 61 = .ok (.goto (-55), 3) := by decide +kernel
theorem dX12_nightOf_64 : decode cX12_nightOf 64 = .ok (.return_, 1) := by decide +kernel
theorem dX12_comes_0 : decode cX12_comes 0 = .ok (.iconst 0, 1) := by decide +kernel
theorem dX12_comes_1 : decode cX12_comes 1 = .ok (.istore_n 3, 1) := by decide +kernel
theorem dX12_comes_2 : decode cX12_comes 2 = .ok (.iload_n 3, 1) := by decide +kernel
theorem dX12_comes_3 : decode cX12_comes 3 = .ok (.aload_n 0, 1) := by decide +kernel
theorem dX12_comes_4 : decode cX12_comes 4 = .ok (.getfield 7, 3) := by decide +kernel
theorem dX12_comes_7 : decode cX12_comes 7 = .ok (.if_icmp .ge 88, 3) := by decide +kernel
theorem dX12_comes_10 : decode cX12_comes 10 = .ok (.aload_n 0, 1) := by decide +kernel
theorem dX12_comes_11 : decode cX12_comes 11 = .ok (.getfield 182, 3) := by decide +kernel
theorem dX12_comes_14 : decode cX12_comes 14 = .ok (.iload_n 1, 1) := by decide +kernel
theorem dX12_comes_15 : decode cX12_comes 15 = .ok (.invokestatic 185, 3) := by decide +kernel
theorem dX12_comes_18 : decode cX12_comes 18 = .ok (.ifCond .ne 77, 3) := by decide +kernel
theorem dX12_comes_21 : decode cX12_comes 21 = .ok (.aload_n 0, 1) := by decide +kernel
theorem dX12_comes_22 : decode cX12_comes 22 = .ok (.getfield 13, 3) := by decide +kernel
theorem dX12_comes_25 : decode cX12_comes 25 = .ok (.iconst 4, 1) := by decide +kernel
theorem dX12_comes_26 : decode cX12_comes 26 = .ok (.iload_n 3, 1) := by decide +kernel
theorem dX12_comes_27 : decode cX12_comes 27 = .ok (.imul, 1) := by decide +kernel
theorem dX12_comes_28 : decode cX12_comes 28 = .ok (.iaload, 1) := by decide +kernel
theorem dX12_comes_29 : decode cX12_comes 29 = .ok (.iload_n 2, 1) := by decide +kernel
theorem dX12_comes_30 : decode cX12_comes 30 = .ok (.if_icmp .ne 59, 3) := by decide +kernel
theorem dX12_comes_33 : decode cX12_comes 33 = .ok (.aload_n 0, 1) := by decide +kernel
theorem dX12_comes_34 : decode cX12_comes 34 = .ok (.iload_n 1, 1) := by decide +kernel
theorem dX12_comes_35 : decode cX12_comes 35 = .ok (.aload_n 0, 1) := by decide +kernel
theorem dX12_comes_36 : decode cX12_comes 36 = .ok (.getfield 62, 3) := by decide +kernel
theorem dX12_comes_39 : decode cX12_comes 39 = .ok (.iload_n 3, 1) := by decide +kernel
theorem dX12_comes_40 : decode cX12_comes 40 = .ok (.iaload, 1) := by decide +kernel
theorem dX12_comes_41 : decode cX12_comes 41 = .ok (.invokevirtual 189, 3) := by decide +kernel
theorem dX12_comes_44 : decode cX12_comes 44 = .ok (.aload_n 0, 1) := by decide +kernel
theorem dX12_comes_45 : decode cX12_comes 45 = .ok (.getfield 62, 3) := by decide +kernel
theorem dX12_comes_48 : decode cX12_comes 48 = .ok (.iload_n 3, 1) := by decide +kernel
theorem dX12_comes_49 : decode cX12_comes 49 = .ok (.iaload, 1) := by decide +kernel
theorem dX12_comes_50 : decode cX12_comes 50 = .ok (.if_icmp .eq 39, 3) := by decide +kernel
theorem dX12_comes_53 : decode cX12_comes 53 = .ok (.aload_n 0, 1) := by decide +kernel
theorem dX12_comes_54 : decode cX12_comes 54 = .ok (.getfield 62, 3) := by decide +kernel
theorem dX12_comes_57 : decode cX12_comes 57 = .ok (.iload_n 3, 1) := by decide +kernel
theorem dX12_comes_58 : decode cX12_comes 58 = .ok (.aload_n 0, 1) := by decide +kernel
theorem dX12_comes_59 : decode cX12_comes 59 = .ok (.iload_n 1, 1) := by decide +kernel
theorem dX12_comes_60 : decode cX12_comes 60 = .ok (.aload_n 0, 1) := by decide +kernel
theorem dX12_comes_61 : decode cX12_comes 61 = .ok (.getfield 62, 3) := by decide +kernel
theorem dX12_comes_64 : decode cX12_comes 64 = .ok (.iload_n 3, 1) := by decide +kernel
theorem dX12_comes_65 : decode cX12_comes 65 = .ok (.iaload, 1) := by decide +kernel
theorem dX12_comes_66 : decode cX12_comes 66 = .ok (.invokevirtual 189, 3) := by decide +kernel
theorem dX12_comes_69 : decode cX12_comes 69 = .ok (.iastore, 1) := by decide +kernel
theorem dX12_comes_70 : decode cX12_comes 70 = .ok (.aload_n 0, 1) := by decide +kernel
theorem dX12_comes_71 : decode cX12_comes 71 = .ok (.getfield 68, 3) := by decide +kernel
theorem dX12_comes_74 : decode cX12_comes 74 = .ok (.iload_n 1, 1) := by decide +kernel
theorem dX12_comes_75 : decode cX12_comes 75 = .ok (.iload_n 3, 1) := by decide +kernel
theorem dX12_comes_76 : decode cX12_comes 76 = .ok (.iastore, 1) := by decide +kernel
theorem dX12_comes_77 : decode cX12_comes 77 = .ok (.aload_n 0, 1) := by decide +kernel
theorem dX12_comes_78 : decode cX12_comes 78 = .ok (.dup, 1) := by decide +kernel
theorem dX12_comes_79 : decode cX12_comes 79 = .ok (.getfield 182, 3) := by decide +kernel
theorem dX12_comes_82 : decode cX12_comes 82 = .ok (.iconst 1, 1) := by decide +kernel
theorem dX12_comes_83 : decode cX12_comes 83 = .ok (.iload_n 1, 1) := by decide +kernel
theorem dX12_comes_84 : decode cX12_comes 84 = .ok (.ishl, 1) := by decide +kernel
theorem dX12_comes_85 : decode cX12_comes 85 = .ok (.ior, 1) := by decide +kernel
theorem dX12_comes_86 : decode cX12_comes 86 = .ok (.putfield 182, 3) := by decide +kernel
theorem dX12_comes_89 : decode cX12_comes 89 = .ok (.iinc 3 1, 3) := by decide +kernel
theorem dX12_comes_92 : decode cX12_comes 92 = .ok (.goto (-90), 3) := by decide +kernel
theorem dX12_comes_95 : decode cX12_comes 95 = .ok (.return_, 1) := by decide +kernel
theorem dX12_morning_0 : decode cX12_morning 0 = .ok (.aload_n 0, 1) := by decide +kernel
theorem dX12_morning_1 : decode cX12_morning 1 = .ok (.iconst 0, 1) := by decide +kernel
theorem dX12_morning_2 : decode cX12_morning 2 = .ok (.putfield 182, 3) := by decide +kernel
theorem dX12_morning_5 : decode cX12_morning 5 = .ok (.iconst 0, 1) := by decide +kernel
theorem dX12_morning_6 : decode cX12_morning 6 = .ok (.istore_n 1, 1) := by decide +kernel
theorem dX12_morning_7 : decode cX12_morning 7 = .ok (.iload_n 1, 1) := by decide +kernel
theorem dX12_morning_8 : decode cX12_morning 8 = .ok (.iconst 5, 1) := by decide +kernel
theorem dX12_morning_9 : decode cX12_morning 9 = .ok (.if_icmp .ge 17, 3) := by decide +kernel
theorem dX12_morning_12 : decode cX12_morning 12 = .ok (.aload_n 0, 1) := by decide +kernel
theorem dX12_morning_13 : decode cX12_morning 13 = .ok (.getfield 68, 3) := by decide +kernel
theorem dX12_morning_16 : decode cX12_morning 16 = .ok (.iload_n 1, 1) := by decide +kernel
theorem dX12_morning_17 : decode cX12_morning 17 = .ok (.bipush (-4), 2) := by decide +kernel
theorem dX12_morning_19 : decode cX12_morning 19 = .ok (.iastore, 1) := by decide +kernel
theorem dX12_morning_20 : decode cX12_morning 20 = .ok (.iinc 1 1, 3) := by decide +kernel
theorem dX12_morning_23 : decode cX12_morning 23 = .ok (.goto (-16), 3) := by decide +kernel
theorem dX12_morning_26 : decode cX12_morning 26 = .ok (.iconst 0, 1) := by decide +kernel
theorem dX12_morning_27 : decode cX12_morning 27 = .ok (.istore_n 1, 1) := by decide +kernel
theorem dX12_morning_28 : decode cX12_morning 28 = .ok (.iload_n 1, 1) := by decide +kernel
theorem dX12_morning_29 : decode cX12_morning 29 = .ok (.aload_n 0, 1) := by decide +kernel
theorem dX12_morning_30 : decode cX12_morning 30 = .ok (.getfield 23, 3) := by decide +kernel
theorem dX12_morning_33 : decode cX12_morning 33 = .ok (.if_icmp .ge 41, 3) := by decide +kernel
theorem dX12_morning_36 : decode cX12_morning 36 = .ok (.aload_n 0, 1) := by decide +kernel
theorem dX12_morning_37 : decode cX12_morning 37 = .ok (.aload_n 0, 1) := by decide +kernel
theorem dX12_morning_38 : decode cX12_morning 38 = .ok (.getfield 26, 3) := by decide +kernel
theorem dX12_morning_41 : decode cX12_morning 41 = .ok (.iconst 3, 1) := by decide +kernel
theorem dX12_morning_42 : decode cX12_morning 42 = .ok (.aload_n 0, 1) := by decide +kernel
theorem dX12_morning_43 : decode cX12_morning 43 = .ok (.getfield 29, 3) := by decide +kernel
theorem dX12_morning_46 : decode cX12_morning 46 = .ok (.iload_n 1, 1) := by decide +kernel
theorem dX12_morning_47 : decode cX12_morning 47 = .ok (.iaload, 1) := by decide +kernel
theorem dX12_morning_48 : decode cX12_morning 48 = .ok (.imul, 1) := by decide +kernel
theorem dX12_morning_49 : decode cX12_morning 49 = .ok (.iaload, 1) := by decide +kernel
theorem dX12_morning_50 : decode cX12_morning 50 = .ok (.aload_n 0, 1) := by decide +kernel
theorem dX12_morning_51 : decode cX12_morning 51 = .ok (.getfield 26, 3) := by decide +kernel
theorem dX12_morning_54 : decode cX12_morning 54 = .ok (.iconst 3, 1) := by decide +kernel
theorem dX12_morning_55 : decode cX12_morning 55 = .ok (.aload_n 0, 1) := by decide +kernel
theorem dX12_morning_56 : decode cX12_morning 56 = .ok (.getfield 29, 3) := by decide +kernel
theorem dX12_morning_59 : decode cX12_morning 59 = .ok (.iload_n 1, 1) := by decide +kernel
theorem dX12_morning_60 : decode cX12_morning 60 = .ok (.iaload, 1) := by decide +kernel
theorem dX12_morning_61 : decode cX12_morning 61 = .ok (.imul, 1) := by decide +kernel
theorem dX12_morning_62 : decode cX12_morning 62 = .ok (.iconst 2, 1) := by decide +kernel
theorem dX12_morning_63 : decode cX12_morning 63 = .ok (.iadd, 1) := by decide +kernel
theorem dX12_morning_64 : decode cX12_morning 64 = .ok (.iaload, 1) := by decide +kernel
theorem dX12_morning_65 : decode cX12_morning 65 = .ok (.invokevirtual 193, 3) := by decide +kernel
theorem dX12_morning_68 : decode cX12_morning 68 = .ok (.iinc 1 1, 3) := by decide +kernel
theorem dX12_morning_71 : decode cX12_morning 71 = .ok (.goto (-43), 3) := by decide +kernel
theorem dX12_morning_74 : decode cX12_morning 74 = .ok (.return_, 1) := by decide +kernel
theorem dX12_goes_0 : decode cX12_goes 0 = .ok (.aload_n 0, 1) := by decide +kernel
theorem dX12_goes_1 : decode cX12_goes 1 = .ok (.invokevirtual 196, 3) := by decide +kernel
theorem dX12_goes_4 : decode cX12_goes 4 = .ok (.iconst 0, 1) := by decide +kernel
theorem dX12_goes_5 : decode cX12_goes 5 = .ok (.istore_n 2, 1) := by decide +kernel
theorem dX12_goes_6 : decode cX12_goes 6 = .ok (.iload_n 2, 1) := by decide +kernel
theorem dX12_goes_7 : decode cX12_goes 7 = .ok (.iload_n 1, 1) := by decide +kernel
theorem dX12_goes_8 : decode cX12_goes 8 = .ok (.if_icmp .gt 44, 3) := by decide +kernel
theorem dX12_goes_11 : decode cX12_goes 11 = .ok (.aload_n 0, 1) := by decide +kernel
theorem dX12_goes_12 : decode cX12_goes 12 = .ok (.iload_n 2, 1) := by decide +kernel
theorem dX12_goes_13 : decode cX12_goes 13 = .ok (.invokevirtual 199, 3) := by decide +kernel
theorem dX12_goes_16 : decode cX12_goes 16 = .ok (.iconst 0, 1) := by decide +kernel
theorem dX12_goes_17 : decode cX12_goes 17 = .ok (.istore_n 3, 1) := by decide +kernel
theorem dX12_goes_18 : decode cX12_goes 18 = .ok (.iload_n 3, 1) := by decide +kernel
theorem dX12_goes_19 : decode cX12_goes 19 = .ok (.bipush 7, 2) := by decide +kernel
theorem dX12_goes_21 : decode cX12_goes 21 = .ok (.if_icmp .ge 21, 3) := by decide +kernel
theorem dX12_goes_24 : decode cX12_goes 24 = .ok (.aload_n 0, 1) := by decide +kernel
theorem dX12_goes_25 : decode cX12_goes 25 = .ok (.getfield 65, 3) := by decide +kernel
theorem dX12_goes_28 : decode cX12_goes 28 = .ok (.iload_n 3, 1) := by decide +kernel
theorem dX12_goes_29 : decode cX12_goes 29 = .ok (.aload_n 0, 1) := by decide +kernel
theorem dX12_goes_30 : decode cX12_goes 30 = .ok (.getfield 62, 3) := by decide +kernel
theorem dX12_goes_33 : decode cX12_goes 33 = .ok (.iload_n 3, 1) := by decide +kernel
theorem dX12_goes_34 : decode cX12_goes 34 = .ok (.iaload, 1) := by decide +kernel
theorem dX12_goes_35 : decode cX12_goes 35 = .ok (.iastore, 1) := by decide +kernel
theorem dX12_goes_36 : decode cX12_goes 36 = .ok (.iinc 3 1, 3) := by decide +kernel
theorem dX12_goes_39 : decode cX12_goes 39 = .ok (.goto (-21), 3) := by decide +kernel
theorem dX12_goes_42 : decode cX12_goes 42 = .ok (.aload_n 0, 1) := by decide +kernel
theorem dX12_goes_43 : decode cX12_goes 43 = .ok (.invokevirtual 203, 3) := by decide +kernel
theorem dX12_goes_46 : decode cX12_goes 46 = .ok (.iinc 2 1, 3) := by decide +kernel
theorem dX12_goes_49 : decode cX12_goes 49 = .ok (.goto (-43), 3) := by decide +kernel
theorem dX12_goes_52 : decode cX12_goes 52 = .ok (.return_, 1) := by decide +kernel
theorem dX12_angle_0 : decode cX12_angle 0 = .ok (.aload_n 0, 1) := by decide +kernel
theorem dX12_angle_1 : decode cX12_angle 1 = .ok (.iload_n 1, 1) := by decide +kernel
theorem dX12_angle_2 : decode cX12_angle 2 = .ok (.invokevirtual 159, 3) := by decide +kernel
theorem dX12_angle_5 : decode cX12_angle 5 = .ok (.ifCond .eq 10, 3) := by decide +kernel
theorem dX12_angle_8 : decode cX12_angle 8 = .ok (.iload_n 2, 1) := by decide +kernel
theorem dX12_angle_9 : decode cX12_angle 9 = .ok (.invokestatic 206, 3) := by decide +kernel
theorem dX12_angle_12 : decode cX12_angle 12 = .ok (.ifCond .ne 5, 3) := by decide +kernel
theorem dX12_angle_15 : decode cX12_angle 15 = .ok (.iconst (-1), 1) := by decide +kernel
theorem dX12_angle_16 : decode cX12_angle 16 = .ok (.ireturn, 1) := by decide +kernel
theorem dX12_angle_17 : decode cX12_angle 17 = .ok (.aload_n 0, 1) := by decide +kernel
theorem dX12_angle_18 : decode cX12_angle 18 = .ok (.iload_n 2, 1) := by decide +kernel
theorem dX12_angle_19 : decode cX12_angle 19 = .ok (.invokevirtual 209, 3) := by decide +kernel
theorem dX12_angle_22 : decode cX12_angle 22 = .ok (.aload_n 0, 1) := by decide +kernel
theorem dX12_angle_23 : decode cX12_angle 23 = .ok (.getfield 62, 3) := by decide +kernel
theorem dX12_angle_26 : decode cX12_angle 26 = .ok (.iload_n 1, 1) := by decide +kernel
theorem dX12_angle_27 : decode cX12_angle 27 = .ok (.iaload, 1) := by decide +kernel
theorem dX12_angle_28 : decode cX12_angle 28 = .ok (.bipush 40, 2) := by decide +kernel
theorem dX12_angle_30 : decode cX12_angle 30 = .ok (.iadd, 1) := by decide +kernel
theorem dX12_angle_31 : decode cX12_angle 31 = .ok (.ireturn, 1) := by decide +kernel
theorem dX12_hers_0 : decode cX12_hers 0 = .ok (.iload_n 1, 1) := by decide +kernel
theorem dX12_hers_1 : decode cX12_hers 1 = .ok (.invokestatic 206, 3) := by decide +kernel
theorem dX12_hers_4 : decode cX12_hers 4 = .ok (.ifCond .ne 5, 3) := by decide +kernel
theorem dX12_hers_7 : decode cX12_hers 7 = .ok (.iconst (-1), 1) := by decide +kernel
theorem dX12_hers_8 : decode cX12_hers 8 = .ok (.ireturn, 1) := by decide +kernel
theorem dX12_hers_9 : decode cX12_hers 9 = .ok (.aload_n 0, 1) := by decide +kernel
theorem dX12_hers_10 : decode cX12_hers 10 = .ok (.iload_n 1, 1) := by decide +kernel
theorem dX12_hers_11 : decode cX12_hers 11 = .ok (.invokevirtual 209, 3) := by decide +kernel
theorem dX12_hers_14 : decode cX12_hers 14 = .ok (.aload_n 0, 1) := by decide +kernel
theorem dX12_hers_15 : decode cX12_hers 15 = .ok (.getfield 182, 3) := by decide +kernel
theorem dX12_hers_18 : decode cX12_hers 18 = .ok (.ireturn, 1) := by decide +kernel
theorem dX12_sets_0 : decode cX12_sets 0 = .ok (.aload_n 0, 1) := by decide +kernel
theorem dX12_sets_1 : decode cX12_sets 1 = .ok (.iload_n 1, 1) := by decide +kernel
theorem dX12_sets_2 : decode cX12_sets 2 = .ok (.invokevirtual 162, 3) := by decide +kernel
theorem dX12_sets_5 : decode cX12_sets 5 = .ok (.ifCond .eq 10, 3) := by decide +kernel
theorem dX12_sets_8 : decode cX12_sets 8 = .ok (.iload_n 2, 1) := by decide +kernel
theorem dX12_sets_9 : decode cX12_sets 9 = .ok (.invokestatic 206, 3) := by decide +kernel
theorem dX12_sets_12 : decode cX12_sets 12 = .ok (.ifCond .ne 5, 3) := by decide +kernel
theorem dX12_sets_15 : decode cX12_sets 15 = .ok (.iconst (-1), 1) := by decide +kernel
theorem dX12_sets_16 : decode cX12_sets 16 = .ok (.ireturn, 1) := by decide +kernel
theorem dX12_sets_17 : decode cX12_sets 17 = .ok (.aload_n 0, 1) := by decide +kernel
theorem dX12_sets_18 : decode cX12_sets 18 = .ok (.iload_n 2, 1) := by decide +kernel
theorem dX12_sets_19 : decode cX12_sets 19 = .ok (.invokevirtual 209, 3) := by decide +kernel
theorem dX12_sets_22 : decode cX12_sets 22 = .ok (.aload_n 0, 1) := by decide +kernel
theorem dX12_sets_23 : decode cX12_sets 23 = .ok (.getfield 68, 3) := by decide +kernel
theorem dX12_sets_26 : decode cX12_sets 26 = .ok (.iload_n 1, 1) := by decide +kernel
theorem dX12_sets_27 : decode cX12_sets 27 = .ok (.iaload, 1) := by decide +kernel
theorem dX12_sets_28 : decode cX12_sets 28 = .ok (.ireturn, 1) := by decide +kernel
theorem dX12_rest_0 : decode cX12_rest 0 = .ok (.iconst 0, 1) := by decide +kernel
theorem dX12_rest_1 : decode cX12_rest 1 = .ok (.istore_n 1, 1) := by decide +kernel
theorem dX12_rest_2 : decode cX12_rest 2 = .ok (.aload_n 0, 1) := by decide +kernel
theorem dX12_rest_3 : decode cX12_rest 3 = .ok (.invokevirtual 196, 3) := by decide +kernel
theorem dX12_rest_6 : decode cX12_rest 6 = .ok (.iconst 0, 1) := by decide +kernel
theorem dX12_rest_7 : decode cX12_rest 7 = .ok (.istore_n 2, 1) := by decide +kernel
theorem dX12_rest_8 : decode cX12_rest 8 = .ok (.iload_n 2, 1) := by decide +kernel
theorem dX12_rest_9 : decode cX12_rest 9 = .ok (.bipush 30, 2) := by decide +kernel
theorem dX12_rest_11 : decode cX12_rest 11 = .ok (.if_icmp .gt 83, 3) := by decide +kernel
theorem dX12_rest_14 : decode cX12_rest 14 = .ok (.iconst 0, 1) := by decide +kernel
theorem dX12_rest_15 : decode cX12_rest 15 = .ok (.istore_n 3, 1) := by decide +kernel
theorem dX12_rest_16 : decode cX12_rest 16 = .ok (.iload_n 3, 1) := by decide +kernel
theorem dX12_rest_17 : decode cX12_rest 17 = .ok (.bipush 7, 2) := by decide +kernel
theorem dX12_rest_19 : decode cX12_rest 19 = .ok (.if_icmp .ge 21, 3) := by decide +kernel
theorem dX12_rest_22 : decode cX12_rest 22 = .ok (.aload_n 0, 1) := by decide +kernel
theorem dX12_rest_23 : decode cX12_rest 23 = .ok (.getfield 71, 3) := by decide +kernel
theorem dX12_rest_26 : decode cX12_rest 26 = .ok (.iload_n 3, 1) := by decide +kernel
theorem dX12_rest_27 : decode cX12_rest 27 = .ok (.aload_n 0, 1) := by decide +kernel
theorem dX12_rest_28 : decode cX12_rest 28 = .ok (.getfield 62, 3) := by decide +kernel
theorem dX12_rest_31 : decode cX12_rest 31 = .ok (.iload_n 3, 1) := by decide +kernel
theorem dX12_rest_32 : decode cX12_rest 32 = .ok (.iaload, 1) := by decide +kernel
theorem dX12_rest_33 : decode cX12_rest 33 = .ok (.iastore, 1) := by decide +kernel
theorem dX12_rest_34 : decode cX12_rest 34 = .ok (.iinc 3 1, 3) := by decide +kernel
theorem dX12_rest_37 : decode cX12_rest 37 = .ok (.goto (-21), 3) := by decide +kernel
theorem dX12_rest_40 : decode cX12_rest 40 = .ok (.aload_n 0, 1) := by decide +kernel
theorem dX12_rest_41 : decode cX12_rest 41 = .ok (.iload_n 2, 1) := by decide +kernel
theorem dX12_rest_42 : decode cX12_rest 42 = .ok (.invokevirtual 199, 3) := by decide +kernel
theorem dX12_rest_45 : decode cX12_rest 45 = .ok (.aload_n 0, 1) := by decide +kernel
theorem dX12_rest_46 : decode cX12_rest 46 = .ok (.invokevirtual 203, 3) := by decide +kernel
theorem dX12_rest_49 : decode cX12_rest 49 = .ok (.iconst 0, 1) := by decide +kernel
theorem dX12_rest_50 : decode cX12_rest 50 = .ok (.istore_n 3, 1) := by decide +kernel
theorem dX12_rest_51 : decode cX12_rest 51 = .ok (.iload_n 3, 1) := by decide +kernel
theorem dX12_rest_52 : decode cX12_rest 52 = .ok (.aload_n 0, 1) := by decide +kernel
theorem dX12_rest_53 : decode cX12_rest 53 = .ok (.getfield 7, 3) := by decide +kernel
theorem dX12_rest_56 : decode cX12_rest 56 = .ok (.if_icmp .ge 32, 3) := by decide +kernel
theorem dX12_rest_59 : decode cX12_rest 59 = .ok (.aload_n 0, 1) := by decide +kernel
theorem dX12_rest_60 : decode cX12_rest 60 = .ok (.getfield 62, 3) := by decide +kernel
theorem dX12_rest_63 : decode cX12_rest 63 = .ok (.iload_n 3, 1) := by decide +kernel
theorem dX12_rest_64 : decode cX12_rest 64 = .ok (.iaload, 1) := by decide +kernel
theorem dX12_rest_65 : decode cX12_rest 65 = .ok (.aload_n 0, 1) := by decide +kernel
theorem dX12_rest_66 : decode cX12_rest 66 = .ok (.getfield 71, 3) := by decide +kernel
theorem dX12_rest_69 : decode cX12_rest 69 = .ok (.iload_n 3, 1) := by decide +kernel
theorem dX12_rest_70 : decode cX12_rest 70 = .ok (.iaload, 1) := by decide +kernel
theorem dX12_rest_71 : decode cX12_rest 71 = .ok (.if_icmp .ne 7, 3) := by decide +kernel
theorem dX12_rest_74 : decode cX12_rest 74 = .ok (.iload_n 1, 1) := by decide +kernel
theorem dX12_rest_75 : decode cX12_rest 75 = .ok (.goto 6, 3) := by decide +kernel
theorem dX12_rest_78 : decode cX12_rest 78 = .ok (.iload_n 2, 1) := by decide +kernel
theorem dX12_rest_79 : decode cX12_rest 79 = .ok (.iconst 1, 1) := by decide +kernel
theorem dX12_rest_80 : decode cX12_rest 80 = .ok (.iadd, 1) := by decide +kernel
theorem dX12_rest_81 : decode cX12_rest 81 = .ok (.istore_n 1, 1) := by decide +kernel
theorem dX12_rest_82 : decode cX12_rest 82 = .ok (.iinc 3 1, 3) := by decide +kernel
theorem dX12_rest_85 : decode cX12_rest 85 = .ok (.goto (-34), 3) := by decide +kernel
theorem dX12_rest_88 : decode cX12_rest 88 = .ok (.iinc 2 1, 3) := by decide +kernel
theorem dX12_rest_91 : decode cX12_rest 91 = .ok (.goto (-83), 3) := by decide +kernel
theorem dX12_rest_94 : decode cX12_rest 94 = .ok (.iload_n 1, 1) := by decide +kernel
theorem dX12_rest_95 : decode cX12_rest 95 = .ok (.bipush 30, 2) := by decide +kernel
theorem dX12_rest_97 : decode cX12_rest 97 = .ok (.if_icmp .le 8, 3) := by decide +kernel
theorem dX12_rest_100 : decode cX12_rest 100 = .ok (.bipush (-4), 2) := by decide +kernel
theorem dX12_rest_102 : decode cX12_rest 102 = .ok (.goto 4, 3) := by decide +kernel
theorem dX12_rest_105 : decode cX12_rest 105 = .ok (.iload_n 1, 1) := by decide +kernel
theorem dX12_rest_106 : decode cX12_rest 106 = .ok (.ireturn, 1) := by decide +kernel
theorem dX12_sways_0 : decode cX12_sways 0 = .ok (.iconst 0, 1) := by decide +kernel
theorem dX12_sways_1 : decode cX12_sways 1 = .ok (.istore_n 1, 1) := by decide +kernel
theorem dX12_sways_2 : decode cX12_sways 2 = .ok (.aload_n 0, 1) := by decide +kernel
theorem dX12_sways_3 : decode cX12_sways 3 = .ok (.invokevirtual 196, 3) := by decide +kernel
theorem dX12_sways_6 : decode cX12_sways 6 = .ok (.iconst 0, 1) := by decide +kernel
theorem dX12_sways_7 : decode cX12_sways 7 = .ok (.istore_n 2, 1) := by decide +kernel
theorem dX12_sways_8 : decode cX12_sways 8 = .ok (.iload_n 2, 1) := by decide +kernel
theorem dX12_sways_9 : decode cX12_sways 9 = .ok (.bipush 30, 2) := by decide +kernel
theorem dX12_sways_11 : decode cX12_sways 11 = .ok (.if_icmp .gt 84, 3) := by decide +kernel
theorem dX12_sways_14 : decode cX12_sways 14 = .ok (.aload_n 0, 1) := by decide +kernel
theorem dX12_sways_15 : decode cX12_sways 15 = .ok (.iload_n 2, 1) := by decide +kernel
theorem dX12_sways_16 : decode cX12_sways 16 = .ok (.invokevirtual 199, 3) := by decide +kernel
theorem dX12_sways_19 : decode cX12_sways 19 = .ok (.aload_n 0, 1) := by decide +kernel
theorem dX12_sways_20 : decode cX12_sways 20 = .ok (.invokevirtual 203, 3) := by decide +kernel
theorem dX12_sways_23 : decode cX12_sways 23 = .ok (.iconst 0, 1) := by decide +kernel
theorem dX12_sways_24 : decode cX12_sways 24 = .ok (.istore_n 3, 1) := by decide +kernel
theorem dX12_sways_25 : decode cX12_sways 25 = .ok (.iload_n 3, 1) := by decide +kernel
theorem dX12_sways_26 : decode cX12_sways 26 = .ok (.aload_n 0, 1) := by decide +kernel
theorem dX12_sways_27 : decode cX12_sways 27 = .ok (.getfield 7, 3) := by decide +kernel
theorem dX12_sways_30 : decode cX12_sways 30 = .ok (.if_icmp .ge 59, 3) := by decide +kernel
theorem dX12_sways_33 : decode cX12_sways 33 = .ok (.aload_n 0, 1) := by decide +kernel
theorem dX12_sways_34 : decode cX12_sways 34 = .ok (.getfield 71, 3) := by decide +kernel
theorem dX12_sways_37 : decode cX12_sways 37 = .ok (.iload_n 3, 1) := by decide +kernel
theorem dX12_sways_38 : decode cX12_sways 38 = .ok (.iload_n 2, 1) := by decide +kernel
theorem dX12_sways_39 : decode cX12_sways 39 = .ok (.ifCond .ne 12, 3) := by decide +kernel
theorem dX12_sways_42 : decode cX12_sways 42 = .ok (.aload_n 0, 1) := by decide +kernel
theorem dX12_sways_43 : decode cX12_sways 43 = .ok (.getfield 62, 3) := by decide +kernel
theorem dX12_sways_46 : decode cX12_sways 46 = .ok (.iload_n 3, 1) := by decide +kernel
theorem dX12_sways_47 : decode cX12_sways 47 = .ok (.iaload, 1) := by decide +kernel
theorem dX12_sways_48 : decode cX12_sways 48 = .ok (.goto 9, 3) := by decide +kernel
theorem dX12_sways_51 : decode cX12_sways 51 = .ok (.aload_n 0, 1) := by decide +kernel
theorem dX12_sways_52 : decode cX12_sways 52 = .ok (.getfield 71, 3) := by decide +kernel
theorem dX12_sways_55 : decode cX12_sways 55 = .ok (.iload_n 3, 1) := by decide +kernel
theorem dX12_sways_56 : decode cX12_sways 56 = .ok (.iaload, 1) := by decide +kernel
theorem dX12_sways_57 : decode cX12_sways 57 = .ok (.iastore, 1) := by decide +kernel
theorem dX12_sways_58 : decode cX12_sways 58 = .ok (.iload_n 1, 1) := by decide +kernel
theorem dX12_sways_59 : decode cX12_sways 59 = .ok (.aload_n 0, 1) := by decide +kernel
theorem dX12_sways_60 : decode cX12_sways 60 = .ok (.getfield 62, 3) := by decide +kernel
theorem dX12_sways_63 : decode cX12_sways 63 = .ok (.iload_n 3, 1) := by decide +kernel
theorem dX12_sways_64 : decode cX12_sways 64 = .ok (.iaload, 1) := by decide +kernel
theorem dX12_sways_65 : decode cX12_sways 65 = .ok (.aload_n 0, 1) := by decide +kernel
theorem dX12_sways_66 : decode cX12_sways 66 = .ok (.getfield 71, 3) := by decide +kernel
theorem dX12_sways_69 : decode cX12_sways 69 = .ok (.iload_n 3, 1) := by decide +kernel
theorem dX12_sways_70 : decode cX12_sways 70 = .ok (.iaload, 1) := by decide +kernel
theorem dX12_sways_71 : decode cX12_sways 71 = .ok (.if_icmp .ne 7, 3) := by decide +kernel
theorem dX12_sways_74 : decode cX12_sways 74 = .ok (.iconst 0, 1) := by decide +kernel
theorem dX12_sways_75 : decode cX12_sways 75 = .ok (.goto 6, 3) := by decide +kernel
theorem dX12_sways_78 : decode cX12_sways 78 = .ok (.iconst 1, 1) := by decide +kernel
theorem dX12_sways_79 : decode cX12_sways 79 = .ok (.iload_n 3, 1) := by decide +kernel
theorem dX12_sways_80 : decode cX12_sways 80 = .ok (.ishl, 1) := by decide +kernel
theorem dX12_sways_81 : decode cX12_sways 81 = .ok (.ior, 1) := by decide +kernel
theorem dX12_sways_82 : decode cX12_sways 82 = .ok (.istore_n 1, 1) := by decide +kernel
theorem dX12_sways_83 : decode cX12_sways 83 = .ok (.iinc 3 1, 3) := by decide +kernel
theorem dX12_sways_86 : decode cX12_sways 86 = .ok (.goto (-61), 3) := by decide +kernel
theorem dX12_sways_89 : decode cX12_sways 89 = .ok (.iinc 2 1, 3) := by decide +kernel
end
section
theorem dX12_sways_92 : decode cX12_sways 92 = .ok (.goto (-84), 3) := by decide +kernel
theorem dX12_sways_95 : decode cX12_sways 95 = .ok (.iload_n 1, 1) := by decide +kernel
theorem dX12_sways_96 : decode cX12_sways 96 = .ok (.invokestatic 212, 3) := by decide +kernel
theorem dX12_sways_99 : decode cX12_sways 99 = .ok (.ireturn, 1) := by decide +kernel
theorem dX12_told_0 : decode cX12_told 0 = .ok (.iload_n 1, 1) := by decide +kernel
theorem dX12_told_1 : decode cX12_told 1 = .ok (.iconst 0, 1) := by decide +kernel
theorem dX12_told_2 : decode cX12_told 2 = .ok (.aload_n 0, 1) := by decide +kernel
theorem dX12_told_3 : decode cX12_told 3 = .ok (.getfield 32, 3) := by decide +kernel
theorem dX12_told_6 : decode cX12_told 6 = .ok (.iconst 0, 1) := by decide +kernel
theorem dX12_told_7 : decode cX12_told 7 = .ok (.iaload, 1) := by decide +kernel
theorem dX12_told_8 : decode cX12_told 8 = .ok (.iconst 1, 1) := by decide +kernel
theorem dX12_told_9 : decode cX12_told 9 = .ok (.isub, 1) := by decide +kernel
theorem dX12_told_10 : decode cX12_told 10 = .ok (.invokestatic 87, 3) := by decide +kernel
theorem dX12_told_13 : decode cX12_told 13 = .ok (.ifCond .eq 12, 3) := by decide +kernel
theorem dX12_told_16 : decode cX12_told 16 = .ok (.iload_n 2, 1) := by decide +kernel
theorem dX12_told_17 : decode cX12_told 17 = .ok (.iconst 0, 1) := by decide +kernel
theorem dX12_told_18 : decode cX12_told 18 = .ok (.iconst 2, 1) := by decide +kernel
theorem dX12_told_19 : decode cX12_told 19 = .ok (.invokestatic 87, 3) := by decide +kernel
theorem dX12_told_22 : decode cX12_told 22 = .ok (.ifCond .ne 5, 3) := by decide +kernel
theorem dX12_told_25 : decode cX12_told 25 = .ok (.iconst (-1), 1) := by decide +kernel
theorem dX12_told_26 : decode cX12_told 26 = .ok (.ireturn, 1) := by decide +kernel
theorem dX12_told_27 : decode cX12_told 27 = .ok (.aload_n 0, 1) := by decide +kernel
theorem dX12_told_28 : decode cX12_told 28 = .ok (.getfield 32, 3) := by decide +kernel
theorem dX12_told_31 : decode cX12_told 31 = .ok (.iconst 1, 1) := by decide +kernel
theorem dX12_told_32 : decode cX12_told 32 = .ok (.iconst 3, 1) := by decide +kernel
theorem dX12_told_33 : decode cX12_told 33 = .ok (.iload_n 1, 1) := by decide +kernel
theorem dX12_told_34 : decode cX12_told 34 = .ok (.imul, 1) := by decide +kernel
theorem dX12_told_35 : decode cX12_told 35 = .ok (.iadd, 1) := by decide +kernel
theorem dX12_told_36 : decode cX12_told 36 = .ok (.iload_n 2, 1) := by decide +kernel
theorem dX12_told_37 : decode cX12_told 37 = .ok (.iadd, 1) := by decide +kernel
theorem dX12_told_38 : decode cX12_told 38 = .ok (.iaload, 1) := by decide +kernel
theorem dX12_told_39 : decode cX12_told 39 = .ok (.iload_n 2, 1) := by decide +kernel
theorem dX12_told_40 : decode cX12_told 40 = .ok (.iconst 2, 1) := by decide +kernel
theorem dX12_told_41 : decode cX12_told 41 = .ok (.if_icmp .ne 8, 3) := by decide +kernel
theorem dX12_told_44 : decode cX12_told 44 = .ok (.bipush 20, 2) := by decide +kernel
theorem dX12_told_46 : decode cX12_told 46 = .ok (.goto 4, 3) := by decide +kernel
theorem dX12_told_49 : decode cX12_told 49 = .ok (.iconst 0, 1) := by decide +kernel
theorem dX12_told_50 : decode cX12_told 50 = .ok (.iadd, 1) := by decide +kernel
theorem dX12_told_51 : decode cX12_told 51 = .ok (.ireturn, 1) := by decide +kernel
theorem dX12_remembers_0 : decode cX12_remembers 0 = .ok (.aload_n 0, 1) := by decide +kernel
theorem dX12_remembers_1 : decode cX12_remembers 1 = .ok (.getfield 150, 3) := by decide +kernel
theorem dX12_remembers_4 : decode cX12_remembers 4 = .ok (.bipush 8, 2) := by decide +kernel
theorem dX12_remembers_6 : decode cX12_remembers 6 = .ok (.if_icmp .ne 43, 3) := by decide +kernel
theorem dX12_remembers_9 : decode cX12_remembers 9 = .ok (.iconst 0, 1) := by decide +kernel
theorem dX12_remembers_10 : decode cX12_remembers 10 = .ok (.istore_n 1, 1) := by decide +kernel
theorem dX12_remembers_11 : decode cX12_remembers 11 = .ok (.iload_n 1, 1) := by decide +kernel
theorem dX12_remembers_12 : decode cX12_remembers 12 = .ok (.sipush 175, 3) := by decide +kernel
theorem dX12_remembers_15 : decode cX12_remembers 15 = .ok (.if_icmp .ge 24, 3) := by decide +kernel
theorem dX12_remembers_18 : decode cX12_remembers 18 = .ok (.aload_n 0, 1) := by decide +kernel
theorem dX12_remembers_19 : decode cX12_remembers 19 = .ok (.getfield 35, 3) := by decide +kernel
theorem dX12_remembers_22 : decode cX12_remembers 22 = .ok (.iload_n 1, 1) := by decide +kernel
theorem dX12_remembers_23 : decode cX12_remembers 23 = .ok (.aload_n 0, 1) := by decide +kernel
theorem dX12_remembers_24 : decode cX12_remembers 24 = .ok (.getfield 35, 3) := by decide +kernel
theorem dX12_remembers_27 : decode cX12_remembers 27 = .ok (.iload_n 1, 1) := by decide +kernel
theorem dX12_remembers_28 : decode cX12_remembers 28 = .ok (.bipush 25, 2) := by decide +kernel
theorem dX12_remembers_30 : decode cX12_remembers 30 = .ok (.iadd, 1) := by decide +kernel
theorem dX12_remembers_31 : decode cX12_remembers 31 = .ok (.iaload, 1) := by decide +kernel
theorem dX12_remembers_32 : decode cX12_remembers 32 = .ok (.iastore, 1) := by decide +kernel
theorem dX12_remembers_33 : decode cX12_remembers 33 = .ok (.iinc 1 1, 3) := by decide +kernel
theorem dX12_remembers_36 : decode cX12_remembers 36 = .ok (.goto (-25), 3) := by decide +kernel
theorem dX12_remembers_39 : decode cX12_remembers 39 = .ok (.aload_n 0, 1) := by decide +kernel
theorem dX12_remembers_40 : decode cX12_remembers 40 = .ok (.dup, 1) := by decide +kernel
theorem dX12_remembers_41 : decode cX12_remembers 41 = .ok (.getfield 150, 3) := by decide +kernel
theorem dX12_remembers_44 : decode cX12_remembers 44 = .ok (.iconst 1, 1) := by decide +kernel
theorem dX12_remembers_45 : decode cX12_remembers 45 = .ok (.isub, 1) := by decide +kernel
theorem dX12_remembers_46 : decode cX12_remembers 46 = .ok (.putfield 150, 3) := by decide +kernel
theorem dX12_remembers_49 : decode cX12_remembers 49 = .ok (.iconst 0, 1) := by decide +kernel
theorem dX12_remembers_50 : decode cX12_remembers 50 = .ok (.istore_n 1, 1) := by decide +kernel
theorem dX12_remembers_51 : decode cX12_remembers 51 = .ok (.iload_n 1, 1) := by decide +kernel
theorem dX12_remembers_52 : decode cX12_remembers 52 = .ok (.bipush 25, 2) := by decide +kernel
theorem dX12_remembers_54 : decode cX12_remembers 54 = .ok (.if_icmp .ge 29, 3) := by decide +kernel
theorem dX12_remembers_57 : decode cX12_remembers 57 = .ok (.aload_n 0, 1) := by decide +kernel
theorem dX12_remembers_58 : decode cX12_remembers 58 = .ok (.getfield 35, 3) := by decide +kernel
theorem dX12_remembers_61 : decode cX12_remembers 61 = .ok (.bipush 25, 2) := by decide +kernel
theorem dX12_remembers_63 : decode cX12_remembers 63 = .ok (.aload_n 0, 1) := by decide +kernel
theorem dX12_remembers_64 : decode cX12_remembers 64 = .ok (.getfield 150, 3) := by decide +kernel
theorem dX12_remembers_67 : decode cX12_remembers 67 = .ok (.imul, 1) := by decide +kernel
theorem dX12_remembers_68 : decode cX12_remembers 68 = .ok (.iload_n 1, 1) := by decide +kernel
theorem dX12_remembers_69 : decode cX12_remembers 69 = .ok (.iadd, 1) := by decide +kernel
theorem dX12_remembers_70 : decode cX12_remembers 70 = .ok (.aload_n 0, 1) := by decide +kernel
theorem dX12_remembers_71 : decode cX12_remembers 71 = .ok (.getfield 32, 3) := by decide +kernel
theorem dX12_remembers_74 : decode cX12_remembers 74 = .ok (.iload_n 1, 1) := by decide +kernel
theorem dX12_remembers_75 : decode cX12_remembers 75 = .ok (.iaload, 1) := by decide +kernel
theorem dX12_remembers_76 : decode cX12_remembers 76 = .ok (.iastore, 1) := by decide +kernel
theorem dX12_remembers_77 : decode cX12_remembers 77 = .ok (.iinc 1 1, 3) := by decide +kernel
theorem dX12_remembers_80 : decode cX12_remembers 80 = .ok (.goto (-29), 3) := by decide +kernel
theorem dX12_remembers_83 : decode cX12_remembers 83 = .ok (.aload_n 0, 1) := by decide +kernel
theorem dX12_remembers_84 : decode cX12_remembers 84 = .ok (.dup, 1) := by decide +kernel
theorem dX12_remembers_85 : decode cX12_remembers 85 = .ok (.getfield 150, 3) := by decide +kernel
theorem dX12_remembers_88 : decode cX12_remembers 88 = .ok (.iconst 1, 1) := by decide +kernel
theorem dX12_remembers_89 : decode cX12_remembers 89 = .ok (.iadd, 1) := by decide +kernel
theorem dX12_remembers_90 : decode cX12_remembers 90 = .ok (.putfield 150, 3) := by decide +kernel
theorem dX12_remembers_93 : decode cX12_remembers 93 = .ok (.return_, 1) := by decide +kernel
theorem dX12_turn_0 : decode cX12_turn 0 = .ok (.iload_n 1, 1) := by decide +kernel
theorem dX12_turn_1 : decode cX12_turn 1 = .ok (.invokestatic 206, 3) := by decide +kernel
theorem dX12_turn_4 : decode cX12_turn 4 = .ok (.ifCond .eq 21, 3) := by decide +kernel
theorem dX12_turn_7 : decode cX12_turn 7 = .ok (.aload_n 0, 1) := by decide +kernel
theorem dX12_turn_8 : decode cX12_turn 8 = .ok (.iload_n 2, 1) := by decide +kernel
theorem dX12_turn_9 : decode cX12_turn 9 = .ok (.invokevirtual 159, 3) := by decide +kernel
theorem dX12_turn_12 : decode cX12_turn 12 = .ok (.ifCond .eq 13, 3) := by decide +kernel
theorem dX12_turn_15 : decode cX12_turn 15 = .ok (.iload_n 3, 1) := by decide +kernel
theorem dX12_turn_16 : decode cX12_turn 16 = .ok (.iconst 0, 1) := by decide +kernel
theorem dX12_turn_17 : decode cX12_turn 17 = .ok (.bipush 40, 2) := by decide +kernel
theorem dX12_turn_19 : decode cX12_turn 19 = .ok (.invokestatic 87, 3) := by decide +kernel
theorem dX12_turn_22 : decode cX12_turn 22 = .ok (.ifCond .ne 5, 3) := by decide +kernel
theorem dX12_turn_25 : decode cX12_turn 25 = .ok (.iconst (-1), 1) := by decide +kernel
theorem dX12_turn_26 : decode cX12_turn 26 = .ok (.ireturn, 1) := by decide +kernel
theorem dX12_turn_27 : decode cX12_turn 27 = .ok (.aload_n 0, 1) := by decide +kernel
theorem dX12_turn_28 : decode cX12_turn 28 = .ok (.getfield 32, 3) := by decide +kernel
theorem dX12_turn_31 : decode cX12_turn 31 = .ok (.iconst 0, 1) := by decide +kernel
theorem dX12_turn_32 : decode cX12_turn 32 = .ok (.iaload, 1) := by decide +kernel
theorem dX12_turn_33 : decode cX12_turn 33 = .ok (.bipush 8, 2) := by decide +kernel
theorem dX12_turn_35 : decode cX12_turn 35 = .ok (.if_icmp .ne 6, 3) := by decide +kernel
theorem dX12_turn_38 : decode cX12_turn 38 = .ok (.bipush (-3), 2) := by decide +kernel
theorem dX12_turn_40 : decode cX12_turn 40 = .ok (.ireturn, 1) := by decide +kernel
theorem dX12_turn_41 : decode cX12_turn 41 = .ok (.aload_n 0, 1) := by decide +kernel
theorem dX12_turn_42 : decode cX12_turn 42 = .ok (.invokevirtual 215, 3) := by decide +kernel
theorem dX12_turn_45 : decode cX12_turn 45 = .ok (.aload_n 0, 1) := by decide +kernel
theorem dX12_turn_46 : decode cX12_turn 46 = .ok (.getfield 32, 3) := by decide +kernel
theorem dX12_turn_49 : decode cX12_turn 49 = .ok (.iconst 1, 1) := by decide +kernel
theorem dX12_turn_50 : decode cX12_turn 50 = .ok (.iconst 3, 1) := by decide +kernel
theorem dX12_turn_51 : decode cX12_turn 51 = .ok (.aload_n 0, 1) := by decide +kernel
theorem dX12_turn_52 : decode cX12_turn 52 = .ok (.getfield 32, 3) := by decide +kernel
theorem dX12_turn_55 : decode cX12_turn 55 = .ok (.iconst 0, 1) := by decide +kernel
theorem dX12_turn_56 : decode cX12_turn 56 = .ok (.iaload, 1) := by decide +kernel
theorem dX12_turn_57 : decode cX12_turn 57 = .ok (.imul, 1) := by decide +kernel
theorem dX12_turn_58 : decode cX12_turn 58 = .ok (.iadd, 1) := by decide +kernel
theorem dX12_turn_59 : decode cX12_turn 59 = .ok (.iload_n 1, 1) := by decide +kernel
theorem dX12_turn_60 : decode cX12_turn 60 = .ok (.iload_n 2, 1) := by decide +kernel
theorem dX12_turn_61 : decode cX12_turn 61 = .ok (.iload_n 3, 1) := by decide +kernel
theorem dX12_turn_62 : decode cX12_turn 62 = .ok (.bipush 20, 2) := by decide +kernel
theorem dX12_turn_64 : decode cX12_turn 64 = .ok (.isub, 1) := by decide +kernel
theorem dX12_turn_65 : decode cX12_turn 65 = .ok (.invokestatic 80, 3) := by decide +kernel
theorem dX12_turn_68 : decode cX12_turn 68 = .ok (.aload_n 0, 1) := by decide +kernel
theorem dX12_turn_69 : decode cX12_turn 69 = .ok (.getfield 32, 3) := by decide +kernel
theorem dX12_turn_72 : decode cX12_turn 72 = .ok (.iconst 0, 1) := by decide +kernel
theorem dX12_turn_73 : decode cX12_turn 73 = .ok (.dup2, 1) := by decide +kernel
theorem dX12_turn_74 : decode cX12_turn 74 = .ok (.iaload, 1) := by decide +kernel
theorem dX12_turn_75 : decode cX12_turn 75 = .ok (.iconst 1, 1) := by decide +kernel
theorem dX12_turn_76 : decode cX12_turn 76 = .ok (.iadd, 1) := by decide +kernel
theorem dX12_turn_77 : decode cX12_turn 77 = .ok (.iastore, 1) := by decide +kernel
theorem dX12_turn_78 : decode cX12_turn 78 = .ok (.aload_n 0, 1) := by decide +kernel
theorem dX12_turn_79 : decode cX12_turn 79 = .ok (.getfield 32, 3) := by decide +kernel
theorem dX12_turn_82 : decode cX12_turn 82 = .ok (.iconst 0, 1) := by decide +kernel
theorem dX12_turn_83 : decode cX12_turn 83 = .ok (.iaload, 1) := by decide +kernel
theorem dX12_turn_84 : decode cX12_turn 84 = .ok (.ireturn, 1) := by decide +kernel
theorem dX12_leave_0 : decode cX12_leave 0 = .ok (.iload_n 1, 1) := by decide +kernel
theorem dX12_leave_1 : decode cX12_leave 1 = .ok (.iconst 0, 1) := by decide +kernel
theorem dX12_leave_2 : decode cX12_leave 2 = .ok (.aload_n 0, 1) := by decide +kernel
theorem dX12_leave_3 : decode cX12_leave 3 = .ok (.getfield 32, 3) := by decide +kernel
theorem dX12_leave_6 : decode cX12_leave 6 = .ok (.iconst 0, 1) := by decide +kernel
theorem dX12_leave_7 : decode cX12_leave 7 = .ok (.iaload, 1) := by decide +kernel
theorem dX12_leave_8 : decode cX12_leave 8 = .ok (.iconst 1, 1) := by decide +kernel
theorem dX12_leave_9 : decode cX12_leave 9 = .ok (.isub, 1) := by decide +kernel
theorem dX12_leave_10 : decode cX12_leave 10 = .ok (.invokestatic 87, 3) := by decide +kernel
theorem dX12_leave_13 : decode cX12_leave 13 = .ok (.ifCond .ne 5, 3) := by decide +kernel
theorem dX12_leave_16 : decode cX12_leave 16 = .ok (.iconst (-1), 1) := by decide +kernel
theorem dX12_leave_17 : decode cX12_leave 17 = .ok (.ireturn, 1) := by decide +kernel
theorem dX12_leave_18 : decode cX12_leave 18 = .ok (.aload_n 0, 1) := by decide +kernel
theorem dX12_leave_19 : decode cX12_leave 19 = .ok (.invokevirtual 215, 3) := by decide +kernel
theorem dX12_leave_22 : decode cX12_leave 22 = .ok (.iconst 1, 1) := by decide +kernel
theorem dX12_leave_23 : decode cX12_leave 23 = .ok (.iconst 3, 1) := by decide +kernel
theorem dX12_leave_24 : decode cX12_leave 24 = .ok (.iload_n 1, 1) := by decide +kernel
theorem dX12_leave_25 : decode cX12_leave 25 = .ok (.imul, 1) := by decide +kernel
theorem dX12_leave_26 : decode cX12_leave 26 = .ok (.iadd, 1) := by decide +kernel
theorem dX12_leave_27 : decode cX12_leave 27 = .ok (.istore_n 2, 1) := by decide +kernel
theorem dX12_leave_28 : decode cX12_leave 28 = .ok (.iload_n 2, 1) := by decide +kernel
theorem dX12_leave_29 : decode cX12_leave 29 = .ok (.bipush 22, 2) := by decide +kernel
theorem dX12_leave_31 : decode cX12_leave 31 = .ok (.if_icmp .ge 23, 3) := by decide +kernel
theorem dX12_leave_34 : decode cX12_leave 34 = .ok (.aload_n 0, 1) := by decide +kernel
theorem dX12_leave_35 : decode cX12_leave 35 = .ok (.getfield 32, 3) := by decide +kernel
theorem dX12_leave_38 : decode cX12_leave 38 = .ok (.iload_n 2, 1) := by decide +kernel
theorem dX12_leave_39 : decode cX12_leave 39 = .ok (.aload_n 0, 1) := by decide +kernel
theorem dX12_leave_40 : decode cX12_leave 40 = .ok (.getfield 32, 3) := by decide +kernel
theorem dX12_leave_43 : decode cX12_leave 43 = .ok (.iload_n 2, 1) := by decide +kernel
theorem dX12_leave_44 : decode cX12_leave 44 = .ok (.iconst 3, 1) := by decide +kernel
theorem dX12_leave_45 : decode cX12_leave 45 = .ok (.iadd, 1) := by decide +kernel
theorem dX12_leave_46 : decode cX12_leave 46 = .ok (.iaload, 1) := by decide +kernel
theorem dX12_leave_47 : decode cX12_leave 47 = .ok (.iastore, 1) := by decide +kernel
theorem dX12_leave_48 : decode cX12_leave 48 = .ok (.iinc 2 1, 3) := by decide +kernel
theorem dX12_leave_51 : decode cX12_leave 51 = .ok (.goto (-23), 3) := by decide +kernel
theorem dX12_leave_54 : decode cX12_leave 54 = .ok (.aload_n 0, 1) := by decide +kernel
theorem dX12_leave_55 : decode cX12_leave 55 = .ok (.getfield 32, 3) := by decide +kernel
theorem dX12_leave_58 : decode cX12_leave 58 = .ok (.iconst 0, 1) := by decide +kernel
theorem dX12_leave_59 : decode cX12_leave 59 = .ok (.dup2, 1) := by decide +kernel
theorem dX12_leave_60 : decode cX12_leave 60 = .ok (.iaload, 1) := by decide +kernel
theorem dX12_leave_61 : decode cX12_leave 61 = .ok (.iconst 1, 1) := by decide +kernel
theorem dX12_leave_62 : decode cX12_leave 62 = .ok (.isub, 1) := by decide +kernel
theorem dX12_leave_63 : decode cX12_leave 63 = .ok (.iastore, 1) := by decide +kernel
theorem dX12_leave_64 : decode cX12_leave 64 = .ok (.aload_n 0, 1) := by decide +kernel
theorem dX12_leave_65 : decode cX12_leave 65 = .ok (.getfield 32, 3) := by decide +kernel
theorem dX12_leave_68 : decode cX12_leave 68 = .ok (.iconst 0, 1) := by decide +kernel
theorem dX12_leave_69 : decode cX12_leave 69 = .ok (.iaload, 1) := by decide +kernel
theorem dX12_leave_70 : decode cX12_leave 70 = .ok (.ireturn, 1) := by decide +kernel
theorem dX12_undo_0 : decode cX12_undo 0 = .ok (.aload_n 0, 1) := by decide +kernel
theorem dX12_undo_1 : decode cX12_undo 1 = .ok (.getfield 150, 3) := by decide +kernel
theorem dX12_undo_4 : decode cX12_undo 4 = .ok (.ifCond .ne 6, 3) := by decide +kernel
theorem dX12_undo_7 : decode cX12_undo 7 = .ok (.bipush (-2), 2) := by decide +kernel
theorem dX12_undo_9 : decode cX12_undo 9 = .ok (.ireturn, 1) := by decide +kernel
theorem dX12_undo_10 : decode cX12_undo 10 = .ok (.aload_n 0, 1) := by decide +kernel
theorem dX12_undo_11 : decode cX12_undo 11 = .ok (.dup, 1) := by decide +kernel
theorem dX12_undo_12 : decode cX12_undo 12 = .ok (.getfield 150, 3) := by decide +kernel
theorem dX12_undo_15 : decode cX12_undo 15 = .ok (.iconst 1, 1) := by decide +kernel
theorem dX12_undo_16 : decode cX12_undo 16 = .ok (.isub, 1) := by decide +kernel
theorem dX12_undo_17 : decode cX12_undo 17 = .ok (.putfield 150, 3) := by decide +kernel
theorem dX12_undo_20 : decode cX12_undo 20 = .ok (.iconst 0, 1) := by decide +kernel
theorem dX12_undo_21 : decode cX12_undo 21 = .ok (.istore_n 1, 1) := by decide +kernel
theorem dX12_undo_22 : decode cX12_undo 22 = .ok (.iload_n 1, 1) := by decide +kernel
theorem dX12_undo_23 : decode cX12_undo 23 = .ok (.bipush 25, 2) := by decide +kernel
theorem dX12_undo_25 : decode cX12_undo 25 = .ok (.if_icmp .ge 29, 3) := by decide +kernel
theorem dX12_undo_28 : decode cX12_undo 28 = .ok (.aload_n 0, 1) := by decide +kernel
theorem dX12_undo_29 : decode cX12_undo 29 = .ok (.getfield 32, 3) := by decide +kernel
theorem dX12_undo_32 : decode cX12_undo 32 = .ok (.iload_n 1, 1) := by decide +kernel
theorem dX12_undo_33 : decode cX12_undo 33 = .ok (.aload_n 0, 1) := by decide +kernel
theorem dX12_undo_34 : decode cX12_undo 34 = .ok (.getfield 35, 3) := by decide +kernel
theorem dX12_undo_37 : decode cX12_undo 37 = .ok (.bipush 25, 2) := by decide +kernel
theorem dX12_undo_39 : decode cX12_undo 39 = .ok (.aload_n 0, 1) := by decide +kernel
theorem dX12_undo_40 : decode cX12_undo 40 = .ok (.getfield 150, 3) := by decide +kernel
theorem dX12_undo_43 : decode cX12_undo 43 = .ok (.imul, 1) := by decide +kernel
theorem dX12_undo_44 : decode cX12_undo 44 = .ok (.iload_n 1, 1) := by decide +kernel
theorem dX12_undo_45 : decode cX12_undo 45 = .ok (.iadd, 1) := by decide +kernel
theorem dX12_undo_46 : decode cX12_undo 46 = .ok (.iaload, 1) := by decide +kernel
theorem dX12_undo_47 : decode cX12_undo 47 = .ok (.iastore, 1) := by decide +kernel
theorem dX12_undo_48 : decode cX12_undo 48 = .ok (.iinc 1 1, 3) := by decide +kernel
theorem dX12_undo_51 : decode cX12_undo 51 = .ok (.goto (-29), 3) := by decide +kernel
theorem dX12_undo_54 : decode cX12_undo 54 = .ok (.aload_n 0, 1) := by decide +kernel
theorem dX12_undo_55 : decode cX12_undo 55 = .ok (.getfield 150, 3) := by decide +kernel
theorem dX12_undo_58 : decode cX12_undo 58 = .ok (.ireturn, 1) := by decide +kernel
theorem dX12_fromDawn_0 : decode cX12_fromDawn 0 = .ok (.iconst 0, 1) := by decide +kernel
theorem dX12_fromDawn_1 : decode cX12_fromDawn 1 = .ok (.istore_n 1, 1) := by decide +kernel
theorem dX12_fromDawn_2 : decode cX12_fromDawn 2 = .ok (.iload_n 1, 1) := by decide +kernel
theorem dX12_fromDawn_3 : decode cX12_fromDawn 3 = .ok (.bipush 7, 2) := by decide +kernel
theorem dX12_fromDawn_5 : decode cX12_fromDawn 5 = .ok (.if_icmp .ge 21, 3) := by decide +kernel
theorem dX12_fromDawn_8 : decode cX12_fromDawn 8 = .ok (.aload_n 0, 1) := by decide +kernel
theorem dX12_fromDawn_9 : decode cX12_fromDawn 9 = .ok (.getfield 62, 3) := by decide +kernel
theorem dX12_fromDawn_12 : decode cX12_fromDawn 12 = .ok (.iload_n 1, 1) := by decide +kernel
theorem dX12_fromDawn_13 : decode cX12_fromDawn 13 = .ok (.aload_n 0, 1) := by decide +kernel
theorem dX12_fromDawn_14 : decode cX12_fromDawn 14 = .ok (.getfield 65, 3) := by decide +kernel
theorem dX12_fromDawn_17 : decode cX12_fromDawn 17 = .ok (.iload_n 1, 1) := by decide +kernel
theorem dX12_fromDawn_18 : decode cX12_fromDawn 18 = .ok (.iaload, 1) := by decide +kernel
theorem dX12_fromDawn_19 : decode cX12_fromDawn 19 = .ok (.iastore, 1) := by decide +kernel
theorem dX12_fromDawn_20 : decode cX12_fromDawn 20 = .ok (.iinc 1 1, 3) := by decide +kernel
theorem dX12_fromDawn_23 : decode cX12_fromDawn 23 = .ok (.goto (-21), 3) := by decide +kernel
theorem dX12_fromDawn_26 : decode cX12_fromDawn 26 = .ok (.return_, 1) := by decide +kernel
theorem dX12_tries_0 : decode cX12_tries 0 = .ok (.aload_n 0, 1) := by decide +kernel
theorem dX12_tries_1 : decode cX12_tries 1 = .ok (.invokevirtual 218, 3) := by decide +kernel
theorem dX12_tries_4 : decode cX12_tries 4 = .ok (.aload_n 0, 1) := by decide +kernel
theorem dX12_tries_5 : decode cX12_tries 5 = .ok (.iload_n 1, 1) := by decide +kernel
theorem dX12_tries_6 : decode cX12_tries 6 = .ok (.iconst 2, 1) := by decide +kernel
theorem dX12_tries_7 : decode cX12_tries 7 = .ok (.idiv, 1) := by decide +kernel
theorem dX12_tries_8 : decode cX12_tries 8 = .ok (.aload_n 0, 1) := by decide +kernel
theorem dX12_tries_9 : decode cX12_tries 9 = .ok (.getfield 7, 3) := by decide +kernel
theorem dX12_tries_12 : decode cX12_tries 12 = .ok (.irem, 1) := by decide +kernel
theorem dX12_tries_13 : decode cX12_tries 13 = .ok (.aload_n 0, 1) := by decide +kernel
theorem dX12_tries_14 : decode cX12_tries 14 = .ok (.iload_n 1, 1) := by decide +kernel
theorem dX12_tries_15 : decode cX12_tries 15 = .ok (.invokevirtual 221, 3) := by decide +kernel
theorem dX12_tries_18 : decode cX12_tries 18 = .ok (.invokevirtual 178, 3) := by decide +kernel
theorem dX12_tries_21 : decode cX12_tries 21 = .ok (.aload_n 0, 1) := by decide +kernel
theorem dX12_tries_22 : decode cX12_tries 22 = .ok (.invokevirtual 203, 3) := by decide +kernel
theorem dX12_tries_25 : decode cX12_tries 25 = .ok (.return_, 1) := by decide +kernel
theorem dX12_byOf_0 : decode cX12_byOf 0 = .ok (.iconst 1, 1) := by decide +kernel
theorem dX12_byOf_1 : decode cX12_byOf 1 = .ok (.iload_n 1, 1) := by decide +kernel
theorem dX12_byOf_2 : decode cX12_byOf 2 = .ok (.iconst 2, 1) := by decide +kernel
theorem dX12_byOf_3 : decode cX12_byOf 3 = .ok (.aload_n 0, 1) := by decide +kernel
theorem dX12_byOf_4 : decode cX12_byOf 4 = .ok (.getfield 7, 3) := by decide +kernel
theorem dX12_byOf_7 : decode cX12_byOf 7 = .ok (.imul, 1) := by decide +kernel
theorem dX12_byOf_8 : decode cX12_byOf 8 = .ok (.idiv, 1) := by decide +kernel
theorem dX12_byOf_9 : decode cX12_byOf 9 = .ok (.iadd, 1) := by decide +kernel
theorem dX12_byOf_10 : decode cX12_byOf 10 = .ok (.istore_n 2, 1) := by decide +kernel
theorem dX12_byOf_11 : decode cX12_byOf 11 = .ok (.iload_n 1, 1) := by decide +kernel
theorem dX12_byOf_12 : decode cX12_byOf 12 = .ok (.iconst 2, 1) := by decide +kernel
theorem dX12_byOf_13 : decode cX12_byOf 13 = .ok (.irem, 1) := by decide +kernel
theorem dX12_byOf_14 : decode cX12_byOf 14 = .ok (.ifCond .ne 7, 3) := by decide +kernel
theorem dX12_byOf_17 : decode cX12_byOf 17 = .ok (.iload_n 2, 1) := by decide +kernel
theorem dX12_byOf_18 : decode cX12_byOf 18 = .ok (.goto 5, 3) := by decide +kernel
theorem dX12_byOf_21 : decode cX12_byOf 21 = .ok (.iload_n 2, 1) := by decide +kernel
theorem dX12_byOf_22 : decode cX12_byOf 22 = .ok (.ineg, 1) := by decide +kernel
theorem dX12_byOf_23 : decode cX12_byOf 23 = .ok (.ireturn, 1) := by decide +kernel
theorem dX12_tempted_0 : decode cX12_tempted 0 = .ok (.iconst 0, 1) := by decide +kernel
theorem dX12_tempted_1 : decode cX12_tempted 1 = .ok (.istore_n 2, 1) := by decide +kernel
theorem dX12_tempted_2 : decode cX12_tempted 2 = .ok (.iload_n 2, 1) := by decide +kernel
theorem dX12_tempted_3 : decode cX12_tempted 3 = .ok (.bipush 40, 2) := by decide +kernel
theorem dX12_tempted_5 : decode cX12_tempted 5 = .ok (.aload_n 0, 1) := by decide +kernel
theorem dX12_tempted_6 : decode cX12_tempted 6 = .ok (.getfield 7, 3) := by decide +kernel
theorem dX12_tempted_9 : decode cX12_tempted 9 = .ok (.imul, 1) := by decide +kernel
theorem dX12_tempted_10 : decode cX12_tempted 10 = .ok (.if_icmp .ge 46, 3) := by decide +kernel
theorem dX12_tempted_13 : decode cX12_tempted 13 = .ok (.aload_n 0, 1) := by decide +kernel
theorem dX12_tempted_14 : decode cX12_tempted 14 = .ok (.iload_n 2, 1) := by decide +kernel
theorem dX12_tempted_15 : decode cX12_tempted 15 = .ok (.invokevirtual 224, 3) := by decide +kernel
theorem dX12_tempted_18 : decode cX12_tempted 18 = .ok (.aload_n 0, 1) := by decide +kernel
theorem dX12_tempted_19 : decode cX12_tempted 19 = .ok (.getfield 182, 3) := by decide +kernel
theorem dX12_tempted_22 : decode cX12_tempted 22 = .ok (.iload_n 1, 1) := by decide +kernel
theorem dX12_tempted_23 : decode cX12_tempted 23 = .ok (.invokestatic 185, 3) := by decide +kernel
theorem dX12_tempted_26 : decode cX12_tempted 26 = .ok (.ifCond .eq 24, 3) := by decide +kernel
theorem dX12_tempted_29 : decode cX12_tempted 29 = .ok (.bipush 100, 2) := by decide +kernel
theorem dX12_tempted_31 : decode cX12_tempted 31 = .ok (.iload_n 2, 1) := by decide +kernel
theorem dX12_tempted_32 : decode cX12_tempted 32 = .ok (.iconst 2, 1) := by decide +kernel
theorem dX12_tempted_33 : decode cX12_tempted 33 = .ok (.idiv, 1) := by decide +kernel
theorem dX12_tempted_34 : decode cX12_tempted 34 = .ok (.aload_n 0, 1) := by decide +kernel
theorem dX12_tempted_35 : decode cX12_tempted 35 = .ok (.getfield 7, 3) := by decide +kernel
theorem dX12_tempted_38 : decode cX12_tempted 38 = .ok (.irem, 1) := by decide +kernel
theorem dX12_tempted_39 : decode cX12_tempted 39 = .ok (.imul, 1) := by decide +kernel
theorem dX12_tempted_40 : decode cX12_tempted 40 = .ok (.aload_n 0, 1) := by decide +kernel
theorem dX12_tempted_41 : decode cX12_tempted 41 = .ok (.iload_n 2, 1) := by decide +kernel
theorem dX12_tempted_42 : decode cX12_tempted 42 = .ok (.invokevirtual 221, 3) := by decide +kernel
theorem dX12_tempted_45 : decode cX12_tempted 45 = .ok (.iadd, 1) := by decide +kernel
theorem dX12_tempted_46 : decode cX12_tempted 46 = .ok (.bipush 20, 2) := by decide +kernel
theorem dX12_tempted_48 : decode cX12_tempted 48 = .ok (.iadd, 1) := by decide +kernel
theorem dX12_tempted_49 : decode cX12_tempted 49 = .ok (.ireturn, 1) := by decide +kernel
theorem dX12_tempted_50 : decode cX12_tempted 50 = .ok (.iinc 2 1, 3) := by decide +kernel
theorem dX12_tempted_53 : decode cX12_tempted 53 = .ok (.goto (-51), 3) := by decide +kernel
theorem dX12_tempted_56 : decode cX12_tempted 56 = .ok (.bipush (-4), 2) := by decide +kernel
theorem dX12_tempted_58 : decode cX12_tempted 58 = .ok (.ireturn, 1) := by decide +kernel
theorem dX12_tempt_0 : decode cX12_tempt 0 = .ok (.aload_n 0, 1) := by decide +kernel
theorem dX12_tempt_1 : decode cX12_tempt 1 = .ok (.iload_n 1, 1) := by decide +kernel
theorem dX12_tempt_2 : decode cX12_tempt 2 = .ok (.invokevirtual 162, 3) := by decide +kernel
theorem dX12_tempt_5 : decode cX12_tempt 5 = .ok (.ifCond .eq 10, 3) := by decide +kernel
theorem dX12_tempt_8 : decode cX12_tempt 8 = .ok (.iload_n 2, 1) := by decide +kernel
theorem dX12_tempt_9 : decode cX12_tempt 9 = .ok (.invokestatic 206, 3) := by decide +kernel
theorem dX12_tempt_12 : decode cX12_tempt 12 = .ok (.ifCond .ne 5, 3) := by decide +kernel
theorem dX12_tempt_15 : decode cX12_tempt 15 = .ok (.iconst (-1), 1) := by decide +kernel
theorem dX12_tempt_16 : decode cX12_tempt 16 = .ok (.ireturn, 1) := by decide +kernel
theorem dX12_tempt_17 : decode cX12_tempt 17 = .ok (.aload_n 0, 1) := by decide +kernel
theorem dX12_tempt_18 : decode cX12_tempt 18 = .ok (.iload_n 2, 1) := by decide +kernel
theorem dX12_tempt_19 : decode cX12_tempt 19 = .ok (.invokevirtual 209, 3) := by decide +kernel
theorem dX12_tempt_22 : decode cX12_tempt 22 = .ok (.aload_n 0, 1) := by decide +kernel
theorem dX12_tempt_23 : decode cX12_tempt 23 = .ok (.iload_n 1, 1) := by decide +kernel
theorem dX12_tempt_24 : decode cX12_tempt 24 = .ok (.invokevirtual 227, 3) := by decide +kernel
theorem dX12_tempt_27 : decode cX12_tempt 27 = .ok (.ireturn, 1) := by decide +kernel
theorem dX12_fewest_0 : decode cX12_fewest 0 = .ok (.iload_n 1, 1) := by decide +kernel
theorem dX12_fewest_1 : decode cX12_fewest 1 = .ok (.iconst 0, 1) := by decide +kernel
theorem dX12_fewest_2 : decode cX12_fewest 2 = .ok (.iconst 1, 1) := by decide +kernel
theorem dX12_fewest_3 : decode cX12_fewest 3 = .ok (.aload_n 0, 1) := by decide +kernel
theorem dX12_fewest_4 : decode cX12_fewest 4 = .ok (.getfield 17, 3) := by decide +kernel
theorem dX12_fewest_7 : decode cX12_fewest 7 = .ok (.ishl, 1) := by decide +kernel
theorem dX12_fewest_8 : decode cX12_fewest 8 = .ok (.iconst 1, 1) := by decide +kernel
theorem dX12_fewest_9 : decode cX12_fewest 9 = .ok (.isub, 1) := by decide +kernel
theorem dX12_fewest_10 : decode cX12_fewest 10 = .ok (.invokestatic 87, 3) := by decide +kernel
theorem dX12_fewest_13 : decode cX12_fewest 13 = .ok (.ifCond .eq 10, 3) := by decide +kernel
theorem dX12_fewest_16 : decode cX12_fewest 16 = .ok (.iload_n 2, 1) := by decide +kernel
theorem dX12_fewest_17 : decode cX12_fewest 17 = .ok (.invokestatic 206, 3) := by decide +kernel
theorem dX12_fewest_20 : decode cX12_fewest 20 = .ok (.ifCond .ne 5, 3) := by decide +kernel
theorem dX12_fewest_23 : decode cX12_fewest 23 = .ok (.iconst (-1), 1) := by decide +kernel
theorem dX12_fewest_24 : decode cX12_fewest 24 = .ok (.ireturn, 1) := by decide +kernel
theorem dX12_fewest_25 : decode cX12_fewest 25 = .ok (.aload_n 0, 1) := by decide +kernel
theorem dX12_fewest_26 : decode cX12_fewest 26 = .ok (.iload_n 2, 1) := by decide +kernel
theorem dX12_fewest_27 : decode cX12_fewest 27 = .ok (.invokevirtual 209, 3) := by decide +kernel
theorem dX12_fewest_30 : decode cX12_fewest 30 = .ok (.iload_n 1, 1) := by decide +kernel
theorem dX12_fewest_31 : decode cX12_fewest 31 = .ok (.aload_n 0, 1) := by decide +kernel
theorem dX12_fewest_32 : decode cX12_fewest 32 = .ok (.getfield 182, 3) := by decide +kernel
theorem dX12_fewest_35 : decode cX12_fewest 35 = .ok (.iconst (-1), 1) := by decide +kernel
theorem dX12_fewest_36 : decode cX12_fewest 36 = .ok (.ixor, 1) := by decide +kernel
theorem dX12_fewest_37 : decode cX12_fewest 37 = .ok (.iand, 1) := by decide +kernel
theorem dX12_fewest_38 : decode cX12_fewest 38 = .ok (.ifCond .ne 5, 3) := by decide +kernel
theorem dX12_fewest_41 : decode cX12_fewest 41 = .ok (.iconst 0, 1) := by decide +kernel
theorem dX12_fewest_42 : decode cX12_fewest 42 = .ok (.ireturn, 1) := by decide +kernel
theorem dX12_fewest_43 : decode cX12_fewest 43 = .ok (.bipush 40, 2) := by decide +kernel
theorem dX12_fewest_45 : decode cX12_fewest 45 = .ok (.aload_n 0, 1) := by decide +kernel
theorem dX12_fewest_46 : decode cX12_fewest 46 = .ok (.getfield 7, 3) := by decide +kernel
theorem dX12_fewest_49 : decode cX12_fewest 49 = .ok (.imul, 1) := by decide +kernel
theorem dX12_fewest_50 : decode cX12_fewest 50 = .ok (.istore_n 3, 1) := by decide +kernel
theorem dX12_fewest_51 : decode cX12_fewest 51 = .ok (.iconst 0, 1) := by decide +kernel
theorem dX12_fewest_52 : decode cX12_fewest 52 = .ok (.istore 4, 2) := by decide +kernel
theorem dX12_fewest_54 : decode cX12_fewest 54 = .ok (.iload 4, 2) := by decide +kernel
theorem dX12_fewest_56 : decode cX12_fewest 56 = .ok (.iload_n 3, 1) := by decide +kernel
theorem dX12_fewest_57 : decode cX12_fewest 57 = .ok (.if_icmp .ge 28, 3) := by decide +kernel
theorem dX12_fewest_60 : decode cX12_fewest 60 = .ok (.aload_n 0, 1) := by decide +kernel
theorem dX12_fewest_61 : decode cX12_fewest 61 = .ok (.iload 4, 2) := by decide +kernel
theorem dX12_fewest_63 : decode cX12_fewest 63 = .ok (.invokevirtual 224, 3) := by decide +kernel
theorem dX12_fewest_66 : decode cX12_fewest 66 = .ok (.iload_n 1, 1) := by decide +kernel
theorem dX12_fewest_67 : decode cX12_fewest 67 = .ok (.aload_n 0, 1) := by decide +kernel
theorem dX12_fewest_68 : decode cX12_fewest 68 = .ok (.getfield 182, 3) := by decide +kernel
theorem dX12_fewest_71 : decode cX12_fewest 71 = .ok (.iconst (-1), 1) := by decide +kernel
theorem dX12_fewest_72 : decode cX12_fewest 72 = .ok (.ixor, 1) := by decide +kernel
theorem dX12_fewest_73 : decode cX12_fewest 73 = .ok (.iand, 1) := by decide +kernel
theorem dX12_fewest_74 : decode cX12_fewest 74 = .ok (.ifCond .ne 5, 3) := by decide +kernel
theorem dX12_fewest_77 : decode cX12_fewest 77 = .ok (.iconst 1, 1) := by decide +kernel
theorem dX12_fewest_78 : decode cX12_fewest 78 = .ok (.ireturn, 1) := by decide +kernel
theorem dX12_fewest_79 : decode cX12_fewest 79 = .ok (.iinc 4 1, 3) := by decide +kernel
theorem dX12_fewest_82 : decode cX12_fewest 82 = .ok (.goto (-28), 3) := by decide +kernel
theorem dX12_fewest_85 : decode cX12_fewest 85 = .ok (.iconst 0, 1) := by decide +kernel
theorem dX12_fewest_86 : decode cX12_fewest 86 = .ok (.istore 4, 2) := by decide +kernel
theorem dX12_fewest_88 : decode cX12_fewest 88 = .ok (.iload 4, 2) := by decide +kernel
theorem dX12_fewest_90 : decode cX12_fewest 90 = .ok (.iload_n 3, 1) := by decide +kernel
theorem dX12_fewest_91 : decode cX12_fewest 91 = .ok (.iload_n 3, 1) := by decide +kernel
theorem dX12_fewest_92 : decode cX12_fewest 92 = .ok (.imul, 1) := by decide +kernel
theorem dX12_fewest_93 : decode cX12_fewest 93 = .ok (.if_icmp .ge 76, 3) := by decide +kernel
theorem dX12_fewest_96 : decode cX12_fewest 96 = .ok (.aload_n 0, 1) := by decide +kernel
theorem dX12_fewest_97 : decode cX12_fewest 97 = .ok (.invokevirtual 218, 3) := by decide +kernel
theorem dX12_fewest_100 : decode cX12_fewest 100 = .ok (.aload_n 0, 1) := by decide +kernel
theorem dX12_fewest_101 : decode cX12_fewest 101 = .ok (.iload 4, 2) := by decide +kernel
theorem dX12_fewest_103 : decode cX12_fewest 103 = .ok (.iload_n 3, 1) := by decide +kernel
theorem dX12_fewest_104 : decode cX12_fewest 104 = .ok (.idiv, 1) := by decide +kernel
theorem dX12_fewest_105 : decode cX12_fewest 105 = .ok (.iconst 2, 1) := by decide +kernel
theorem dX12_fewest_106 : decode cX12_fewest 106 = .ok (.idiv, 1) := by decide +kernel
theorem dX12_fewest_107 : decode cX12_fewest 107 = .ok (.aload_n 0, 1) := by decide +kernel
theorem dX12_fewest_108 : decode cX12_fewest 108 = .ok (.getfield 7, 3) := by decide +kernel
theorem dX12_fewest_111 : decode cX12_fewest 111 = .ok (.irem, 1) := by decide +kernel
theorem dX12_fewest_112 : decode cX12_fewest 112 = .ok (.aload_n 0, 1) := by decide +kernel
theorem dX12_fewest_113 : decode cX12_fewest 113 = .ok (.iload 4, 2) := by decide +kernel
theorem dX12_fewest_115 : decode cX12_fewest 115 = .ok (.iload_n 3, 1) := by decide +kernel
theorem dX12_fewest_116 : decode cX12_fewest 116 = .ok (.idiv, 1) := by decide +kernel
theorem dX12_fewest_117 : decode cX12_fewest 117 = .ok (.invokevirtual 221, 3) := by decide +kernel
theorem dX12_fewest_120 : decode cX12_fewest 120 = .ok (.invokevirtual 178, 3) := by decide +kernel
theorem dX12_fewest_123 : decode cX12_fewest 123 = .ok (.aload_n 0, 1) := by decide +kernel
theorem dX12_fewest_124 : decode cX12_fewest 124 = .ok (.iload 4, 2) := by decide +kernel
theorem dX12_fewest_126 : decode cX12_fewest 126 = .ok (.iload_n 3, 1) := by decide +kernel
theorem dX12_fewest_127 : decode cX12_fewest 127 = .ok (.irem, 1) := by decide +kernel
theorem dX12_fewest_128 : decode cX12_fewest 128 = .ok (.iconst 2, 1) := by decide +kernel
theorem dX12_fewest_129 : decode cX12_fewest 129 = .ok (.idiv, 1) := by decide +kernel
theorem dX12_fewest_130 : decode cX12_fewest 130 = .ok (.aload_n 0, 1) := by decide +kernel
theorem dX12_fewest_131 : decode cX12_fewest 131 = .ok (.getfield 7, 3) := by decide +kernel
theorem dX12_fewest_134 : decode cX12_fewest 134 = .ok (.irem, 1) := by decide +kernel
theorem dX12_fewest_135 : decode cX12_fewest 135 = .ok (.aload_n 0, 1) := by decide +kernel
theorem dX12_fewest_136 : decode cX12_fewest 136 = .ok (.iload 4, 2) := by decide +kernel
theorem dX12_fewest_138 : decode cX12_fewest 138 = .ok (.iload_n 3, 1) := by decide +kernel
theorem dX12_fewest_139 : decode cX12_fewest 139 = .ok (.irem, 1) := by decide +kernel
theorem dX12_fewest_140 : decode cX12_fewest 140 = .ok (.invokevirtual 221, 3) := by decide +kernel
theorem dX12_fewest_143 : decode cX12_fewest 143 = .ok (.invokevirtual 178, 3) := by decide +kernel
theorem dX12_fewest_146 : decode cX12_fewest 146 = .ok (.aload_n 0, 1) := by decide +kernel
theorem dX12_fewest_147 : decode cX12_fewest 147 = .ok (.invokevirtual 203, 3) := by decide +kernel
theorem dX12_fewest_150 : decode cX12_fewest 150 = .ok (.iload_n 1, 1) := by decide +kernel
theorem dX12_fewest_151 : decode cX12_fewest 151 = .ok (.aload_n 0, 1) := by decide +kernel
theorem dX12_fewest_152 : decode cX12_fewest 152 = .ok (.getfield 182, 3) := by decide +kernel
theorem dX12_fewest_155 : decode cX12_fewest 155 = .ok (.iconst (-1), 1) := by decide +kernel
theorem dX12_fewest_156 : decode cX12_fewest 156 = .ok (.ixor, 1) := by decide +kernel
theorem dX12_fewest_157 : decode cX12_fewest 157 = .ok (.iand, 1) := by decide +kernel
theorem dX12_fewest_158 : decode cX12_fewest 158 = .ok (.ifCond .ne 5, 3) := by decide +kernel
theorem dX12_fewest_161 : decode cX12_fewest 161 = .ok (.iconst 2, 1) := by decide +kernel
theorem dX12_fewest_162 : decode cX12_fewest 162 = .ok (.ireturn, 1) := by decide +kernel
theorem dX12_fewest_163 : decode cX12_fewest 163 = .ok (.iinc 4 1, 3) := by decide +kernel
theorem dX12_fewest_166 : decode cX12_fewest 166 = .ok (.goto (-78), 3) := by decide +kernel
theorem dX12_fewest_169 : decode cX12_fewest 169 = .ok (.bipush (-4), 2) := by decide +kernel
theorem dX12_fewest_171 : decode cX12_fewest 171 = .ok (.ireturn, 1) := by decide +kernel
theorem dX12_safe_0 : decode cX12_safe 0 = .ok (.iload_n 1, 1) := by decide +kernel
theorem dX12_safe_1 : decode cX12_safe 1 = .ok (.invokestatic 206, 3) := by decide +kernel
theorem dX12_safe_4 : decode cX12_safe 4 = .ok (.ifCond .ne 5, 3) := by decide +kernel
theorem dX12_safe_7 : decode cX12_safe 7 = .ok (.iconst (-1), 1) := by decide +kernel
theorem dX12_safe_8 : decode cX12_safe 8 = .ok (.ireturn, 1) := by decide +kernel
theorem dX12_safe_9 : decode cX12_safe 9 = .ok (.aload_n 0, 1) := by decide +kernel
theorem dX12_safe_10 : decode cX12_safe 10 = .ok (.iload_n 1, 1) := by decide +kernel
theorem dX12_safe_11 : decode cX12_safe 11 = .ok (.invokevirtual 209, 3) := by decide +kernel
theorem dX12_safe_14 : decode cX12_safe 14 = .ok (.aload_n 0, 1) := by decide +kernel
theorem dX12_safe_15 : decode cX12_safe 15 = .ok (.getfield 182, 3) := by decide +kernel
theorem dX12_safe_18 : decode cX12_safe 18 = .ok (.istore_n 2, 1) := by decide +kernel
theorem dX12_safe_19 : decode cX12_safe 19 = .ok (.iconst 0, 1) := by decide +kernel
theorem dX12_safe_20 : decode cX12_safe 20 = .ok (.istore_n 3, 1) := by decide +kernel
theorem dX12_safe_21 : decode cX12_safe 21 = .ok (.iload_n 3, 1) := by decide +kernel
theorem dX12_safe_22 : decode cX12_safe 22 = .ok (.bipush 40, 2) := by decide +kernel
theorem dX12_safe_24 : decode cX12_safe 24 = .ok (.aload_n 0, 1) := by decide +kernel
theorem dX12_safe_25 : decode cX12_safe 25 = .ok (.getfield 7, 3) := by decide +kernel
theorem dX12_safe_28 : decode cX12_safe 28 = .ok (.imul, 1) := by decide +kernel
theorem dX12_safe_29 : decode cX12_safe 29 = .ok (.if_icmp .ge 21, 3) := by decide +kernel
theorem dX12_safe_32 : decode cX12_safe 32 = .ok (.aload_n 0, 1) := by decide +kernel
theorem dX12_safe_33 : decode cX12_safe 33 = .ok (.iload_n 3, 1) := by decide +kernel
theorem dX12_safe_34 : decode cX12_safe 34 = .ok (.invokevirtual 224, 3) := by decide +kernel
theorem dX12_safe_37 : decode cX12_safe 37 = .ok (.iload_n 2, 1) := by decide +kernel
theorem dX12_safe_38 : decode cX12_safe 38 = .ok (.aload_n 0, 1) := by decide +kernel
theorem dX12_safe_39 : decode cX12_safe 39 = .ok (.getfield 182, 3) := by decide +kernel
theorem dX12_safe_42 : decode cX12_safe 42 = .ok (.ior, 1) := by decide +kernel
theorem dX12_safe_43 : decode cX12_safe 43 = .ok (.istore_n 2, 1) := by decide +kernel
theorem dX12_safe_44 : decode cX12_safe 44 = .ok (.iinc 3 1, 3) := by decide +kernel
theorem dX12_safe_47 : decode cX12_safe 47 = .ok (.goto (-26), 3) := by decide +kernel
theorem dX12_safe_50 : decode cX12_safe 50 = .ok (.iconst 1, 1) := by decide +kernel
theorem dX12_safe_51 : decode cX12_safe 51 = .ok (.aload_n 0, 1) := by decide +kernel
theorem dX12_safe_52 : decode cX12_safe 52 = .ok (.getfield 17, 3) := by decide +kernel
theorem dX12_safe_55 : decode cX12_safe 55 = .ok (.ishl, 1) := by decide +kernel
theorem dX12_safe_56 : decode cX12_safe 56 = .ok (.iconst 1, 1) := by decide +kernel
theorem dX12_safe_57 : decode cX12_safe 57 = .ok (.isub, 1) := by decide +kernel
theorem dX12_safe_58 : decode cX12_safe 58 = .ok (.iload_n 2, 1) := by decide +kernel
theorem dX12_safe_59 : decode cX12_safe 59 = .ok (.iconst (-1), 1) := by decide +kernel
theorem dX12_safe_60 : decode cX12_safe 60 = .ok (.ixor, 1) := by decide +kernel
theorem dX12_safe_61 : decode cX12_safe 61 = .ok (.iand, 1) := by decide +kernel
theorem dX12_safe_62 : decode cX12_safe 62 = .ok (.ireturn, 1) := by decide +kernel
theorem dX12_borne_0 : decode cX12_borne 0 = .ok (.bipush 100, 2) := by decide +kernel
theorem dX12_borne_2 : decode cX12_borne 2 = .ok (.istore_n 2, 1) := by decide +kernel
theorem dX12_borne_3 : decode cX12_borne 3 = .ok (.iconst 0, 1) := by decide +kernel
theorem dX12_borne_4 : decode cX12_borne 4 = .ok (.istore_n 3, 1) := by decide +kernel
theorem dX12_borne_5 : decode cX12_borne 5 = .ok (.iload_n 3, 1) := by decide +kernel
theorem dX12_borne_6 : decode cX12_borne 6 = .ok (.aload_n 0, 1) := by decide +kernel
theorem dX12_borne_7 : decode cX12_borne 7 = .ok (.getfield 23, 3) := by decide +kernel
theorem dX12_borne_10 : decode cX12_borne 10 = .ok (.if_icmp .ge 88, 3) := by decide +kernel
theorem dX12_borne_13 : decode cX12_borne 13 = .ok (.aload_n 0, 1) := by decide +kernel
theorem dX12_borne_14 : decode cX12_borne 14 = .ok (.getfield 26, 3) := by decide +kernel
theorem dX12_borne_17 : decode cX12_borne 17 = .ok (.iconst 3, 1) := by decide +kernel
theorem dX12_borne_18 : decode cX12_borne 18 = .ok (.iload_n 3, 1) := by decide +kernel
theorem dX12_borne_19 : decode cX12_borne 19 = .ok (.imul, 1) := by decide +kernel
theorem dX12_borne_20 : decode cX12_borne 20 = .ok (.iaload, 1) := by decide +kernel
theorem dX12_borne_21 : decode cX12_borne 21 = .ok (.istore 4, 2) := by decide +kernel
theorem dX12_borne_23 : decode cX12_borne 23 = .ok (.aload_n 0, 1) := by decide +kernel
theorem dX12_borne_24 : decode cX12_borne 24 = .ok (.getfield 20, 3) := by decide +kernel
theorem dX12_borne_27 : decode cX12_borne 27 = .ok (.iconst 2, 1) := by decide +kernel
theorem dX12_borne_28 : decode cX12_borne 28 = .ok (.iload 4, 2) := by decide +kernel
theorem dX12_borne_30 : decode cX12_borne 30 = .ok (.imul, 1) := by decide +kernel
theorem dX12_borne_31 : decode cX12_borne 31 = .ok (.iaload, 1) := by decide +kernel
theorem dX12_borne_32 : decode cX12_borne 32 = .ok (.iconst 3, 1) := by decide +kernel
theorem dX12_borne_33 : decode cX12_borne 33 = .ok (.if_icmp .ne 19, 3) := by decide +kernel
theorem dX12_borne_36 : decode cX12_borne 36 = .ok (.iconst 2, 1) := by decide +kernel
theorem dX12_borne_37 : decode cX12_borne 37 = .ok (.aload_n 0, 1) := by decide +kernel
theorem dX12_borne_38 : decode cX12_borne 38 = .ok (.getfield 20, 3) := by decide +kernel
theorem dX12_borne_41 : decode cX12_borne 41 = .ok (.iconst 2, 1) := by decide +kernel
theorem dX12_borne_42 : decode cX12_borne 42 = .ok (.iload 4, 2) := by decide +kernel
theorem dX12_borne_44 : decode cX12_borne 44 = .ok (.imul, 1) := by decide +kernel
theorem dX12_borne_45 : decode cX12_borne 45 = .ok (.iconst 1, 1) := by decide +kernel
theorem dX12_borne_46 : decode cX12_borne 46 = .ok (.iadd, 1) := by decide +kernel
theorem dX12_borne_47 : decode cX12_borne 47 = .ok (.iaload, 1) := by decide +kernel
theorem dX12_borne_48 : decode cX12_borne 48 = .ok (.imul, 1) := by decide +kernel
theorem dX12_borne_49 : decode cX12_borne 49 = .ok (.goto 14, 3) := by decide +kernel
theorem dX12_borne_52 : decode cX12_borne 52 = .ok (.aload_n 0, 1) := by decide +kernel
theorem dX12_borne_53 : decode cX12_borne 53 = .ok (.getfield 20, 3) := by decide +kernel
theorem dX12_borne_56 : decode cX12_borne 56 = .ok (.iconst 2, 1) := by decide +kernel
theorem dX12_borne_57 : decode cX12_borne 57 = .ok (.iload 4, 2) := by decide +kernel
theorem dX12_borne_59 : decode cX12_borne 59 = .ok (.imul, 1) := by decide +kernel
theorem dX12_borne_60 : decode cX12_borne 60 = .ok (.iconst 1, 1) := by decide +kernel
theorem dX12_borne_61 : decode cX12_borne 61 = .ok (.iadd, 1) := by decide +kernel
theorem dX12_borne_62 : decode cX12_borne 62 = .ok (.iaload, 1) := by decide +kernel
theorem dX12_borne_63 : decode cX12_borne 63 = .ok (.istore 5, 2) := by decide +kernel
theorem dX12_borne_65 : decode cX12_borne 65 = .ok (.aload_n 0, 1) := by decide +kernel
theorem dX12_borne_66 : decode cX12_borne 66 = .ok (.getfield 26, 3) := by decide +kernel
theorem dX12_borne_69 : decode cX12_borne 69 = .ok (.iconst 3, 1) := by decide +kernel
theorem dX12_borne_70 : decode cX12_borne 70 = .ok (.iload_n 3, 1) := by decide +kernel
theorem dX12_borne_71 : decode cX12_borne 71 = .ok (.imul, 1) := by decide +kernel
theorem dX12_borne_72 : decode cX12_borne 72 = .ok (.iconst 2, 1) := by decide +kernel
theorem dX12_borne_73 : decode cX12_borne 73 = .ok (.iadd, 1) := by decide +kernel
theorem dX12_borne_74 : decode cX12_borne 74 = .ok (.iaload, 1) := by decide +kernel
theorem dX12_borne_75 : decode cX12_borne 75 = .ok (.iload_n 1, 1) := by decide +kernel
theorem dX12_borne_76 : decode cX12_borne 76 = .ok (.if_icmp .ne 14, 3) := by decide +kernel
theorem dX12_borne_79 : decode cX12_borne 79 = .ok (.iload 5, 2) := by decide +kernel
theorem dX12_borne_81 : decode cX12_borne 81 = .ok (.iload_n 2, 1) := by decide +kernel
theorem dX12_borne_82 : decode cX12_borne 82 = .ok (.if_icmp .ge 8, 3) := by decide +kernel
theorem dX12_borne_85 : decode cX12_borne 85 = .ok (.iload 5, 2) := by decide +kernel
theorem dX12_borne_87 : decode cX12_borne 87 = .ok (.goto 4, 3) := by decide +kernel
theorem dX12_borne_90 : decode cX12_borne 90 = .ok (.iload_n 2, 1) := by decide +kernel
theorem dX12_borne_91 : decode cX12_borne 91 = .ok (.istore_n 2, 1) := by decide +kernel
theorem dX12_borne_92 : decode cX12_borne 92 = .ok (.iinc 3 1, 3) := by decide +kernel
theorem dX12_borne_95 : decode cX12_borne 95 = .ok (.goto (-90), 3) := by decide +kernel
theorem dX12_borne_98 : decode cX12_borne 98 = .ok (.iload_n 2, 1) := by decide +kernel
theorem dX12_borne_99 : decode cX12_borne 99 = .ok (.ireturn, 1) := by decide +kernel
theorem dX12_hang_0 : decode cX12_hang 0 = .ok (.iload_n 1, 1) := by decide +kernel
theorem dX12_hang_1 : decode cX12_hang 1 = .ok (.iconst 0, 1) := by decide +kernel
theorem dX12_hang_2 : decode cX12_hang 2 = .ok (.iconst 1, 1) := by decide +kernel
theorem dX12_hang_3 : decode cX12_hang 3 = .ok (.invokestatic 87, 3) := by decide +kernel
theorem dX12_hang_6 : decode cX12_hang 6 = .ok (.ifCond .ne 5, 3) := by decide +kernel
theorem dX12_hang_9 : decode cX12_hang 9 = .ok (.iconst (-1), 1) := by decide +kernel
theorem dX12_hang_10 : decode cX12_hang 10 = .ok (.ireturn, 1) := by decide +kernel
theorem dX12_hang_11 : decode cX12_hang 11 = .ok (.iconst 0, 1) := by decide +kernel
theorem dX12_hang_12 : decode cX12_hang 12 = .ok (.istore_n 2, 1) := by decide +kernel
theorem dX12_hang_13 : decode cX12_hang 13 = .ok (.iconst 0, 1) := by decide +kernel
theorem dX12_hang_14 : decode cX12_hang 14 = .ok (.istore_n 3, 1) := by decide +kernel
theorem dX12_hang_15 : decode cX12_hang 15 = .ok (.iconst 0, 1) := by decide +kernel
theorem dX12_hang_16 : decode cX12_hang 16 = .ok (.istore 4, 2) := by decide +kernel
theorem dX12_hang_18 : decode cX12_hang 18 = .ok (.iload 4, 2) := by decide +kernel
theorem dX12_hang_20 : decode cX12_hang 20 = .ok (.aload_n 0, 1) := by decide +kernel
theorem dX12_hang_21 : decode cX12_hang 21 = .ok (.getfield 7, 3) := by decide +kernel
theorem dX12_hang_24 : decode cX12_hang 24 = .ok (.if_icmp .ge 66, 3) := by decide +kernel
theorem dX12_hang_27 : decode cX12_hang 27 = .ok (.aload_n 0, 1) := by decide +kernel
theorem dX12_hang_28 : decode cX12_hang 28 = .ok (.getfield 13, 3) := by decide +kernel
theorem dX12_hang_31 : decode cX12_hang 31 = .ok (.iconst 4, 1) := by decide +kernel
theorem dX12_hang_32 : decode cX12_hang 32 = .ok (.iload 4, 2) := by decide +kernel
theorem dX12_hang_34 : decode cX12_hang 34 = .ok (.imul, 1) := by decide +kernel
theorem dX12_hang_35 : decode cX12_hang 35 = .ok (.iconst 1, 1) := by decide +kernel
theorem dX12_hang_36 : decode cX12_hang 36 = .ok (.iadd, 1) := by decide +kernel
theorem dX12_hang_37 : decode cX12_hang 37 = .ok (.iaload, 1) := by decide +kernel
theorem dX12_hang_38 : decode cX12_hang 38 = .ok (.invokestatic 165, 3) := by decide +kernel
theorem dX12_hang_41 : decode cX12_hang 41 = .ok (.aload_n 0, 1) := by decide +kernel
theorem dX12_hang_42 : decode cX12_hang 42 = .ok (.aload_n 0, 1) := by decide +kernel
theorem dX12_hang_43 : decode cX12_hang 43 = .ok (.getfield 13, 3) := by decide +kernel
theorem dX12_hang_46 : decode cX12_hang 46 = .ok (.iconst 4, 1) := by decide +kernel
theorem dX12_hang_47 : decode cX12_hang 47 = .ok (.iload 4, 2) := by decide +kernel
theorem dX12_hang_49 : decode cX12_hang 49 = .ok (.imul, 1) := by decide +kernel
theorem dX12_hang_50 : decode cX12_hang 50 = .ok (.iaload, 1) := by decide +kernel
theorem dX12_hang_51 : decode cX12_hang 51 = .ok (.invokevirtual 230, 3) := by decide +kernel
theorem dX12_hang_54 : decode cX12_hang 54 = .ok (.isub, 1) := by decide +kernel
theorem dX12_hang_55 : decode cX12_hang 55 = .ok (.istore 5, 2) := by decide +kernel
theorem dX12_hang_57 : decode cX12_hang 57 = .ok (.iload_n 2, 1) := by decide +kernel
theorem dX12_hang_58 : decode cX12_hang 58 = .ok (.iload 5, 2) := by decide +kernel
theorem dX12_hang_60 : decode cX12_hang 60 = .ok (.ifCond .le 8, 3) := by decide +kernel
theorem dX12_hang_63 : decode cX12_hang 63 = .ok (.iload 5, 2) := by decide +kernel
theorem dX12_hang_65 : decode cX12_hang 65 = .ok (.goto 4, 3) := by decide +kernel
theorem dX12_hang_68 : decode cX12_hang 68 = .ok (.iconst 0, 1) := by decide +kernel
theorem dX12_hang_69 : decode cX12_hang 69 = .ok (.iadd, 1) := by decide +kernel
theorem dX12_hang_70 : decode cX12_hang 70 = .ok (.istore_n 2, 1) := by decide +kernel
theorem dX12_hang_71 : decode cX12_hang 71 = .ok (.iload_n 3, 1) := by decide +kernel
theorem dX12_hang_72 : decode cX12_hang 72 = .ok (.iload 5, 2) := by decide +kernel
theorem dX12_hang_74 : decode cX12_hang 74 = .ok (.ifCond .le 7, 3) := by decide +kernel
theorem dX12_hang_77 : decode cX12_hang 77 = .ok (.iconst 1, 1) := by decide +kernel
theorem dX12_hang_78 : decode cX12_hang 78 = .ok (.goto 4, 3) := by decide +kernel
theorem dX12_hang_81 : decode cX12_hang 81 = .ok (.iconst 0, 1) := by decide +kernel
theorem dX12_hang_82 : decode cX12_hang 82 = .ok (.iadd, 1) := by decide +kernel
theorem dX12_hang_83 : decode cX12_hang 83 = .ok (.istore_n 3, 1) := by decide +kernel
theorem dX12_hang_84 : decode cX12_hang 84 = .ok (.iinc 4 1, 3) := by decide +kernel
theorem dX12_hang_87 : decode cX12_hang 87 = .ok (.goto (-69), 3) := by decide +kernel
theorem dX12_hang_90 : decode cX12_hang 90 = .ok (.iload_n 1, 1) := by decide +kernel
theorem dX12_hang_91 : decode cX12_hang 91 = .ok (.ifCond .ne 7, 3) := by decide +kernel
theorem dX12_hang_94 : decode cX12_hang 94 = .ok (.iload_n 2, 1) := by decide +kernel
theorem dX12_hang_95 : decode cX12_hang 95 = .ok (.goto 4, 3) := by decide +kernel
theorem dX12_hang_98 : decode cX12_hang 98 = .ok (.iload_n 3, 1) := by decide +kernel
theorem dX12_hang_99 : decode cX12_hang 99 = .ok (.ireturn, 1) := by decide +kernel
theorem dX12_seen_0 : decode cX12_seen 0 = .ok (.iload_n 1, 1) := by decide +kernel
theorem dX12_seen_1 : decode cX12_seen 1 = .ok (.iconst 0, 1) := by decide +kernel
theorem dX12_seen_2 : decode cX12_seen 2 = .ok (.bipush 40, 2) := by decide +kernel
theorem dX12_seen_4 : decode cX12_seen 4 = .ok (.invokestatic 87, 3) := by decide +kernel
theorem dX12_seen_7 : decode cX12_seen 7 = .ok (.ifCond .eq 13, 3) := by decide +kernel
theorem dX12_seen_10 : decode cX12_seen 10 = .ok (.iload_n 2, 1) := by decide +kernel
theorem dX12_seen_11 : decode cX12_seen 11 = .ok (.iconst 0, 1) := by decide +kernel
theorem dX12_seen_12 : decode cX12_seen 12 = .ok (.bipush 40, 2) := by decide +kernel
theorem dX12_seen_14 : decode cX12_seen 14 = .ok (.invokestatic 87, 3) := by decide +kernel
theorem dX12_seen_17 : decode cX12_seen 17 = .ok (.ifCond .ne 5, 3) := by decide +kernel
theorem dX12_seen_20 : decode cX12_seen 20 = .ok (.iconst (-1), 1) := by decide +kernel
theorem dX12_seen_21 : decode cX12_seen 21 = .ok (.ireturn, 1) := by decide +kernel
theorem dX12_seen_22 : decode cX12_seen 22 = .ok (.aload_n 0, 1) := by decide +kernel
theorem dX12_seen_23 : decode cX12_seen 23 = .ok (.getfield 156, 3) := by decide +kernel
theorem dX12_seen_26 : decode cX12_seen 26 = .ok (.bipush 8, 2) := by decide +kernel
theorem dX12_seen_28 : decode cX12_seen 28 = .ok (.if_icmp .ne 6, 3) := by decide +kernel
theorem dX12_seen_31 : decode cX12_seen 31 = .ok (.bipush (-3), 2) := by decide +kernel
theorem dX12_seen_33 : decode cX12_seen 33 = .ok (.ireturn, 1) := by decide +kernel
theorem dX12_seen_34 : decode cX12_seen 34 = .ok (.aload_n 0, 1) := by decide +kernel
theorem dX12_seen_35 : decode cX12_seen 35 = .ok (.getfield 41, 3) := by decide +kernel
theorem dX12_seen_38 : decode cX12_seen 38 = .ok (.iconst 2, 1) := by decide +kernel
theorem dX12_seen_39 : decode cX12_seen 39 = .ok (.aload_n 0, 1) := by decide +kernel
theorem dX12_seen_40 : decode cX12_seen 40 = .ok (.getfield 156, 3) := by decide +kernel
theorem dX12_seen_43 : decode cX12_seen 43 = .ok (.imul, 1) := by decide +kernel
theorem dX12_seen_44 : decode cX12_seen 44 = .ok (.iload_n 1, 1) := by decide +kernel
theorem dX12_seen_45 : decode cX12_seen 45 = .ok (.bipush 20, 2) := by decide +kernel
theorem dX12_seen_47 : decode cX12_seen 47 = .ok (.isub, 1) := by decide +kernel
theorem dX12_seen_48 : decode cX12_seen 48 = .ok (.iastore, 1) := by decide +kernel
theorem dX12_seen_49 : decode cX12_seen 49 = .ok (.aload_n 0, 1) := by decide +kernel
theorem dX12_seen_50 : decode cX12_seen 50 = .ok (.getfield 41, 3) := by decide +kernel
theorem dX12_seen_53 : decode cX12_seen 53 = .ok (.iconst 2, 1) := by decide +kernel
theorem dX12_seen_54 : decode cX12_seen 54 = .ok (.aload_n 0, 1) := by decide +kernel
theorem dX12_seen_55 : decode cX12_seen 55 = .ok (.getfield 156, 3) := by decide +kernel
theorem dX12_seen_58 : decode cX12_seen 58 = .ok (.imul, 1) := by decide +kernel
theorem dX12_seen_59 : decode cX12_seen 59 = .ok (.iconst 1, 1) := by decide +kernel
theorem dX12_seen_60 : decode cX12_seen 60 = .ok (.iadd, 1) := by decide +kernel
theorem dX12_seen_61 : decode cX12_seen 61 = .ok (.iload_n 2, 1) := by decide +kernel
theorem dX12_seen_62 : decode cX12_seen 62 = .ok (.bipush 20, 2) := by decide +kernel
theorem dX12_seen_64 : decode cX12_seen 64 = .ok (.isub, 1) := by decide +kernel
theorem dX12_seen_65 : decode cX12_seen 65 = .ok (.iastore, 1) := by decide +kernel
theorem dX12_seen_66 : decode cX12_seen 66 = .ok (.aload_n 0, 1) := by decide +kernel
theorem dX12_seen_67 : decode cX12_seen 67 = .ok (.dup, 1) := by decide +kernel
theorem dX12_seen_68 : decode cX12_seen 68 = .ok (.getfield 156, 3) := by decide +kernel
theorem dX12_seen_71 : decode cX12_seen 71 = .ok (.iconst 1, 1) := by decide +kernel
theorem dX12_seen_72 : decode cX12_seen 72 = .ok (.iadd, 1) := by decide +kernel
theorem dX12_seen_73 : decode cX12_seen 73 = .ok (.putfield 156, 3) := by decide +kernel
theorem dX12_seen_76 : decode cX12_seen 76 = .ok (.aload_n 0, 1) := by decide +kernel
theorem dX12_seen_77 : decode cX12_seen 77 = .ok (.getfield 156, 3) := by decide +kernel
theorem dX12_seen_80 : decode cX12_seen 80 = .ok (.ireturn, 1) := by decide +kernel
theorem dX12_forget_0 : decode cX12_forget 0 = .ok (.aload_n 0, 1) := by decide +kernel
theorem dX12_forget_1 : decode cX12_forget 1 = .ok (.getfield 156, 3) := by decide +kernel
theorem dX12_forget_4 : decode cX12_forget 4 = .ok (.istore_n 1, 1) := by decide +kernel
theorem dX12_forget_5 : decode cX12_forget 5 = .ok (.aload_n 0, 1) := by decide +kernel
theorem dX12_forget_6 : decode cX12_forget 6 = .ok (.iconst 0, 1) := by decide +kernel
theorem dX12_forget_7 : decode cX12_forget 7 = .ok (.putfield 156, 3) := by decide +kernel
theorem dX12_forget_10 : decode cX12_forget 10 = .ok (.iload_n 1, 1) := by decide +kernel
theorem dX12_forget_11 : decode cX12_forget 11 = .ok (.ireturn, 1) := by decide +kernel
theorem dX12_bearsBy_0 : decode cX12_bearsBy 0 = .ok (.iconst 0, 1) := by decide +kernel
theorem dX12_bearsBy_1 : decode cX12_bearsBy 1 = .ok (.istore_n 2, 1) := by decide +kernel
theorem dX12_bearsBy_2 : decode cX12_bearsBy 2 = .ok (.iconst 0, 1) := by decide +kernel
theorem dX12_bearsBy_3 : decode cX12_bearsBy 3 = .ok (.istore_n 3, 1) := by decide +kernel
theorem dX12_bearsBy_4 : decode cX12_bearsBy 4 = .ok (.iload_n 3, 1) := by decide +kernel
theorem dX12_bearsBy_5 : decode cX12_bearsBy 5 = .ok (.bipush 20, 2) := by decide +kernel
theorem dX12_bearsBy_7 : decode cX12_bearsBy 7 = .ok (.if_icmp .gt 85, 3) := by decide +kernel
theorem dX12_bearsBy_10 : decode cX12_bearsBy 10 = .ok (.iconst 1, 1) := by decide +kernel
theorem dX12_bearsBy_11 : decode cX12_bearsBy 11 = .ok (.istore 4, 2) := by decide +kernel
theorem dX12_bearsBy_13 : decode cX12_bearsBy 13 = .ok (.iconst 0, 1) := by decide +kernel
theorem dX12_bearsBy_14 : decode cX12_bearsBy 14 = .ok (.istore 5, 2) := by decide +kernel
theorem dX12_bearsBy_16 : decode cX12_bearsBy 16 = .ok (.iload 5, 2) := by decide +kernel
theorem dX12_bearsBy_18 : decode cX12_bearsBy 18 = .ok (.aload_n 0, 1) := by decide +kernel
theorem dX12_bearsBy_19 : decode cX12_bearsBy 19 = .ok (.getfield 156, 3) := by decide +kernel
theorem dX12_bearsBy_22 : decode cX12_bearsBy 22 = .ok (.if_icmp .ge 49, 3) := by decide +kernel
theorem dX12_bearsBy_25 : decode cX12_bearsBy 25 = .ok (.iload 4, 2) := by decide +kernel
theorem dX12_bearsBy_27 : decode cX12_bearsBy 27 = .ok (.ifCond .eq 35, 3) := by decide +kernel
theorem dX12_bearsBy_30 : decode cX12_bearsBy 30 = .ok (.iload_n 1, 1) := by decide +kernel
theorem dX12_bearsBy_31 : decode cX12_bearsBy 31 = .ok (.iload_n 3, 1) := by decide +kernel
theorem dX12_bearsBy_32 : decode cX12_bearsBy 32 = .ok (.aload_n 0, 1) := by decide +kernel
theorem dX12_bearsBy_33 : decode cX12_bearsBy 33 = .ok (.getfield 41, 3) := by decide +kernel
theorem dX12_bearsBy_36 : decode cX12_bearsBy 36 = .ok (.iconst 2, 1) := by decide +kernel
theorem dX12_bearsBy_37 : decode cX12_bearsBy 37 = .ok (.iload 5, 2) := by decide +kernel
theorem dX12_bearsBy_39 : decode cX12_bearsBy 39 = .ok (.imul, 1) := by decide +kernel
theorem dX12_bearsBy_40 : decode cX12_bearsBy 40 = .ok (.iaload, 1) := by decide +kernel
theorem dX12_bearsBy_41 : decode cX12_bearsBy 41 = .ok (.invokestatic 168, 3) := by decide +kernel
theorem dX12_bearsBy_44 : decode cX12_bearsBy 44 = .ok (.aload_n 0, 1) := by decide +kernel
theorem dX12_bearsBy_45 : decode cX12_bearsBy 45 = .ok (.getfield 41, 3) := by decide +kernel
theorem dX12_bearsBy_48 : decode cX12_bearsBy 48 = .ok (.iconst 2, 1) := by decide +kernel
theorem dX12_bearsBy_49 : decode cX12_bearsBy 49 = .ok (.iload 5, 2) := by decide +kernel
theorem dX12_bearsBy_51 : decode cX12_bearsBy 51 = .ok (.imul, 1) := by decide +kernel
theorem dX12_bearsBy_52 : decode cX12_bearsBy 52 = .ok (.iconst 1, 1) := by decide +kernel
theorem dX12_bearsBy_53 : decode cX12_bearsBy 53 = .ok (.iadd, 1) := by decide +kernel
theorem dX12_bearsBy_54 : decode cX12_bearsBy 54 = .ok (.iaload, 1) := by decide +kernel
theorem dX12_bearsBy_55 : decode cX12_bearsBy 55 = .ok (.if_icmp .ne 7, 3) := by decide +kernel
theorem dX12_bearsBy_58 : decode cX12_bearsBy 58 = .ok (.iconst 1, 1) := by decide +kernel
theorem dX12_bearsBy_59 : decode cX12_bearsBy 59 = .ok (.goto 4, 3) := by decide +kernel
theorem dX12_bearsBy_62 : decode cX12_bearsBy 62 = .ok (.iconst 0, 1) := by decide +kernel
theorem dX12_bearsBy_63 : decode cX12_bearsBy 63 = .ok (.istore 4, 2) := by decide +kernel
theorem dX12_bearsBy_65 : decode cX12_bearsBy 65 = .ok (.iinc 5 1, 3) := by decide +kernel
theorem dX12_bearsBy_68 : decode cX12_bearsBy 68 = .ok (.goto (-52), 3) := by decide +kernel
theorem dX12_bearsBy_71 : decode cX12_bearsBy 71 = .ok (.iload_n 2, 1) := by decide +kernel
theorem dX12_bearsBy_72 : decode cX12_bearsBy 72 = .ok (.iload 4, 2) := by decide +kernel
theorem dX12_bearsBy_74 : decode cX12_bearsBy 74 = .ok (.ifCond .eq 9, 3) := by decide +kernel
theorem dX12_bearsBy_77 : decode cX12_bearsBy 77 = .ok (.iconst 1, 1) := by decide +kernel
theorem dX12_bearsBy_78 : decode cX12_bearsBy 78 = .ok (.iload_n 3, 1) := by decide +kernel
theorem dX12_bearsBy_79 : decode cX12_bearsBy 79 = .ok (.ishl, 1) := by decide +kernel
theorem dX12_bearsBy_80 : decode cX12_bearsBy 80 = .ok (.goto 4, 3) := by decide +kernel
theorem dX12_bearsBy_83 : decode cX12_bearsBy 83 = .ok (.iconst 0, 1) := by decide +kernel
theorem dX12_bearsBy_84 : decode cX12_bearsBy 84 = .ok (.ior, 1) := by decide +kernel
theorem dX12_bearsBy_85 : decode cX12_bearsBy 85 = .ok (.istore_n 2, 1) := by decide +kernel
theorem dX12_bearsBy_86 : decode cX12_bearsBy 86 = .ok (.iinc 3 1, 3) := by decide +kernel
theorem dX12_bearsBy_89 : decode cX12_bearsBy 89 = .ok (.goto (-85), 3) := by decide +kernel
theorem dX12_bearsBy_92 : decode cX12_bearsBy 92 = .ok (.iload_n 2, 1) := by decide +kernel
theorem dX12_bearsBy_93 : decode cX12_bearsBy 93 = .ok (.ireturn, 1) := by decide +kernel
theorem dX12_bears_0 : decode cX12_bears 0 = .ok (.iload_n 1, 1) := by decide +kernel
theorem dX12_bears_1 : decode cX12_bears 1 = .ok (.iconst 0, 1) := by decide +kernel
theorem dX12_bears_2 : decode cX12_bears 2 = .ok (.iconst 3, 1) := by decide +kernel
theorem dX12_bears_3 : decode cX12_bears 3 = .ok (.invokestatic 87, 3) := by decide +kernel
theorem dX12_bears_6 : decode cX12_bears 6 = .ok (.ifCond .eq 11, 3) := by decide +kernel
theorem dX12_bears_9 : decode cX12_bears 9 = .ok (.aload_n 0, 1) := by decide +kernel
theorem dX12_bears_10 : decode cX12_bears 10 = .ok (.iload_n 1, 1) := by decide +kernel
theorem dX12_bears_11 : decode cX12_bears 11 = .ok (.invokevirtual 233, 3) := by decide +kernel
theorem dX12_bears_14 : decode cX12_bears 14 = .ok (.goto 4, 3) := by decide +kernel
theorem dX12_bears_17 : decode cX12_bears 17 = .ok (.iconst (-1), 1) := by decide +kernel
theorem dX12_bears_18 : decode cX12_bears 18 = .ok (.ireturn, 1) := by decide +kernel
theorem dX12_alike_0 : decode cX12_alike 0 = .ok (.iconst 0, 1) := by decide +kernel
theorem dX12_alike_1 : decode cX12_alike 1 = .ok (.istore_n 3, 1) := by decide +kernel
theorem dX12_alike_2 : decode cX12_alike 2 = .ok (.iconst 0, 1) := by decide +kernel
theorem dX12_alike_3 : decode cX12_alike 3 = .ok (.istore 4, 2) := by decide +kernel
theorem dX12_alike_5 : decode cX12_alike 5 = .ok (.iload 4, 2) := by decide +kernel
theorem dX12_alike_7 : decode cX12_alike 7 = .ok (.bipush 20, 2) := by decide +kernel
theorem dX12_alike_9 : decode cX12_alike 9 = .ok (.if_icmp .gt 86, 3) := by decide +kernel
theorem dX12_alike_12 : decode cX12_alike 12 = .ok (.iconst 0, 1) := by decide +kernel
theorem dX12_alike_13 : decode cX12_alike 13 = .ok (.istore 5, 2) := by decide +kernel
theorem dX12_alike_15 : decode cX12_alike 15 = .ok (.iconst 0, 1) := by decide +kernel
theorem dX12_alike_16 : decode cX12_alike 16 = .ok (.istore 6, 2) := by decide +kernel
theorem dX12_alike_18 : decode cX12_alike 18 = .ok (.iload 6, 2) := by decide +kernel
theorem dX12_alike_20 : decode cX12_alike 20 = .ok (.bipush 20, 2) := by decide +kernel
theorem dX12_alike_22 : decode cX12_alike 22 = .ok (.if_icmp .gt 54, 3) := by decide +kernel
theorem dX12_alike_25 : decode cX12_alike 25 = .ok (.iload 5, 2) := by decide +kernel
theorem dX12_alike_27 : decode cX12_alike 27 = .ok (.iload_n 0, 1) := by decide +kernel
theorem dX12_alike_28 : decode cX12_alike 28 = .ok (.iload 4, 2) := by decide +kernel
theorem dX12_alike_30 : decode cX12_alike 30 = .ok (.invokestatic 185, 3) := by decide +kernel
theorem dX12_alike_33 : decode cX12_alike 33 = .ok (.ifCond .eq 33, 3) := by decide +kernel
theorem dX12_alike_36 : decode cX12_alike 36 = .ok (.iload_n 0, 1) := by decide +kernel
theorem dX12_alike_37 : decode cX12_alike 37 = .ok (.iload 6, 2) := by decide +kernel
theorem dX12_alike_39 : decode cX12_alike 39 = .ok (.invokestatic 185, 3) := by decide +kernel
theorem dX12_alike_42 : decode cX12_alike 42 = .ok (.ifCond .eq 24, 3) := by decide +kernel
theorem dX12_alike_45 : decode cX12_alike 45 = .ok (.iload_n 1, 1) := by decide +kernel
theorem dX12_alike_46 : decode cX12_alike 46 = .ok (.iload 4, 2) := by decide +kernel
theorem dX12_alike_48 : decode cX12_alike 48 = .ok (.iload_n 2, 1) := by decide +kernel
theorem dX12_alike_49 : decode cX12_alike 49 = .ok (.invokestatic 168, 3) := by decide +kernel
theorem dX12_alike_52 : decode cX12_alike 52 = .ok (.iload_n 1, 1) := by decide +kernel
theorem dX12_alike_53 : decode cX12_alike 53 = .ok (.iload 6, 2) := by decide +kernel
theorem dX12_alike_55 : decode cX12_alike 55 = .ok (.iload_n 2, 1) := by decide +kernel
theorem dX12_alike_56 : decode cX12_alike 56 = .ok (.invokestatic 168, 3) := by decide +kernel
theorem dX12_alike_59 : decode cX12_alike 59 = .ok (.if_icmp .ne 7, 3) := by decide +kernel
theorem dX12_alike_62 : decode cX12_alike 62 = .ok (.iconst 1, 1) := by decide +kernel
theorem dX12_alike_63 : decode cX12_alike 63 = .ok (.goto 4, 3) := by decide +kernel
theorem dX12_alike_66 : decode cX12_alike 66 = .ok (.iconst 0, 1) := by decide +kernel
theorem dX12_alike_67 : decode cX12_alike 67 = .ok (.iadd, 1) := by decide +kernel
theorem dX12_alike_68 : decode cX12_alike 68 = .ok (.istore 5, 2) := by decide +kernel
theorem dX12_alike_70 : decode cX12_alike 70 = .ok (.iinc 6 1, 3) := by decide +kernel
theorem dX12_alike_73 : decode cX12_alike 73 = .ok (.goto (-55), 3) := by decide +kernel
theorem dX12_alike_76 : decode cX12_alike 76 = .ok (.iload 5, 2) := by decide +kernel
theorem dX12_alike_78 : decode cX12_alike 78 = .ok (.iload_n 3, 1) := by decide +kernel
theorem dX12_alike_79 : decode cX12_alike 79 = .ok (.if_icmp .le 8, 3) := by decide +kernel
theorem dX12_alike_82 : decode cX12_alike 82 = .ok (.iload 5, 2) := by decide +kernel
theorem dX12_alike_84 : decode cX12_alike 84 = .ok (.goto 4, 3) := by decide +kernel
theorem dX12_alike_87 : decode cX12_alike 87 = .ok (.iload_n 3, 1) := by decide +kernel
theorem dX12_alike_88 : decode cX12_alike 88 = .ok (.istore_n 3, 1) := by decide +kernel
theorem dX12_alike_89 : decode cX12_alike 89 = .ok (.iinc 4 1, 3) := by decide +kernel
theorem dX12_alike_92 : decode cX12_alike 92 = .ok (.goto (-87), 3) := by decide +kernel
theorem dX12_alike_95 : decode cX12_alike 95 = .ok (.iload_n 3, 1) := by decide +kernel
theorem dX12_alike_96 : decode cX12_alike 96 = .ok (.ireturn, 1) := by decide +kernel
theorem dX12_look_0 : decode cX12_look 0 = .ok (.iload_n 1, 1) := by decide +kernel
theorem dX12_look_1 : decode cX12_look 1 = .ok (.iconst 0, 1) := by decide +kernel
theorem dX12_look_2 : decode cX12_look 2 = .ok (.iconst 3, 1) := by decide +kernel
theorem dX12_look_3 : decode cX12_look 3 = .ok (.invokestatic 87, 3) := by decide +kernel
theorem dX12_look_6 : decode cX12_look 6 = .ok (.ifCond .eq 12, 3) := by decide +kernel
theorem dX12_look_9 : decode cX12_look 9 = .ok (.iload_n 2, 1) := by decide +kernel
theorem dX12_look_10 : decode cX12_look 10 = .ok (.iconst 0, 1) := by decide +kernel
theorem dX12_look_11 : decode cX12_look 11 = .ok (.iconst 1, 1) := by decide +kernel
theorem dX12_look_12 : decode cX12_look 12 = .ok (.invokestatic 87, 3) := by decide +kernel
theorem dX12_look_15 : decode cX12_look 15 = .ok (.ifCond .ne 5, 3) := by decide +kernel
theorem dX12_look_18 : decode cX12_look 18 = .ok (.iconst (-1), 1) := by decide +kernel
theorem dX12_look_19 : decode cX12_look 19 = .ok (.ireturn, 1) := by decide +kernel
theorem dX12_look_20 : decode cX12_look 20 = .ok (.aload_n 0, 1) := by decide +kernel
theorem dX12_look_21 : decode cX12_look 21 = .ok (.iload_n 1, 1) := by decide +kernel
theorem dX12_look_22 : decode cX12_look 22 = .ok (.invokevirtual 233, 3) := by decide +kernel
theorem dX12_look_25 : decode cX12_look 25 = .ok (.istore_n 3, 1) := by decide +kernel
theorem dX12_look_26 : decode cX12_look 26 = .ok (.iload_n 3, 1) := by decide +kernel
theorem dX12_look_27 : decode cX12_look 27 = .ok (.ifCond .ne 6, 3) := by decide +kernel
theorem dX12_look_30 : decode cX12_look 30 = .ok (.bipush (-4), 2) := by decide +kernel
theorem dX12_look_32 : decode cX12_look 32 = .ok (.ireturn, 1) := by decide +kernel
theorem dX12_look_33 : decode cX12_look 33 = .ok (.iconst 0, 1) := by decide +kernel
theorem dX12_look_34 : decode cX12_look 34 = .ok (.istore 4, 2) := by decide +kernel
theorem dX12_look_36 : decode cX12_look 36 = .ok (.iconst 1, 1) := by decide +kernel
theorem dX12_look_37 : decode cX12_look 37 = .ok (.istore 5, 2) := by decide +kernel
theorem dX12_look_39 : decode cX12_look 39 = .ok (.iload 5, 2) := by decide +kernel
theorem dX12_look_41 : decode cX12_look 41 = .ok (.bipush 20, 2) := by decide +kernel
theorem dX12_look_43 : decode cX12_look 43 = .ok (.if_icmp .gt 35, 3) := by decide +kernel
theorem dX12_look_46 : decode cX12_look 46 = .ok (.iload_n 3, 1) := by decide +kernel
theorem dX12_look_47 : decode cX12_look 47 = .ok (.iload_n 1, 1) := by decide +kernel
theorem dX12_look_48 : decode cX12_look 48 = .ok (.iload 5, 2) := by decide +kernel
theorem dX12_look_50 : decode cX12_look 50 = .ok (.invokestatic 236, 3) := by decide +kernel
theorem dX12_look_53 : decode cX12_look 53 = .ok (.iload_n 3, 1) := by decide +kernel
theorem dX12_look_54 : decode cX12_look 54 = .ok (.iload_n 1, 1) := by decide +kernel
theorem dX12_look_55 : decode cX12_look 55 = .ok (.iload 4, 2) := by decide +kernel
theorem dX12_look_57 : decode cX12_look 57 = .ok (.invokestatic 236, 3) := by decide +kernel
theorem dX12_look_60 : decode cX12_look 60 = .ok (.if_icmp .ge 8, 3) := by decide +kernel
theorem dX12_look_63 : decode cX12_look 63 = .ok (.iload 5, 2) := by decide +kernel
theorem dX12_look_65 : decode cX12_look 65 = .ok (.goto 5, 3) := by decide +kernel
theorem dX12_look_68 : decode cX12_look 68 = .ok (.iload 4, 2) := by decide +kernel
theorem dX12_look_70 : decode cX12_look 70 = .ok (.istore 4, 2) := by decide +kernel
theorem dX12_look_72 : decode cX12_look 72 = .ok (.iinc 5 1, 3) := by decide +kernel
theorem dX12_look_75 : decode cX12_look 75 = .ok (.goto (-36), 3) := by decide +kernel
theorem dX12_look_78 : decode cX12_look 78 = .ok (.iload_n 2, 1) := by decide +kernel
theorem dX12_look_79 : decode cX12_look 79 = .ok (.ifCond .ne 8, 3) := by decide +kernel
theorem dX12_look_82 : decode cX12_look 82 = .ok (.iload 4, 2) := by decide +kernel
theorem dX12_look_84 : decode cX12_look 84 = .ok (.goto 10, 3) := by decide +kernel
theorem dX12_look_87 : decode cX12_look 87 = .ok (.iload_n 3, 1) := by decide +kernel
theorem dX12_look_88 : decode cX12_look 88 = .ok (.iload_n 1, 1) := by decide +kernel
theorem dX12_look_89 : decode cX12_look 89 = .ok (.iload 4, 2) := by decide +kernel
theorem dX12_look_91 : decode cX12_look 91 = .ok (.invokestatic 236, 3) := by decide +kernel
theorem dX12_look_94 : decode cX12_look 94 = .ok (.ireturn, 1) := by decide +kernel
theorem dX12_who_0 : decode cX12_who 0 = .ok (.iload_n 1, 1) := by decide +kernel
theorem dX12_who_1 : decode cX12_who 1 = .ok (.iconst 0, 1) := by decide +kernel
theorem dX12_who_2 : decode cX12_who 2 = .ok (.bipush 40, 2) := by decide +kernel
theorem dX12_who_4 : decode cX12_who 4 = .ok (.invokestatic 87, 3) := by decide +kernel
theorem dX12_who_7 : decode cX12_who 7 = .ok (.ifCond .eq 18, 3) := by decide +kernel
theorem dX12_who_10 : decode cX12_who 10 = .ok (.iload_n 2, 1) := by decide +kernel
theorem dX12_who_11 : decode cX12_who 11 = .ok (.iconst 0, 1) := by decide +kernel
theorem dX12_who_12 : decode cX12_who 12 = .ok (.bipush 40, 2) := by decide +kernel
theorem dX12_who_14 : decode cX12_who 14 = .ok (.invokestatic 87, 3) := by decide +kernel
theorem dX12_who_17 : decode cX12_who 17 = .ok (.ifCond .eq 8, 3) := by decide +kernel
theorem dX12_who_20 : decode cX12_who 20 = .ok (.iload_n 1, 1) := by decide +kernel
theorem dX12_who_21 : decode cX12_who 21 = .ok (.iload_n 2, 1) := by decide +kernel
theorem dX12_who_22 : decode cX12_who 22 = .ok (.if_icmp .ne 5, 3) := by decide +kernel
theorem dX12_who_25 : decode cX12_who 25 = .ok (.iconst (-1), 1) := by decide +kernel
theorem dX12_who_26 : decode cX12_who 26 = .ok (.ireturn, 1) := by decide +kernel
theorem dX12_who_27 : decode cX12_who 27 = .ok (.iconst 0, 1) := by decide +kernel
theorem dX12_who_28 : decode cX12_who 28 = .ok (.istore_n 3, 1) := by decide +kernel
theorem dX12_who_29 : decode cX12_who 29 = .ok (.iconst 0, 1) := by decide +kernel
theorem dX12_who_30 : decode cX12_who 30 = .ok (.istore 4, 2) := by decide +kernel
theorem dX12_who_32 : decode cX12_who 32 = .ok (.iload 4, 2) := by decide +kernel
theorem dX12_who_34 : decode cX12_who 34 = .ok (.aload_n 0, 1) := by decide +kernel
theorem dX12_who_35 : decode cX12_who 35 = .ok (.getfield 17, 3) := by decide +kernel
theorem dX12_who_38 : decode cX12_who 38 = .ok (.if_icmp .ge 37, 3) := by decide +kernel
theorem dX12_who_41 : decode cX12_who 41 = .ok (.iload_n 3, 1) := by decide +kernel
theorem dX12_who_42 : decode cX12_who 42 = .ok (.aload_n 0, 1) := by decide +kernel
theorem dX12_who_43 : decode cX12_who 43 = .ok (.iload 4, 2) := by decide +kernel
theorem dX12_who_45 : decode cX12_who 45 = .ok (.iload_n 1, 1) := by decide +kernel
theorem dX12_who_46 : decode cX12_who 46 = .ok (.bipush 20, 2) := by decide +kernel
theorem dX12_who_48 : decode cX12_who 48 = .ok (.isub, 1) := by decide +kernel
theorem dX12_who_49 : decode cX12_who 49 = .ok (.invokevirtual 189, 3) := by decide +kernel
theorem dX12_who_52 : decode cX12_who 52 = .ok (.iload_n 2, 1) := by decide +kernel
theorem dX12_who_53 : decode cX12_who 53 = .ok (.bipush 20, 2) := by decide +kernel
theorem dX12_who_55 : decode cX12_who 55 = .ok (.isub, 1) := by decide +kernel
theorem dX12_who_56 : decode cX12_who 56 = .ok (.if_icmp .ne 10, 3) := by decide +kernel
theorem dX12_who_59 : decode cX12_who 59 = .ok (.iconst 1, 1) := by decide +kernel
theorem dX12_who_60 : decode cX12_who 60 = .ok (.iload 4, 2) := by decide +kernel
theorem dX12_who_62 : decode cX12_who 62 = .ok (.ishl, 1) := by decide +kernel
theorem dX12_who_63 : decode cX12_who 63 = .ok (.goto 4, 3) := by decide +kernel
theorem dX12_who_66 : decode cX12_who 66 = .ok (.iconst 0, 1) := by decide +kernel
theorem dX12_who_67 : decode cX12_who 67 = .ok (.ior, 1) := by decide +kernel
theorem dX12_who_68 : decode cX12_who 68 = .ok (.istore_n 3, 1) := by decide +kernel
theorem dX12_who_69 : decode cX12_who 69 = .ok (.iinc 4 1, 3) := by decide +kernel
theorem dX12_who_72 : decode cX12_who 72 = .ok (.goto (-40), 3) := by decide +kernel
theorem dX12_who_75 : decode cX12_who 75 = .ok (.iload_n 3, 1) := by decide +kernel
theorem dX12_who_76 : decode cX12_who 76 = .ok (.ireturn, 1) := by decide +kernel
theorem dX12_ends_0 : decode cX12_ends 0 = .ok (.aload_n 0, 1) := by decide +kernel
theorem dX12_ends_1 : decode cX12_ends 1 = .ok (.iload_n 1, 1) := by decide +kernel
theorem dX12_ends_2 : decode cX12_ends 2 = .ok (.invokevirtual 162, 3) := by decide +kernel
theorem dX12_ends_5 : decode cX12_ends 5 = .ok (.ifCond .eq 31, 3) := by decide +kernel
theorem dX12_ends_8 : decode cX12_ends 8 = .ok (.aload_n 0, 1) := by decide +kernel
theorem dX12_ends_9 : decode cX12_ends 9 = .ok (.iload_n 2, 1) := by decide +kernel
theorem dX12_ends_10 : decode cX12_ends 10 = .ok (.invokevirtual 162, 3) := by decide +kernel
theorem dX12_ends_13 : decode cX12_ends 13 = .ok (.ifCond .eq 23, 3) := by decide +kernel
theorem dX12_ends_16 : decode cX12_ends 16 = .ok (.iload_n 3, 1) := by decide +kernel
theorem dX12_ends_17 : decode cX12_ends 17 = .ok (.iconst 0, 1) := by decide +kernel
theorem dX12_ends_18 : decode cX12_ends 18 = .ok (.bipush 40, 2) := by decide +kernel
theorem dX12_ends_20 : decode cX12_ends 20 = .ok (.invokestatic 87, 3) := by decide +kernel
theorem dX12_ends_23 : decode cX12_ends 23 = .ok (.ifCond .eq 13, 3) := by decide +kernel
theorem dX12_ends_26 : decode cX12_ends 26 = .ok (.iload 4, 2) := by decide +kernel
theorem dX12_ends_28 : decode cX12_ends 28 = .ok (.iconst 0, 1) := by decide +kernel
theorem dX12_ends_29 : decode cX12_ends 29 = .ok (.iconst 1, 1) := by decide +kernel
theorem dX12_ends_30 : decode cX12_ends 30 = .ok (.invokestatic 87, 3) := by decide +kernel
theorem dX12_ends_33 : decode cX12_ends 33 = .ok (.ifCond .ne 5, 3) := by decide +kernel
theorem dX12_ends_36 : decode cX12_ends 36 = .ok (.iconst (-1), 1) := by decide +kernel
theorem dX12_ends_37 : decode cX12_ends 37 = .ok (.ireturn, 1) := by decide +kernel
theorem dX12_ends_38 : decode cX12_ends 38 = .ok (.iload_n 3, 1) := by decide +kernel
theorem dX12_ends_39 : decode cX12_ends 39 = .ok (.bipush 20, 2) := by decide +kernel
theorem dX12_ends_41 : decode cX12_ends 41 = .ok (.isub, 1) := by decide +kernel
theorem dX12_ends_42 : decode cX12_ends 42 = .ok (.istore 5, 2) := by decide +kernel
theorem dX12_ends_44 : decode cX12_ends 44 = .ok (.iconst 0, 1) := by decide +kernel
theorem dX12_ends_45 : decode cX12_ends 45 = .ok (.istore 6, 2) := by decide +kernel
theorem dX12_ends_47 : decode cX12_ends 47 = .ok (.iload 6, 2) := by decide +kernel
theorem dX12_ends_49 : decode cX12_ends 49 = .ok (.sipush 200, 3) := by decide +kernel
theorem dX12_ends_52 : decode cX12_ends 52 = .ok (.if_icmp .ge 69, 3) := by decide +kernel
theorem dX12_ends_55 : decode cX12_ends 55 = .ok (.aload_n 0, 1) := by decide +kernel
theorem dX12_ends_56 : decode cX12_ends 56 = .ok (.iload_n 1, 1) := by decide +kernel
theorem dX12_ends_57 : decode cX12_ends 57 = .ok (.iload 5, 2) := by decide +kernel
theorem dX12_ends_59 : decode cX12_ends 59 = .ok (.invokevirtual 189, 3) := by decide +kernel
theorem dX12_ends_62 : decode cX12_ends 62 = .ok (.iload 5, 2) := by decide +kernel
theorem dX12_ends_64 : decode cX12_ends 64 = .ok (.if_icmp .ne 31, 3) := by decide +kernel
theorem dX12_ends_67 : decode cX12_ends 67 = .ok (.aload_n 0, 1) := by decide +kernel
theorem dX12_ends_68 : decode cX12_ends 68 = .ok (.iload_n 2, 1) := by decide +kernel
theorem dX12_ends_69 : decode cX12_ends 69 = .ok (.iload 5, 2) := by decide +kernel
theorem dX12_ends_71 : decode cX12_ends 71 = .ok (.invokevirtual 189, 3) := by decide +kernel
theorem dX12_ends_74 : decode cX12_ends 74 = .ok (.iload 5, 2) := by decide +kernel
theorem dX12_ends_76 : decode cX12_ends 76 = .ok (.if_icmp .ne 19, 3) := by decide +kernel
theorem dX12_ends_79 : decode cX12_ends 79 = .ok (.iload 4, 2) := by decide +kernel
theorem dX12_ends_81 : decode cX12_ends 81 = .ok (.ifCond .ne 11, 3) := by decide +kernel
theorem dX12_ends_84 : decode cX12_ends 84 = .ok (.iload 5, 2) := by decide +kernel
theorem dX12_ends_86 : decode cX12_ends 86 = .ok (.bipush 40, 2) := by decide +kernel
theorem dX12_ends_88 : decode cX12_ends 88 = .ok (.iadd, 1) := by decide +kernel
theorem dX12_ends_89 : decode cX12_ends 89 = .ok (.goto 5, 3) := by decide +kernel
theorem dX12_ends_92 : decode cX12_ends 92 = .ok (.iload 6, 2) := by decide +kernel
theorem dX12_ends_94 : decode cX12_ends 94 = .ok (.ireturn, 1) := by decide +kernel
theorem dX12_ends_95 : decode cX12_ends 95 = .ok (.aload_n 0, 1) := by decide +kernel
theorem dX12_ends_96 : decode cX12_ends 96 = .ok (.iload 6, 2) := by decide +kernel
theorem dX12_ends_98 : decode cX12_ends 98 = .ok (.iconst 2, 1) := by decide +kernel
theorem dX12_ends_99 : decode cX12_ends 99 = .ok (.irem, 1) := by decide +kernel
theorem dX12_ends_100 : decode cX12_ends 100 = .ok (.ifCond .ne 7, 3) := by decide +kernel
theorem dX12_ends_103 : decode cX12_ends 103 = .ok (.iload_n 1, 1) := by decide +kernel
theorem dX12_ends_104 : decode cX12_ends 104 = .ok (.goto 4, 3) := by decide +kernel
theorem dX12_ends_107 : decode cX12_ends 107 = .ok (.iload_n 2, 1) := by decide +kernel
theorem dX12_ends_108 : decode cX12_ends 108 = .ok (.iload 5, 2) := by decide +kernel
theorem dX12_ends_110 : decode cX12_ends 110 = .ok (.invokevirtual 189, 3) := by decide +kernel
theorem dX12_ends_113 : decode cX12_ends 113 = .ok (.istore 5, 2) := by decide +kernel
theorem dX12_ends_115 : decode cX12_ends 115 = .ok (.iinc 6 1, 3) := by decide +kernel
theorem dX12_ends_118 : decode cX12_ends 118 = .ok (.goto (-71), 3) := by decide +kernel
theorem dX12_ends_121 : decode cX12_ends 121 = .ok (.bipush (-4), 2) := by decide +kernel
theorem dX12_ends_123 : decode cX12_ends 123 = .ok (.ireturn, 1) := by decide +kernel
theorem dX12_wire_0 : decode cX12_wire 0 = .ok (.iload_n 1, 1) := by decide +kernel
theorem dX12_wire_1 : decode cX12_wire 1 = .ok (.iconst 0, 1) := by decide +kernel
theorem dX12_wire_2 : decode cX12_wire 2 = .ok (.bipush 40, 2) := by decide +kernel
theorem dX12_wire_4 : decode cX12_wire 4 = .ok (.invokestatic 87, 3) := by decide +kernel
theorem dX12_wire_7 : decode cX12_wire 7 = .ok (.ifCond .eq 65, 3) := by decide +kernel
theorem dX12_wire_10 : decode cX12_wire 10 = .ok (.iload_n 2, 1) := by decide +kernel
theorem dX12_wire_11 : decode cX12_wire 11 = .ok (.iconst 0, 1) := by decide +kernel
theorem dX12_wire_12 : decode cX12_wire 12 = .ok (.bipush 20, 2) := by decide +kernel
theorem dX12_wire_14 : decode cX12_wire 14 = .ok (.invokestatic 87, 3) := by decide +kernel
theorem dX12_wire_17 : decode cX12_wire 17 = .ok (.ifCond .eq 55, 3) := by decide +kernel
theorem dX12_wire_20 : decode cX12_wire 20 = .ok (.iload_n 3, 1) := by decide +kernel
theorem dX12_wire_21 : decode cX12_wire 21 = .ok (.iconst 0, 1) := by decide +kernel
theorem dX12_wire_22 : decode cX12_wire 22 = .ok (.bipush 6, 2) := by decide +kernel
theorem dX12_wire_24 : decode cX12_wire 24 = .ok (.invokestatic 87, 3) := by decide +kernel
theorem dX12_wire_27 : decode cX12_wire 27 = .ok (.ifCond .eq 45, 3) := by decide +kernel
theorem dX12_wire_30 : decode cX12_wire 30 = .ok (.iload 4, 2) := by decide +kernel
theorem dX12_wire_32 : decode cX12_wire 32 = .ok (.iconst 0, 1) := by decide +kernel
theorem dX12_wire_33 : decode cX12_wire 33 = .ok (.bipush 10, 2) := by decide +kernel
theorem dX12_wire_35 : decode cX12_wire 35 = .ok (.invokestatic 87, 3) := by decide +kernel
theorem dX12_wire_38 : decode cX12_wire 38 = .ok (.ifCond .eq 34, 3) := by decide +kernel
theorem dX12_wire_41 : decode cX12_wire 41 = .ok (.iload 5, 2) := by decide +kernel
theorem dX12_wire_43 : decode cX12_wire 43 = .ok (.iconst 0, 1) := by decide +kernel
theorem dX12_wire_44 : decode cX12_wire 44 = .ok (.bipush 10, 2) := by decide +kernel
theorem dX12_wire_46 : decode cX12_wire 46 = .ok (.invokestatic 87, 3) := by decide +kernel
theorem dX12_wire_49 : decode cX12_wire 49 = .ok (.ifCond .eq 23, 3) := by decide +kernel
theorem dX12_wire_52 : decode cX12_wire 52 = .ok (.iload 4, 2) := by decide +kernel
theorem dX12_wire_54 : decode cX12_wire 54 = .ok (.iload 5, 2) := by decide +kernel
theorem dX12_wire_56 : decode cX12_wire 56 = .ok (.iadd, 1) := by decide +kernel
theorem dX12_wire_57 : decode cX12_wire 57 = .ok (.bipush 10, 2) := by decide +kernel
theorem dX12_wire_59 : decode cX12_wire 59 = .ok (.if_icmp .gt 13, 3) := by decide +kernel
theorem dX12_wire_62 : decode cX12_wire 62 = .ok (.iload 6, 2) := by decide +kernel
theorem dX12_wire_64 : decode cX12_wire 64 = .ok (.iconst 0, 1) := by decide +kernel
theorem dX12_wire_65 : decode cX12_wire 65 = .ok (.iconst 1, 1) := by decide +kernel
theorem dX12_wire_66 : decode cX12_wire 66 = .ok (.invokestatic 87, 3) := by decide +kernel
theorem dX12_wire_69 : decode cX12_wire 69 = .ok (.ifCond .ne 5, 3) := by decide +kernel
theorem dX12_wire_72 : decode cX12_wire 72 = .ok (.iconst (-1), 1) := by decide +kernel
theorem dX12_wire_73 : decode cX12_wire 73 = .ok (.ireturn, 1) := by decide +kernel
theorem dX12_wire_74 : decode cX12_wire 74 = .ok (.iconst 1, 1) := by decide +kernel
theorem dX12_wire_75 : decode cX12_wire 75 = .ok (.istore 7, 2) := by decide +kernel
theorem dX12_wire_77 : decode cX12_wire 77 = .ok (.iconst 0, 1) := by decide +kernel
theorem dX12_wire_78 : decode cX12_wire 78 = .ok (.istore 8, 2) := by decide +kernel
theorem dX12_wire_80 : decode cX12_wire 80 = .ok (.iload 8, 2) := by decide +kernel
theorem dX12_wire_82 : decode cX12_wire 82 = .ok (.bipush 13, 2) := by decide +kernel
theorem dX12_wire_84 : decode cX12_wire 84 = .ok (.if_icmp .ge 28, 3) := by decide +kernel
theorem dX12_wire_87 : decode cX12_wire 87 = .ok (.aload_n 0, 1) := by decide +kernel
theorem dX12_wire_88 : decode cX12_wire 88 = .ok (.getfield 74, 3) := by decide +kernel
theorem dX12_wire_91 : decode cX12_wire 91 = .ok (.iload 8, 2) := by decide +kernel
theorem dX12_wire_93 : decode cX12_wire 93 = .ok (.iload 8, 2) := by decide +kernel
theorem dX12_wire_95 : decode cX12_wire 95 = .ok (.bipush 6, 2) := by decide +kernel
theorem dX12_wire_97 : decode cX12_wire 97 = .ok (.if_icmp .ne 7, 3) := by decide +kernel
theorem dX12_wire_100 : decode cX12_wire 100 = .ok (.iconst 1, 1) := by decide +kernel
theorem dX12_wire_101 : decode cX12_wire 101 = .ok (.goto 4, 3) := by decide +kernel
theorem dX12_wire_104 : decode cX12_wire 104 = .ok (.iconst 0, 1) := by decide +kernel
theorem dX12_wire_105 : decode cX12_wire 105 = .ok (.iastore, 1) := by decide +kernel
theorem dX12_wire_106 : decode cX12_wire 106 = .ok (.iinc 8 1, 3) := by decide +kernel
theorem dX12_wire_109 : decode cX12_wire 109 = .ok (.goto (-29), 3) := by decide +kernel
theorem dX12_wire_112 : decode cX12_wire 112 = .ok (.iconst 0, 1) := by decide +kernel
theorem dX12_wire_113 : decode cX12_wire 113 = .ok (.istore 8, 2) := by decide +kernel
theorem dX12_wire_115 : decode cX12_wire 115 = .ok (.iload 8, 2) := by decide +kernel
theorem dX12_wire_117 : decode cX12_wire 117 = .ok (.iload_n 3, 1) := by decide +kernel
theorem dX12_wire_118 : decode cX12_wire 118 = .ok (.if_icmp .ge 100, 3) := by decide +kernel
theorem dX12_wire_121 : decode cX12_wire 121 = .ok (.iload 7, 2) := by decide +kernel
theorem dX12_wire_123 : decode cX12_wire 123 = .ok (.bipush 10, 2) := by decide +kernel
theorem dX12_wire_125 : decode cX12_wire 125 = .ok (.imul, 1) := by decide +kernel
theorem dX12_wire_126 : decode cX12_wire 126 = .ok (.istore 7, 2) := by decide +kernel
theorem dX12_wire_128 : decode cX12_wire 128 = .ok (.iconst 0, 1) := by decide +kernel
theorem dX12_wire_129 : decode cX12_wire 129 = .ok (.istore 9, 2) := by decide +kernel
theorem dX12_wire_131 : decode cX12_wire 131 = .ok (.iconst 0, 1) := by decide +kernel
theorem dX12_wire_132 : decode cX12_wire 132 = .ok (.istore 10, 2) := by decide +kernel
theorem dX12_wire_134 : decode cX12_wire 134 = .ok (.iload 10, 2) := by decide +kernel
theorem dX12_wire_136 : decode cX12_wire 136 = .ok (.bipush 13, 2) := by decide +kernel
theorem dX12_wire_138 : decode cX12_wire 138 = .ok (.if_icmp .ge 74, 3) := by decide +kernel
theorem dX12_wire_141 : decode cX12_wire 141 = .ok (.iload 9, 2) := by decide +kernel
theorem dX12_wire_143 : decode cX12_wire 143 = .ok (.iload 4, 2) := by decide +kernel
theorem dX12_wire_145 : decode cX12_wire 145 = .ok (.imul, 1) := by decide +kernel
theorem dX12_wire_146 : decode cX12_wire 146 = .ok (.istore 11, 2) := by decide +kernel
theorem dX12_wire_148 : decode cX12_wire 148 = .ok (.iload 10, 2) := by decide +kernel
theorem dX12_wire_150 : decode cX12_wire 150 = .ok (.bipush 12, 2) := by decide +kernel
theorem dX12_wire_152 : decode cX12_wire 152 = .ok (.if_icmp .ge 18, 3) := by decide +kernel
theorem dX12_wire_155 : decode cX12_wire 155 = .ok (.aload_n 0, 1) := by decide +kernel
theorem dX12_wire_156 : decode cX12_wire 156 = .ok (.getfield 74, 3) := by decide +kernel
theorem dX12_wire_159 : decode cX12_wire 159 = .ok (.iload 10, 2) := by decide +kernel
theorem dX12_wire_161 : decode cX12_wire 161 = .ok (.iconst 1, 1) := by decide +kernel
theorem dX12_wire_162 : decode cX12_wire 162 = .ok (.iadd, 1) := by decide +kernel
theorem dX12_wire_163 : decode cX12_wire 163 = .ok (.iaload, 1) := by decide +kernel
theorem dX12_wire_164 : decode cX12_wire 164 = .ok (.iload 5, 2) := by decide +kernel
theorem dX12_wire_166 : decode cX12_wire 166 = .ok (.imul, 1) := by decide +kernel
theorem dX12_wire_167 : decode cX12_wire 167 = .ok (.goto 4, 3) := by decide +kernel
theorem dX12_wire_170 : decode cX12_wire 170 = .ok (.iconst 0, 1) := by decide +kernel
theorem dX12_wire_171 : decode cX12_wire 171 = .ok (.istore 12, 2) := by decide +kernel
theorem dX12_wire_173 : decode cX12_wire 173 = .ok (.aload_n 0, 1) := by decide +kernel
theorem dX12_wire_174 : decode cX12_wire 174 = .ok (.getfield 74, 3) := by decide +kernel
theorem dX12_wire_177 : decode cX12_wire 177 = .ok (.iload 10, 2) := by decide +kernel
theorem dX12_wire_179 : decode cX12_wire 179 = .ok (.iaload, 1) := by decide +kernel
theorem dX12_wire_180 : decode cX12_wire 180 = .ok (.istore 9, 2) := by decide +kernel
theorem dX12_wire_182 : decode cX12_wire 182 = .ok (.aload_n 0, 1) := by decide +kernel
theorem dX12_wire_183 : decode cX12_wire 183 = .ok (.getfield 74, 3) := by decide +kernel
theorem dX12_wire_186 : decode cX12_wire 186 = .ok (.iload 10, 2) := by decide +kernel
theorem dX12_wire_188 : decode cX12_wire 188 = .ok (.iload 11, 2) := by decide +kernel
theorem dX12_wire_190 : decode cX12_wire 190 = .ok (.iload 12, 2) := by decide +kernel
theorem dX12_wire_192 : decode cX12_wire 192 = .ok (.iadd, 1) := by decide +kernel
theorem dX12_wire_193 : decode cX12_wire 193 = .ok (.iload 9, 2) := by decide +kernel
theorem dX12_wire_195 : decode cX12_wire 195 = .ok (.bipush 10, 2) := by decide +kernel
theorem dX12_wire_197 : decode cX12_wire 197 = .ok (.iload 4, 2) := by decide +kernel
theorem dX12_wire_199 : decode cX12_wire 199 = .ok (.isub, 1) := by decide +kernel
theorem dX12_wire_200 : decode cX12_wire 200 = .ok (.iload 5, 2) := by decide +kernel
theorem dX12_wire_202 : decode cX12_wire 202 = .ok (.isub, 1) := by decide +kernel
theorem dX12_wire_203 : decode cX12_wire 203 = .ok (.imul, 1) := by decide +kernel
theorem dX12_wire_204 : decode cX12_wire 204 = .ok (.iadd, 1) := by decide +kernel
theorem dX12_wire_205 : decode cX12_wire 205 = .ok (.iastore, 1) := by decide +kernel
theorem dX12_wire_206 : decode cX12_wire 206 = .ok (.iinc 10 1, 3) := by decide +kernel
theorem dX12_wire_209 : decode cX12_wire 209 = .ok (.goto (-75), 3) := by decide +kernel
theorem dX12_wire_212 : decode cX12_wire 212 = .ok (.iinc 8 1, 3) := by decide +kernel
theorem dX12_wire_215 : decode cX12_wire 215 = .ok (.goto (-100), 3) := by decide +kernel
theorem dX12_wire_218 : decode cX12_wire 218 = .ok (.iconst 0, 1) := by decide +kernel
theorem dX12_wire_219 : decode cX12_wire 219 = .ok (.istore 8, 2) := by decide +kernel
theorem dX12_wire_221 : decode cX12_wire 221 = .ok (.iconst 0, 1) := by decide +kernel
theorem dX12_wire_222 : decode cX12_wire 222 = .ok (.istore 9, 2) := by decide +kernel
theorem dX12_wire_224 : decode cX12_wire 224 = .ok (.iload 9, 2) := by decide +kernel
theorem dX12_wire_226 : decode cX12_wire 226 = .ok (.bipush 13, 2) := by decide +kernel
theorem dX12_wire_228 : decode cX12_wire 228 = .ok (.if_icmp .ge 42, 3) := by decide +kernel
theorem dX12_wire_231 : decode cX12_wire 231 = .ok (.iload 8, 2) := by decide +kernel
theorem dX12_wire_233 : decode cX12_wire 233 = .ok (.iload_n 1, 1) := by decide +kernel
theorem dX12_wire_234 : decode cX12_wire 234 = .ok (.bipush 20, 2) := by decide +kernel
theorem dX12_wire_236 : decode cX12_wire 236 = .ok (.isub, 1) := by decide +kernel
theorem dX12_wire_237 : decode cX12_wire 237 = .ok (.iload 9, 2) := by decide +kernel
theorem dX12_wire_239 : decode cX12_wire 239 = .ok (.iadd, 1) := by decide +kernel
theorem dX12_wire_240 : decode cX12_wire 240 = .ok (.bipush 6, 2) := by decide +kernel
theorem dX12_wire_242 : decode cX12_wire 242 = .ok (.isub, 1) := by decide +kernel
theorem dX12_wire_243 : decode cX12_wire 243 = .ok (.invokestatic 165, 3) := by decide +kernel
theorem dX12_wire_246 : decode cX12_wire 246 = .ok (.iload_n 2, 1) := by decide +kernel
theorem dX12_wire_247 : decode cX12_wire 247 = .ok (.if_icmp .gt 13, 3) := by decide +kernel
theorem dX12_wire_250 : decode cX12_wire 250 = .ok (.aload_n 0, 1) := by decide +kernel
theorem dX12_wire_251 : decode cX12_wire 251 = .ok (.getfield 74, 3) := by decide +kernel
theorem dX12_wire_254 : decode cX12_wire 254 = .ok (.iload 9, 2) := by decide +kernel
theorem dX12_wire_256 : decode cX12_wire 256 = .ok (.iaload, 1) := by decide +kernel
theorem dX12_wire_257 : decode cX12_wire 257 = .ok (.goto 4, 3) := by decide +kernel
theorem dX12_wire_260 : decode cX12_wire 260 = .ok (.iconst 0, 1) := by decide +kernel
theorem dX12_wire_261 : decode cX12_wire 261 = .ok (.iadd, 1) := by decide +kernel
theorem dX12_wire_262 : decode cX12_wire 262 = .ok (.istore 8, 2) := by decide +kernel
theorem dX12_wire_264 : decode cX12_wire 264 = .ok (.iinc 9 1, 3) := by decide +kernel
theorem dX12_wire_267 : decode cX12_wire 267 = .ok (.goto (-43), 3) := by decide +kernel
theorem dX12_wire_270 : decode cX12_wire 270 = .ok (.iload 8, 2) := by decide +kernel
theorem dX12_wire_272 : decode cX12_wire 272 = .ok (.istore 9, 2) := by decide +kernel
theorem dX12_wire_274 : decode cX12_wire 274 = .ok (.iload 7, 2) := by decide +kernel
theorem dX12_wire_276 : decode cX12_wire 276 = .ok (.istore 10, 2) := by decide +kernel
theorem dX12_wire_278 : decode cX12_wire 278 = .ok (.iload 10, 2) := by decide +kernel
theorem dX12_wire_280 : decode cX12_wire 280 = .ok (.ifCond .le 21, 3) := by decide +kernel
theorem dX12_wire_283 : decode cX12_wire 283 = .ok (.iload 9, 2) := by decide +kernel
theorem dX12_wire_285 : decode cX12_wire 285 = .ok (.iload 10, 2) := by decide +kernel
theorem dX12_wire_287 : decode cX12_wire 287 = .ok (.irem, 1) := by decide +kernel
theorem dX12_wire_288 : decode cX12_wire 288 = .ok (.istore 11, 2) := by decide +kernel
theorem dX12_wire_290 : decode cX12_wire 290 = .ok (.iload 10, 2) := by decide +kernel
theorem dX12_wire_292 : decode cX12_wire 292 = .ok (.istore 9, 2) := by decide +kernel
theorem dX12_wire_294 : decode cX12_wire 294 = .ok (.iload 11, 2) := by decide +kernel
theorem dX12_wire_296 : decode cX12_wire 296 = .ok (.istore 10, 2) := by decide +kernel
theorem dX12_wire_298 : decode cX12_wire 298 = .ok (.goto (-20), 3) := by decide +kernel
theorem dX12_wire_301 : decode cX12_wire 301 = .ok (.iload 6, 2) := by decide +kernel
theorem dX12_wire_303 : decode cX12_wire 303 = .ok (.ifCond .ne 8, 3) := by decide +kernel
theorem dX12_wire_306 : decode cX12_wire 306 = .ok (.iload 8, 2) := by decide +kernel
theorem dX12_wire_308 : decode cX12_wire 308 = .ok (.goto 5, 3) := by decide +kernel
theorem dX12_wire_311 : decode cX12_wire 311 = .ok (.iload 7, 2) := by decide +kernel
theorem dX12_wire_313 : decode cX12_wire 313 = .ok (.iload 9, 2) := by decide +kernel
theorem dX12_wire_315 : decode cX12_wire 315 = .ok (.idiv, 1) := by decide +kernel
theorem dX12_wire_316 : decode cX12_wire 316 = .ok (.ireturn, 1) := by decide +kernel
theorem dX12_most_0 : decode cX12_most 0 = .ok (.iload_n 1, 1) := by decide +kernel
theorem dX12_most_1 : decode cX12_most 1 = .ok (.iconst 0, 1) := by decide +kernel
theorem dX12_most_2 : decode cX12_most 2 = .ok (.iconst 1, 1) := by decide +kernel
theorem dX12_most_3 : decode cX12_most 3 = .ok (.invokestatic 87, 3) := by decide +kernel
theorem dX12_most_6 : decode cX12_most 6 = .ok (.ifCond .ne 5, 3) := by decide +kernel
theorem dX12_most_9 : decode cX12_most 9 = .ok (.iconst (-1), 1) := by decide +kernel
theorem dX12_most_10 : decode cX12_most 10 = .ok (.ireturn, 1) := by decide +kernel
theorem dX12_most_11 : decode cX12_most 11 = .ok (.aload_n 0, 1) := by decide +kernel
theorem dX12_most_12 : decode cX12_most 12 = .ok (.getfield 17, 3) := by decide +kernel
theorem dX12_most_15 : decode cX12_most 15 = .ok (.ifCond .ne 6, 3) := by decide +kernel
theorem dX12_most_18 : decode cX12_most 18 = .ok (.bipush (-4), 2) := by decide +kernel
theorem dX12_most_20 : decode cX12_most 20 = .ok (.ireturn, 1) := by decide +kernel
theorem dX12_most_21 : decode cX12_most 21 = .ok (.iconst 0, 1) := by decide +kernel
theorem dX12_most_22 : decode cX12_most 22 = .ok (.istore_n 2, 1) := by decide +kernel
theorem dX12_most_23 : decode cX12_most 23 = .ok (.iload_n 2, 1) := by decide +kernel
theorem dX12_most_24 : decode cX12_most 24 = .ok (.iconst 5, 1) := by decide +kernel
theorem dX12_most_25 : decode cX12_most 25 = .ok (.if_icmp .ge 16, 3) := by decide +kernel
theorem dX12_most_28 : decode cX12_most 28 = .ok (.aload_n 0, 1) := by decide +kernel
theorem dX12_most_29 : decode cX12_most 29 = .ok (.getfield 77, 3) := by decide +kernel
theorem dX12_most_32 : decode cX12_most 32 = .ok (.iload_n 2, 1) := by decide +kernel
theorem dX12_most_33 : decode cX12_most 33 = .ok (.iconst 0, 1) := by decide +kernel
theorem dX12_most_34 : decode cX12_most 34 = .ok (.iastore, 1) := by decide +kernel
theorem dX12_most_35 : decode cX12_most 35 = .ok (.iinc 2 1, 3) := by decide +kernel
theorem dX12_most_38 : decode cX12_most 38 = .ok (.goto (-15), 3) := by decide +kernel
theorem dX12_most_41 : decode cX12_most 41 = .ok (.aload_n 0, 1) := by decide +kernel
theorem dX12_most_42 : decode cX12_most 42 = .ok (.invokevirtual 196, 3) := by decide +kernel
theorem dX12_most_45 : decode cX12_most 45 = .ok (.iconst 0, 1) := by decide +kernel
theorem dX12_most_46 : decode cX12_most 46 = .ok (.istore_n 2, 1) := by decide +kernel
theorem dX12_most_47 : decode cX12_most 47 = .ok (.iload_n 2, 1) := by decide +kernel
theorem dX12_most_48 : decode cX12_most 48 = .ok (.bipush 30, 2) := by decide +kernel
theorem dX12_most_50 : decode cX12_most 50 = .ok (.if_icmp .gt 59, 3) := by decide +kernel
theorem dX12_most_53 : decode cX12_most 53 = .ok (.aload_n 0, 1) := by decide +kernel
theorem dX12_most_54 : decode cX12_most 54 = .ok (.iload_n 2, 1) := by decide +kernel
theorem dX12_most_55 : decode cX12_most 55 = .ok (.invokevirtual 199, 3) := by decide +kernel
theorem dX12_most_58 : decode cX12_most 58 = .ok (.aload_n 0, 1) := by decide +kernel
theorem dX12_most_59 : decode cX12_most 59 = .ok (.invokevirtual 203, 3) := by decide +kernel
theorem dX12_most_62 : decode cX12_most 62 = .ok (.iconst 0, 1) := by decide +kernel
theorem dX12_most_63 : decode cX12_most 63 = .ok (.istore_n 3, 1) := by decide +kernel
theorem dX12_most_64 : decode cX12_most 64 = .ok (.iload_n 3, 1) := by decide +kernel
theorem dX12_most_65 : decode cX12_most 65 = .ok (.aload_n 0, 1) := by decide +kernel
theorem dX12_most_66 : decode cX12_most 66 = .ok (.getfield 17, 3) := by decide +kernel
theorem dX12_most_69 : decode cX12_most 69 = .ok (.if_icmp .ge 34, 3) := by decide +kernel
theorem dX12_most_72 : decode cX12_most 72 = .ok (.aload_n 0, 1) := by decide +kernel
theorem dX12_most_73 : decode cX12_most 73 = .ok (.getfield 77, 3) := by decide +kernel
theorem dX12_most_76 : decode cX12_most 76 = .ok (.iload_n 3, 1) := by decide +kernel
theorem dX12_most_77 : decode cX12_most 77 = .ok (.dup2, 1) := by decide +kernel
theorem dX12_most_78 : decode cX12_most 78 = .ok (.iaload, 1) := by decide +kernel
theorem dX12_most_79 : decode cX12_most 79 = .ok (.aload_n 0, 1) := by decide +kernel
theorem dX12_most_80 : decode cX12_most 80 = .ok (.getfield 182, 3) := by decide +kernel
theorem dX12_most_83 : decode cX12_most 83 = .ok (.iload_n 3, 1) := by decide +kernel
theorem dX12_most_84 : decode cX12_most 84 = .ok (.invokestatic 185, 3) := by decide +kernel
theorem dX12_most_87 : decode cX12_most 87 = .ok (.ifCond .eq 7, 3) := by decide +kernel
end
section
theorem dX12_most_90 : decode cX12_most 90 = .ok (.iconst 1, 1) := by decide +kernel
theorem dX12_most_91 : decode cX12_most 91 = .ok (.goto 4, 3) := by decide +kernel
theorem dX12_most_94 : decode cX12_most 94 = .ok (.iconst 0, 1) := by decide +kernel
theorem dX12_most_95 : decode cX12_most 95 = .ok (.iadd, 1) := by decide +kernel
theorem dX12_most_96 : decode cX12_most 96 = .ok (.iastore, 1) := by decide +kernel
theorem dX12_most_97 : decode cX12_most 97 = .ok (.iinc 3 1, 3) := by decide +kernel
theorem dX12_most_100 : decode cX12_most 100 = .ok (.goto (-36), 3) := by decide +kernel
theorem dX12_most_103 : decode cX12_most 103 = .ok (.iinc 2 1, 3) := by decide +kernel
theorem dX12_most_106 : decode cX12_most 106 = .ok (.goto (-59), 3) := by decide +kernel
theorem dX12_most_109 : decode cX12_most 109 = .ok (.iconst 0, 1) := by decide +kernel
theorem dX12_most_110 : decode cX12_most 110 = .ok (.istore_n 2, 1) := by decide +kernel
theorem dX12_most_111 : decode cX12_most 111 = .ok (.iconst 1, 1) := by decide +kernel
theorem dX12_most_112 : decode cX12_most 112 = .ok (.istore_n 3, 1) := by decide +kernel
theorem dX12_most_113 : decode cX12_most 113 = .ok (.iload_n 3, 1) := by decide +kernel
theorem dX12_most_114 : decode cX12_most 114 = .ok (.aload_n 0, 1) := by decide +kernel
theorem dX12_most_115 : decode cX12_most 115 = .ok (.getfield 17, 3) := by decide +kernel
theorem dX12_most_118 : decode cX12_most 118 = .ok (.if_icmp .ge 30, 3) := by decide +kernel
theorem dX12_most_121 : decode cX12_most 121 = .ok (.aload_n 0, 1) := by decide +kernel
theorem dX12_most_122 : decode cX12_most 122 = .ok (.getfield 77, 3) := by decide +kernel
theorem dX12_most_125 : decode cX12_most 125 = .ok (.iload_n 3, 1) := by decide +kernel
theorem dX12_most_126 : decode cX12_most 126 = .ok (.iaload, 1) := by decide +kernel
theorem dX12_most_127 : decode cX12_most 127 = .ok (.aload_n 0, 1) := by decide +kernel
theorem dX12_most_128 : decode cX12_most 128 = .ok (.getfield 77, 3) := by decide +kernel
theorem dX12_most_131 : decode cX12_most 131 = .ok (.iload_n 2, 1) := by decide +kernel
theorem dX12_most_132 : decode cX12_most 132 = .ok (.iaload, 1) := by decide +kernel
theorem dX12_most_133 : decode cX12_most 133 = .ok (.if_icmp .le 7, 3) := by decide +kernel
theorem dX12_most_136 : decode cX12_most 136 = .ok (.iload_n 3, 1) := by decide +kernel
theorem dX12_most_137 : decode cX12_most 137 = .ok (.goto 4, 3) := by decide +kernel
theorem dX12_most_140 : decode cX12_most 140 = .ok (.iload_n 2, 1) := by decide +kernel
theorem dX12_most_141 : decode cX12_most 141 = .ok (.istore_n 2, 1) := by decide +kernel
theorem dX12_most_142 : decode cX12_most 142 = .ok (.iinc 3 1, 3) := by decide +kernel
theorem dX12_most_145 : decode cX12_most 145 = .ok (.goto (-32), 3) := by decide +kernel
theorem dX12_most_148 : decode cX12_most 148 = .ok (.iload_n 1, 1) := by decide +kernel
theorem dX12_most_149 : decode cX12_most 149 = .ok (.ifCond .ne 7, 3) := by decide +kernel
theorem dX12_most_152 : decode cX12_most 152 = .ok (.iload_n 2, 1) := by decide +kernel
theorem dX12_most_153 : decode cX12_most 153 = .ok (.goto 9, 3) := by decide +kernel
theorem dX12_most_156 : decode cX12_most 156 = .ok (.aload_n 0, 1) := by decide +kernel
theorem dX12_most_157 : decode cX12_most 157 = .ok (.getfield 77, 3) := by decide +kernel
theorem dX12_most_160 : decode cX12_most 160 = .ok (.iload_n 2, 1) := by decide +kernel
theorem dX12_most_161 : decode cX12_most 161 = .ok (.iaload, 1) := by decide +kernel
theorem dX12_most_162 : decode cX12_most 162 = .ok (.ireturn, 1) := by decide +kernel
theorem dX12_patches_0 : decode cX12_patches 0 = .ok (.iload_n 1, 1) := by decide +kernel
theorem dX12_patches_1 : decode cX12_patches 1 = .ok (.invokestatic 206, 3) := by decide +kernel
theorem dX12_patches_4 : decode cX12_patches 4 = .ok (.ifCond .ne 5, 3) := by decide +kernel
theorem dX12_patches_7 : decode cX12_patches 7 = .ok (.iconst (-1), 1) := by decide +kernel
theorem dX12_patches_8 : decode cX12_patches 8 = .ok (.ireturn, 1) := by decide +kernel
theorem dX12_patches_9 : decode cX12_patches 9 = .ok (.aload_n 0, 1) := by decide +kernel
theorem dX12_patches_10 : decode cX12_patches 10 = .ok (.iload_n 1, 1) := by decide +kernel
theorem dX12_patches_11 : decode cX12_patches 11 = .ok (.invokevirtual 209, 3) := by decide +kernel
theorem dX12_patches_14 : decode cX12_patches 14 = .ok (.iconst 0, 1) := by decide +kernel
theorem dX12_patches_15 : decode cX12_patches 15 = .ok (.istore_n 2, 1) := by decide +kernel
theorem dX12_patches_16 : decode cX12_patches 16 = .ok (.iconst 0, 1) := by decide +kernel
theorem dX12_patches_17 : decode cX12_patches 17 = .ok (.istore_n 3, 1) := by decide +kernel
theorem dX12_patches_18 : decode cX12_patches 18 = .ok (.iload_n 3, 1) := by decide +kernel
theorem dX12_patches_19 : decode cX12_patches 19 = .ok (.aload_n 0, 1) := by decide +kernel
theorem dX12_patches_20 : decode cX12_patches 20 = .ok (.getfield 7, 3) := by decide +kernel
theorem dX12_patches_23 : decode cX12_patches 23 = .ok (.if_icmp .ge 36, 3) := by decide +kernel
theorem dX12_patches_26 : decode cX12_patches 26 = .ok (.iload_n 2, 1) := by decide +kernel
theorem dX12_patches_27 : decode cX12_patches 27 = .ok (.aload_n 0, 1) := by decide +kernel
theorem dX12_patches_28 : decode cX12_patches 28 = .ok (.getfield 62, 3) := by decide +kernel
theorem dX12_patches_31 : decode cX12_patches 31 = .ok (.iload_n 3, 1) := by decide +kernel
theorem dX12_patches_32 : decode cX12_patches 32 = .ok (.iaload, 1) := by decide +kernel
theorem dX12_patches_33 : decode cX12_patches 33 = .ok (.aload_n 0, 1) := by decide +kernel
theorem dX12_patches_34 : decode cX12_patches 34 = .ok (.getfield 13, 3) := by decide +kernel
theorem dX12_patches_37 : decode cX12_patches 37 = .ok (.iconst 4, 1) := by decide +kernel
theorem dX12_patches_38 : decode cX12_patches 38 = .ok (.iload_n 3, 1) := by decide +kernel
theorem dX12_patches_39 : decode cX12_patches 39 = .ok (.imul, 1) := by decide +kernel
theorem dX12_patches_40 : decode cX12_patches 40 = .ok (.iconst 3, 1) := by decide +kernel
theorem dX12_patches_41 : decode cX12_patches 41 = .ok (.iadd, 1) := by decide +kernel
theorem dX12_patches_42 : decode cX12_patches 42 = .ok (.iaload, 1) := by decide +kernel
theorem dX12_patches_43 : decode cX12_patches 43 = .ok (.if_icmp .ne 7, 3) := by decide +kernel
theorem dX12_patches_46 : decode cX12_patches 46 = .ok (.iconst 1, 1) := by decide +kernel
theorem dX12_patches_47 : decode cX12_patches 47 = .ok (.goto 4, 3) := by decide +kernel
theorem dX12_patches_50 : decode cX12_patches 50 = .ok (.iconst 0, 1) := by decide +kernel
theorem dX12_patches_51 : decode cX12_patches 51 = .ok (.iadd, 1) := by decide +kernel
theorem dX12_patches_52 : decode cX12_patches 52 = .ok (.istore_n 2, 1) := by decide +kernel
theorem dX12_patches_53 : decode cX12_patches 53 = .ok (.iinc 3 1, 3) := by decide +kernel
theorem dX12_patches_56 : decode cX12_patches 56 = .ok (.goto (-38), 3) := by decide +kernel
theorem dX12_patches_59 : decode cX12_patches 59 = .ok (.iload_n 2, 1) := by decide +kernel
theorem dX12_patches_60 : decode cX12_patches 60 = .ok (.ireturn, 1) := by decide +kernel
theorem dX12_night_0 : decode cX12_night 0 = .ok (.iload_n 1, 1) := by decide +kernel
theorem dX12_night_1 : decode cX12_night 1 = .ok (.iconst 0, 1) := by decide +kernel
theorem dX12_night_2 : decode cX12_night 2 = .ok (.sipush 9999, 3) := by decide +kernel
theorem dX12_night_5 : decode cX12_night 5 = .ok (.invokestatic 87, 3) := by decide +kernel
theorem dX12_night_8 : decode cX12_night 8 = .ok (.ifCond .eq 12, 3) := by decide +kernel
theorem dX12_night_11 : decode cX12_night 11 = .ok (.iload_n 2, 1) := by decide +kernel
theorem dX12_night_12 : decode cX12_night 12 = .ok (.iconst 0, 1) := by decide +kernel
theorem dX12_night_13 : decode cX12_night 13 = .ok (.iconst 1, 1) := by decide +kernel
theorem dX12_night_14 : decode cX12_night 14 = .ok (.invokestatic 87, 3) := by decide +kernel
theorem dX12_night_17 : decode cX12_night 17 = .ok (.ifCond .ne 5, 3) := by decide +kernel
theorem dX12_night_20 : decode cX12_night 20 = .ok (.iconst (-1), 1) := by decide +kernel
theorem dX12_night_21 : decode cX12_night 21 = .ok (.ireturn, 1) := by decide +kernel
theorem dX12_night_22 : decode cX12_night 22 = .ok (.iconst 0, 1) := by decide +kernel
theorem dX12_night_23 : decode cX12_night 23 = .ok (.istore_n 3, 1) := by decide +kernel
theorem dX12_night_24 : decode cX12_night 24 = .ok (.aload_n 0, 1) := by decide +kernel
theorem dX12_night_25 : decode cX12_night 25 = .ok (.invokevirtual 196, 3) := by decide +kernel
theorem dX12_night_28 : decode cX12_night 28 = .ok (.iconst 0, 1) := by decide +kernel
theorem dX12_night_29 : decode cX12_night 29 = .ok (.istore 4, 2) := by decide +kernel
theorem dX12_night_31 : decode cX12_night 31 = .ok (.iload 4, 2) := by decide +kernel
theorem dX12_night_33 : decode cX12_night 33 = .ok (.bipush 30, 2) := by decide +kernel
theorem dX12_night_35 : decode cX12_night 35 = .ok (.if_icmp .gt 79, 3) := by decide +kernel
theorem dX12_night_38 : decode cX12_night 38 = .ok (.ldc2_w 239, 3) := by decide +kernel
theorem dX12_night_41 : decode cX12_night 41 = .ok (.iload_n 1, 1) := by decide +kernel
theorem dX12_night_42 : decode cX12_night 42 = .ok (.i2l, 1) := by decide +kernel
theorem dX12_night_43 : decode cX12_night 43 = .ok (.lmul, 1) := by decide +kernel
theorem dX12_night_44 : decode cX12_night 44 = .ok (.ldc2_w 241, 3) := by decide +kernel
theorem dX12_night_47 : decode cX12_night 47 = .ok (.iload 4, 2) := by decide +kernel
theorem dX12_night_49 : decode cX12_night 49 = .ok (.i2l, 1) := by decide +kernel
theorem dX12_night_50 : decode cX12_night 50 = .ok (.lmul, 1) := by decide +kernel
theorem dX12_night_51 : decode cX12_night 51 = .ok (.ladd, 1) := by decide +kernel
theorem dX12_night_52 : decode cX12_night 52 = .ok (.lconst 1, 1) := by decide +kernel
theorem dX12_night_53 : decode cX12_night 53 = .ok (.ladd, 1) := by decide +kernel
theorem dX12_night_54 : decode cX12_night 54 = .ok (.lstore 5, 2) := by decide +kernel
theorem dX12_night_56 : decode cX12_night 56 = .ok (.lload 5, 2) := by decide +kernel
theorem dX12_night_58 : decode cX12_night 58 = .ok (.lload 5, 2) := by decide +kernel
theorem dX12_night_60 : decode cX12_night 60 = .ok (.lmul, 1) := by decide +kernel
theorem dX12_night_61 : decode cX12_night 61 = .ok (.ldc2_w 243, 3) := by decide +kernel
theorem dX12_night_64 : decode cX12_night 64 = .ok (.lrem, 1) := by decide +kernel
theorem dX12_night_65 : decode cX12_night 65 = .ok (.l2i, 1) := by decide +kernel
theorem dX12_night_66 : decode cX12_night 66 = .ok (.istore 7, 2) := by decide +kernel
theorem dX12_night_68 : decode cX12_night 68 = .ok (.aload_n 0, 1) := by decide +kernel
theorem dX12_night_69 : decode cX12_night 69 = .ok (.invokevirtual 175, 3) := by decide +kernel
theorem dX12_night_72 : decode cX12_night 72 = .ok (.aload_n 0, 1) := by decide +kernel
theorem dX12_night_73 : decode cX12_night 73 = .ok (.iload 7, 2) := by decide +kernel
theorem dX12_night_75 : decode cX12_night 75 = .ok (.aload_n 0, 1) := by decide +kernel
theorem dX12_night_76 : decode cX12_night 76 = .ok (.getfield 7, 3) := by decide +kernel
theorem dX12_night_79 : decode cX12_night 79 = .ok (.irem, 1) := by decide +kernel
theorem dX12_night_80 : decode cX12_night 80 = .ok (.iload 7, 2) := by decide +kernel
theorem dX12_night_82 : decode cX12_night 82 = .ok (.bipush 8, 2) := by decide +kernel
theorem dX12_night_84 : decode cX12_night 84 = .ok (.idiv, 1) := by decide +kernel
theorem dX12_night_85 : decode cX12_night 85 = .ok (.bipush 41, 2) := by decide +kernel
theorem dX12_night_87 : decode cX12_night 87 = .ok (.irem, 1) := by decide +kernel
theorem dX12_night_88 : decode cX12_night 88 = .ok (.bipush 20, 2) := by decide +kernel
theorem dX12_night_90 : decode cX12_night 90 = .ok (.isub, 1) := by decide +kernel
theorem dX12_night_91 : decode cX12_night 91 = .ok (.invokevirtual 178, 3) := by decide +kernel
theorem dX12_night_94 : decode cX12_night 94 = .ok (.aload_n 0, 1) := by decide +kernel
theorem dX12_night_95 : decode cX12_night 95 = .ok (.invokevirtual 203, 3) := by decide +kernel
theorem dX12_night_98 : decode cX12_night 98 = .ok (.iload_n 3, 1) := by decide +kernel
theorem dX12_night_99 : decode cX12_night 99 = .ok (.aload_n 0, 1) := by decide +kernel
theorem dX12_night_100 : decode cX12_night 100 = .ok (.getfield 182, 3) := by decide +kernel
theorem dX12_night_103 : decode cX12_night 103 = .ok (.invokestatic 212, 3) := by decide +kernel
theorem dX12_night_106 : decode cX12_night 106 = .ok (.iadd, 1) := by decide +kernel
theorem dX12_night_107 : decode cX12_night 107 = .ok (.istore_n 3, 1) := by decide +kernel
theorem dX12_night_108 : decode cX12_night 108 = .ok (.iinc 4 1, 3) := by decide +kernel
theorem dX12_night_111 : decode cX12_night 111 = .ok (.goto (-80), 3) := by decide +kernel
theorem dX12_night_114 : decode cX12_night 114 = .ok (.iload_n 2, 1) := by decide +kernel
theorem dX12_night_115 : decode cX12_night 115 = .ok (.ifCond .ne 7, 3) := by decide +kernel
theorem dX12_night_118 : decode cX12_night 118 = .ok (.iload_n 3, 1) := by decide +kernel
theorem dX12_night_119 : decode cX12_night 119 = .ok (.goto 12, 3) := by decide +kernel
theorem dX12_night_122 : decode cX12_night 122 = .ok (.aload_n 0, 1) := by decide +kernel
theorem dX12_night_123 : decode cX12_night 123 = .ok (.getfield 62, 3) := by decide +kernel
theorem dX12_night_126 : decode cX12_night 126 = .ok (.iconst 0, 1) := by decide +kernel
theorem dX12_night_127 : decode cX12_night 127 = .ok (.iaload, 1) := by decide +kernel
theorem dX12_night_128 : decode cX12_night 128 = .ok (.bipush 40, 2) := by decide +kernel
theorem dX12_night_130 : decode cX12_night 130 = .ok (.iadd, 1) := by decide +kernel
theorem dX12_night_131 : decode cX12_night 131 = .ok (.ireturn, 1) := by decide +kernel
theorem dX12_keep_0 : decode cX12_keep 0 = .ok (.aload_n 0, 1) := by decide +kernel
theorem dX12_keep_1 : decode cX12_keep 1 = .ok (.getfield 153, 3) := by decide +kernel
theorem dX12_keep_4 : decode cX12_keep 4 = .ok (.iconst 2, 1) := by decide +kernel
theorem dX12_keep_5 : decode cX12_keep 5 = .ok (.if_icmp .ne 6, 3) := by decide +kernel
theorem dX12_keep_8 : decode cX12_keep 8 = .ok (.bipush (-3), 2) := by decide +kernel
theorem dX12_keep_10 : decode cX12_keep 10 = .ok (.ireturn, 1) := by decide +kernel
theorem dX12_keep_11 : decode cX12_keep 11 = .ok (.iconst 0, 1) := by decide +kernel
theorem dX12_keep_12 : decode cX12_keep 12 = .ok (.istore_n 1, 1) := by decide +kernel
theorem dX12_keep_13 : decode cX12_keep 13 = .ok (.iload_n 1, 1) := by decide +kernel
theorem dX12_keep_14 : decode cX12_keep 14 = .ok (.bipush 25, 2) := by decide +kernel
theorem dX12_keep_16 : decode cX12_keep 16 = .ok (.if_icmp .ge 29, 3) := by decide +kernel
theorem dX12_keep_19 : decode cX12_keep 19 = .ok (.aload_n 0, 1) := by decide +kernel
theorem dX12_keep_20 : decode cX12_keep 20 = .ok (.getfield 38, 3) := by decide +kernel
theorem dX12_keep_23 : decode cX12_keep 23 = .ok (.bipush 25, 2) := by decide +kernel
theorem dX12_keep_25 : decode cX12_keep 25 = .ok (.aload_n 0, 1) := by decide +kernel
theorem dX12_keep_26 : decode cX12_keep 26 = .ok (.getfield 153, 3) := by decide +kernel
theorem dX12_keep_29 : decode cX12_keep 29 = .ok (.imul, 1) := by decide +kernel
theorem dX12_keep_30 : decode cX12_keep 30 = .ok (.iload_n 1, 1) := by decide +kernel
theorem dX12_keep_31 : decode cX12_keep 31 = .ok (.iadd, 1) := by decide +kernel
theorem dX12_keep_32 : decode cX12_keep 32 = .ok (.aload_n 0, 1) := by decide +kernel
theorem dX12_keep_33 : decode cX12_keep 33 = .ok (.getfield 32, 3) := by decide +kernel
theorem dX12_keep_36 : decode cX12_keep 36 = .ok (.iload_n 1, 1) := by decide +kernel
theorem dX12_keep_37 : decode cX12_keep 37 = .ok (.iaload, 1) := by decide +kernel
theorem dX12_keep_38 : decode cX12_keep 38 = .ok (.iastore, 1) := by decide +kernel
theorem dX12_keep_39 : decode cX12_keep 39 = .ok (.iinc 1 1, 3) := by decide +kernel
theorem dX12_keep_42 : decode cX12_keep 42 = .ok (.goto (-29), 3) := by decide +kernel
theorem dX12_keep_45 : decode cX12_keep 45 = .ok (.aload_n 0, 1) := by decide +kernel
theorem dX12_keep_46 : decode cX12_keep 46 = .ok (.dup, 1) := by decide +kernel
theorem dX12_keep_47 : decode cX12_keep 47 = .ok (.getfield 153, 3) := by decide +kernel
theorem dX12_keep_50 : decode cX12_keep 50 = .ok (.iconst 1, 1) := by decide +kernel
theorem dX12_keep_51 : decode cX12_keep 51 = .ok (.iadd, 1) := by decide +kernel
theorem dX12_keep_52 : decode cX12_keep 52 = .ok (.putfield 153, 3) := by decide +kernel
theorem dX12_keep_55 : decode cX12_keep 55 = .ok (.aload_n 0, 1) := by decide +kernel
theorem dX12_keep_56 : decode cX12_keep 56 = .ok (.getfield 153, 3) := by decide +kernel
theorem dX12_keep_59 : decode cX12_keep 59 = .ok (.ireturn, 1) := by decide +kernel
theorem dX12_back_0 : decode cX12_back 0 = .ok (.aload_n 0, 1) := by decide +kernel
theorem dX12_back_1 : decode cX12_back 1 = .ok (.getfield 153, 3) := by decide +kernel
theorem dX12_back_4 : decode cX12_back 4 = .ok (.ifCond .ne 6, 3) := by decide +kernel
theorem dX12_back_7 : decode cX12_back 7 = .ok (.bipush (-2), 2) := by decide +kernel
theorem dX12_back_9 : decode cX12_back 9 = .ok (.ireturn, 1) := by decide +kernel
theorem dX12_back_10 : decode cX12_back 10 = .ok (.aload_n 0, 1) := by decide +kernel
theorem dX12_back_11 : decode cX12_back 11 = .ok (.dup, 1) := by decide +kernel
theorem dX12_back_12 : decode cX12_back 12 = .ok (.getfield 153, 3) := by decide +kernel
theorem dX12_back_15 : decode cX12_back 15 = .ok (.iconst 1, 1) := by decide +kernel
theorem dX12_back_16 : decode cX12_back 16 = .ok (.isub, 1) := by decide +kernel
theorem dX12_back_17 : decode cX12_back 17 = .ok (.putfield 153, 3) := by decide +kernel
theorem dX12_back_20 : decode cX12_back 20 = .ok (.iconst 0, 1) := by decide +kernel
theorem dX12_back_21 : decode cX12_back 21 = .ok (.istore_n 1, 1) := by decide +kernel
theorem dX12_back_22 : decode cX12_back 22 = .ok (.iload_n 1, 1) := by decide +kernel
theorem dX12_back_23 : decode cX12_back 23 = .ok (.bipush 25, 2) := by decide +kernel
theorem dX12_back_25 : decode cX12_back 25 = .ok (.if_icmp .ge 29, 3) := by decide +kernel
theorem dX12_back_28 : decode cX12_back 28 = .ok (.aload_n 0, 1) := by decide +kernel
theorem dX12_back_29 : decode cX12_back 29 = .ok (.getfield 32, 3) := by decide +kernel
theorem dX12_back_32 : decode cX12_back 32 = .ok (.iload_n 1, 1) := by decide +kernel
theorem dX12_back_33 : decode cX12_back 33 = .ok (.aload_n 0, 1) := by decide +kernel
theorem dX12_back_34 : decode cX12_back 34 = .ok (.getfield 38, 3) := by decide +kernel
theorem dX12_back_37 : decode cX12_back 37 = .ok (.bipush 25, 2) := by decide +kernel
theorem dX12_back_39 : decode cX12_back 39 = .ok (.aload_n 0, 1) := by decide +kernel
theorem dX12_back_40 : decode cX12_back 40 = .ok (.getfield 153, 3) := by decide +kernel
theorem dX12_back_43 : decode cX12_back 43 = .ok (.imul, 1) := by decide +kernel
theorem dX12_back_44 : decode cX12_back 44 = .ok (.iload_n 1, 1) := by decide +kernel
theorem dX12_back_45 : decode cX12_back 45 = .ok (.iadd, 1) := by decide +kernel
theorem dX12_back_46 : decode cX12_back 46 = .ok (.iaload, 1) := by decide +kernel
theorem dX12_back_47 : decode cX12_back 47 = .ok (.iastore, 1) := by decide +kernel
theorem dX12_back_48 : decode cX12_back 48 = .ok (.iinc 1 1, 3) := by decide +kernel
theorem dX12_back_51 : decode cX12_back 51 = .ok (.goto (-29), 3) := by decide +kernel
theorem dX12_back_54 : decode cX12_back 54 = .ok (.aload_n 0, 1) := by decide +kernel
theorem dX12_back_55 : decode cX12_back 55 = .ok (.iconst 0, 1) := by decide +kernel
theorem dX12_back_56 : decode cX12_back 56 = .ok (.putfield 150, 3) := by decide +kernel
theorem dX12_back_59 : decode cX12_back 59 = .ok (.aload_n 0, 1) := by decide +kernel
theorem dX12_back_60 : decode cX12_back 60 = .ok (.getfield 153, 3) := by decide +kernel
theorem dX12_back_63 : decode cX12_back 63 = .ok (.ireturn, 1) := by decide +kernel
theorem dX12_count_0 : decode cX12_count 0 = .ok (.iload_n 1, 1) := by decide +kernel
theorem dX12_count_1 : decode cX12_count 1 = .ok (.tableswitch 89 0 7 #[47, 52, 57, 62, 69, 74, 79, 84], 47) := by decide +kernel
theorem dX12_count_48 : decode cX12_count 48 = .ok (.aload_n 0, 1) := by decide +kernel
theorem dX12_count_49 : decode cX12_count 49 = .ok (.getfield 7, 3) := by decide +kernel
theorem dX12_count_52 : decode cX12_count 52 = .ok (.ireturn, 1) := by decide +kernel
theorem dX12_count_53 : decode cX12_count 53 = .ok (.aload_n 0, 1) := by decide +kernel
theorem dX12_count_54 : decode cX12_count 54 = .ok (.getfield 17, 3) := by decide +kernel
theorem dX12_count_57 : decode cX12_count 57 = .ok (.ireturn, 1) := by decide +kernel
theorem dX12_count_58 : decode cX12_count 58 = .ok (.aload_n 0, 1) := by decide +kernel
theorem dX12_count_59 : decode cX12_count 59 = .ok (.getfield 23, 3) := by decide +kernel
theorem dX12_count_62 : decode cX12_count 62 = .ok (.ireturn, 1) := by decide +kernel
theorem dX12_count_63 : decode cX12_count 63 = .ok (.aload_n 0, 1) := by decide +kernel
theorem dX12_count_64 : decode cX12_count 64 = .ok (.getfield 32, 3) := by decide +kernel
theorem dX12_count_67 : decode cX12_count 67 = .ok (.iconst 0, 1) := by decide +kernel
theorem dX12_count_68 : decode cX12_count 68 = .ok (.iaload, 1) := by decide +kernel
theorem dX12_count_69 : decode cX12_count 69 = .ok (.ireturn, 1) := by decide +kernel
theorem dX12_count_70 : decode cX12_count 70 = .ok (.aload_n 0, 1) := by decide +kernel
theorem dX12_count_71 : decode cX12_count 71 = .ok (.getfield 156, 3) := by decide +kernel
theorem dX12_count_74 : decode cX12_count 74 = .ok (.ireturn, 1) := by decide +kernel
theorem dX12_count_75 : decode cX12_count 75 = .ok (.aload_n 0, 1) := by decide +kernel
theorem dX12_count_76 : decode cX12_count 76 = .ok (.getfield 150, 3) := by decide +kernel
theorem dX12_count_79 : decode cX12_count 79 = .ok (.ireturn, 1) := by decide +kernel
theorem dX12_count_80 : decode cX12_count 80 = .ok (.aload_n 0, 1) := by decide +kernel
theorem dX12_count_81 : decode cX12_count 81 = .ok (.getfield 153, 3) := by decide +kernel
theorem dX12_count_84 : decode cX12_count 84 = .ok (.ireturn, 1) := by decide +kernel
theorem dX12_count_85 : decode cX12_count 85 = .ok (.aload_n 0, 1) := by decide +kernel
theorem dX12_count_86 : decode cX12_count 86 = .ok (.getfield 91, 3) := by decide +kernel
theorem dX12_count_89 : decode cX12_count 89 = .ok (.ireturn, 1) := by decide +kernel
theorem dX12_count_90 : decode cX12_count 90 = .ok (.iconst (-1), 1) := by decide +kernel
theorem dX12_count_91 : decode cX12_count 91 = .ok (.ireturn, 1) := by decide +kernel
theorem dJ6_bitCount_0f7a4_0 : decode cJ6_bitCount_0f7a4 0 = .ok (.iload_n 0, 1) := by decide +kernel
theorem dJ6_bitCount_0f7a4_1 : decode cJ6_bitCount_0f7a4 1 = .ok (.iload_n 0, 1) := by decide +kernel
theorem dJ6_bitCount_0f7a4_2 : decode cJ6_bitCount_0f7a4 2 = .ok (.iconst 1, 1) := by decide +kernel
theorem dJ6_bitCount_0f7a4_3 : decode cJ6_bitCount_0f7a4 3 = .ok (.iushr, 1) := by decide +kernel
theorem dJ6_bitCount_0f7a4_4 : decode cJ6_bitCount_0f7a4 4 = .ok (.ldc_w 265, 3) := by decide +kernel
theorem dJ6_bitCount_0f7a4_7 : decode cJ6_bitCount_0f7a4 7 = .ok (.iand, 1) := by decide +kernel
theorem dJ6_bitCount_0f7a4_8 : decode cJ6_bitCount_0f7a4 8 = .ok (.isub, 1) := by decide +kernel
theorem dJ6_bitCount_0f7a4_9 : decode cJ6_bitCount_0f7a4 9 = .ok (.istore_n 0, 1) := by decide +kernel
theorem dJ6_bitCount_0f7a4_10 : decode cJ6_bitCount_0f7a4 10 = .ok (.iload_n 0, 1) := by decide +kernel
theorem dJ6_bitCount_0f7a4_11 : decode cJ6_bitCount_0f7a4 11 = .ok (.ldc_w 266, 3) := by decide +kernel
theorem dJ6_bitCount_0f7a4_14 : decode cJ6_bitCount_0f7a4 14 = .ok (.iand, 1) := by decide +kernel
theorem dJ6_bitCount_0f7a4_15 : decode cJ6_bitCount_0f7a4 15 = .ok (.iload_n 0, 1) := by decide +kernel
theorem dJ6_bitCount_0f7a4_16 : decode cJ6_bitCount_0f7a4 16 = .ok (.iconst 2, 1) := by decide +kernel
theorem dJ6_bitCount_0f7a4_17 : decode cJ6_bitCount_0f7a4 17 = .ok (.iushr, 1) := by decide +kernel
theorem dJ6_bitCount_0f7a4_18 : decode cJ6_bitCount_0f7a4 18 = .ok (.ldc_w 266, 3) := by decide +kernel
theorem dJ6_bitCount_0f7a4_21 : decode cJ6_bitCount_0f7a4 21 = .ok (.iand, 1) := by decide +kernel
theorem dJ6_bitCount_0f7a4_22 : decode cJ6_bitCount_0f7a4 22 = .ok (.iadd, 1) := by decide +kernel
theorem dJ6_bitCount_0f7a4_23 : decode cJ6_bitCount_0f7a4 23 = .ok (.istore_n 0, 1) := by decide +kernel
theorem dJ6_bitCount_0f7a4_24 : decode cJ6_bitCount_0f7a4 24 = .ok (.iload_n 0, 1) := by decide +kernel
theorem dJ6_bitCount_0f7a4_25 : decode cJ6_bitCount_0f7a4 25 = .ok (.iload_n 0, 1) := by decide +kernel
theorem dJ6_bitCount_0f7a4_26 : decode cJ6_bitCount_0f7a4 26 = .ok (.iconst 4, 1) := by decide +kernel
theorem dJ6_bitCount_0f7a4_27 : decode cJ6_bitCount_0f7a4 27 = .ok (.iushr, 1) := by decide +kernel
theorem dJ6_bitCount_0f7a4_28 : decode cJ6_bitCount_0f7a4 28 = .ok (.iadd, 1) := by decide +kernel
theorem dJ6_bitCount_0f7a4_29 : decode cJ6_bitCount_0f7a4 29 = .ok (.ldc_w 267, 3) := by decide +kernel
theorem dJ6_bitCount_0f7a4_32 : decode cJ6_bitCount_0f7a4 32 = .ok (.iand, 1) := by decide +kernel
theorem dJ6_bitCount_0f7a4_33 : decode cJ6_bitCount_0f7a4 33 = .ok (.istore_n 0, 1) := by decide +kernel
theorem dJ6_bitCount_0f7a4_34 : decode cJ6_bitCount_0f7a4 34 = .ok (.iload_n 0, 1) := by decide +kernel
theorem dJ6_bitCount_0f7a4_35 : decode cJ6_bitCount_0f7a4 35 = .ok (.iload_n 0, 1) := by decide +kernel
theorem dJ6_bitCount_0f7a4_36 : decode cJ6_bitCount_0f7a4 36 = .ok (.bipush 8, 2) := by decide +kernel
theorem dJ6_bitCount_0f7a4_38 : decode cJ6_bitCount_0f7a4 38 = .ok (.iushr, 1) := by decide +kernel
theorem dJ6_bitCount_0f7a4_39 : decode cJ6_bitCount_0f7a4 39 = .ok (.iadd, 1) := by decide +kernel
theorem dJ6_bitCount_0f7a4_40 : decode cJ6_bitCount_0f7a4 40 = .ok (.istore_n 0, 1) := by decide +kernel
theorem dJ6_bitCount_0f7a4_41 : decode cJ6_bitCount_0f7a4 41 = .ok (.iload_n 0, 1) := by decide +kernel
theorem dJ6_bitCount_0f7a4_42 : decode cJ6_bitCount_0f7a4 42 = .ok (.iload_n 0, 1) := by decide +kernel
theorem dJ6_bitCount_0f7a4_43 : decode cJ6_bitCount_0f7a4 43 = .ok (.bipush 16, 2) := by decide +kernel
theorem dJ6_bitCount_0f7a4_45 : decode cJ6_bitCount_0f7a4 45 = .ok (.iushr, 1) := by decide +kernel
theorem dJ6_bitCount_0f7a4_46 : decode cJ6_bitCount_0f7a4 46 = .ok (.iadd, 1) := by decide +kernel
theorem dJ6_bitCount_0f7a4_47 : decode cJ6_bitCount_0f7a4 47 = .ok (.istore_n 0, 1) := by decide +kernel
theorem dJ6_bitCount_0f7a4_48 : decode cJ6_bitCount_0f7a4 48 = .ok (.iload_n 0, 1) := by decide +kernel
theorem dJ6_bitCount_0f7a4_49 : decode cJ6_bitCount_0f7a4 49 = .ok (.bipush 63, 2) := by decide +kernel
theorem dJ6_bitCount_0f7a4_51 : decode cJ6_bitCount_0f7a4 51 = .ok (.iand, 1) := by decide +kernel
theorem dJ6_bitCount_0f7a4_52 : decode cJ6_bitCount_0f7a4 52 = .ok (.ireturn, 1) := by decide +kernel
theorem dJ9_abs_0f7a4_0 : decode cJ9_abs_0f7a4 0 = .ok (.iload_n 0, 1) := by decide +kernel
theorem dJ9_abs_0f7a4_1 : decode cJ9_abs_0f7a4 1 = .ok (.ifCond .ge 8, 3) := by decide +kernel
theorem dJ9_abs_0f7a4_4 : decode cJ9_abs_0f7a4 4 = .ok (.iload_n 0, 1) := by decide +kernel
theorem dJ9_abs_0f7a4_5 : decode cJ9_abs_0f7a4 5 = .ok (.ineg, 1) := by decide +kernel
theorem dJ9_abs_0f7a4_6 : decode cJ9_abs_0f7a4 6 = .ok (.goto 4, 3) := by decide +kernel
theorem dJ9_abs_0f7a4_9 : decode cJ9_abs_0f7a4 9 = .ok (.iload_n 0, 1) := by decide +kernel
theorem dJ9_abs_0f7a4_10 : decode cJ9_abs_0f7a4 10 = .ok (.ireturn, 1) := by decide +kernel
theorem dJ9_max_7cf53_0 : decode cJ9_max_7cf53 0 = .ok (.iload_n 0, 1) := by decide +kernel
theorem dJ9_max_7cf53_1 : decode cJ9_max_7cf53 1 = .ok (.iload_n 1, 1) := by decide +kernel
theorem dJ9_max_7cf53_2 : decode cJ9_max_7cf53 2 = .ok (.if_icmp .lt 7, 3) := by decide +kernel
theorem dJ9_max_7cf53_5 : decode cJ9_max_7cf53 5 = .ok (.iload_n 0, 1) := by decide +kernel
theorem dJ9_max_7cf53_6 : decode cJ9_max_7cf53 6 = .ok (.goto 4, 3) := by decide +kernel
theorem dJ9_max_7cf53_9 : decode cJ9_max_7cf53 9 = .ok (.iload_n 1, 1) := by decide +kernel
theorem dJ9_max_7cf53_10 : decode cJ9_max_7cf53 10 = .ok (.ireturn, 1) := by decide +kernel
theorem dJ9_min_7cf53_0 : decode cJ9_min_7cf53 0 = .ok (.iload_n 0, 1) := by decide +kernel
theorem dJ9_min_7cf53_1 : decode cJ9_min_7cf53 1 = .ok (.iload_n 1, 1) := by decide +kernel
theorem dJ9_min_7cf53_2 : decode cJ9_min_7cf53 2 = .ok (.if_icmp .gt 7, 3) := by decide +kernel
theorem dJ9_min_7cf53_5 : decode cJ9_min_7cf53 5 = .ok (.iload_n 0, 1) := by decide +kernel
theorem dJ9_min_7cf53_6 : decode cJ9_min_7cf53 6 = .ok (.goto 4, 3) := by decide +kernel
theorem dJ9_min_7cf53_9 : decode cJ9_min_7cf53 9 = .ok (.iload_n 1, 1) := by decide +kernel
theorem dJ9_min_7cf53_10 : decode cJ9_min_7cf53 10 = .ok (.ireturn, 1) := by decide +kernel
theorem dJ0_length_8abf5_0 : decode cJ0_length_8abf5 0 = .ok (.aload_n 0, 1) := by decide +kernel
theorem dJ0_length_8abf5_1 : decode cJ0_length_8abf5 1 = .ok (.getfield 9, 3) := by decide +kernel
theorem dJ0_length_8abf5_4 : decode cJ0_length_8abf5 4 = .ok (.arraylength, 1) := by decide +kernel
theorem dJ0_length_8abf5_5 : decode cJ0_length_8abf5 5 = .ok (.aload_n 0, 1) := by decide +kernel
theorem dJ0_length_8abf5_6 : decode cJ0_length_8abf5 6 = .ok (.invokevirtual 335, 3) := by decide +kernel
theorem dJ0_length_8abf5_9 : decode cJ0_length_8abf5 9 = .ok (.ishr, 1) := by decide +kernel
theorem dJ0_length_8abf5_10 : decode cJ0_length_8abf5 10 = .ok (.ireturn, 1) := by decide +kernel
theorem dJ0_charAt_5068e_0 : decode cJ0_charAt_5068e 0 = .ok (.aload_n 0, 1) := by decide +kernel
theorem dJ0_charAt_5068e_1 : decode cJ0_charAt_5068e 1 = .ok (.invokevirtual 492, 3) := by decide +kernel
theorem dJ0_charAt_5068e_4 : decode cJ0_charAt_5068e 4 = .ok (.ifCond .eq 12, 3) := by decide +kernel
theorem dJ0_charAt_5068e_7 : decode cJ0_charAt_5068e 7 = .ok (.aload_n 0, 1) := by decide +kernel
theorem dJ0_charAt_5068e_8 : decode cJ0_charAt_5068e 8 = .ok (.getfield 9, 3) := by decide +kernel
theorem dJ0_charAt_5068e_11 : decode cJ0_charAt_5068e 11 = .ok (.iload_n 1, 1) := by decide +kernel
theorem dJ0_charAt_5068e_12 : decode cJ0_charAt_5068e 12 = .ok (.invokestatic 495, 3) := by decide +kernel
theorem dJ0_charAt_5068e_15 : decode cJ0_charAt_5068e 15 = .ok (.ireturn, 1) := by decide +kernel
theorem dJ0_charAt_5068e_16 : decode cJ0_charAt_5068e 16 = .ok (.aload_n 0, 1) := by decide +kernel
theorem dJ0_charAt_5068e_17 : decode cJ0_charAt_5068e 17 = .ok (.getfield 9, 3) := by decide +kernel
theorem dJ0_charAt_5068e_20 : decode cJ0_charAt_5068e 20 = .ok (.iload_n 1, 1) := by decide +kernel
theorem dJ0_charAt_5068e_21 : decode cJ0_charAt_5068e 21 = .ok (.invokestatic 498, 3) := by decide +kernel
theorem dJ0_charAt_5068e_24 : decode cJ0_charAt_5068e 24 = .ok (.ireturn, 1) := by decide +kernel
theorem dJ0_coder_7d493_0 : decode cJ0_coder_7d493 0 = .ok (.getstatic 38, 3) := by decide +kernel
theorem dJ0_coder_7d493_3 : decode cJ0_coder_7d493 3 = .ok (.ifCond .eq 10, 3) := by decide +kernel
theorem dJ0_coder_7d493_6 : decode cJ0_coder_7d493 6 = .ok (.aload_n 0, 1) := by decide +kernel
theorem dJ0_coder_7d493_7 : decode cJ0_coder_7d493 7 = .ok (.getfield 15, 3) := by decide +kernel
theorem dJ0_coder_7d493_10 : decode cJ0_coder_7d493 10 = .ok (.goto 4, 3) := by decide +kernel
theorem dJ0_coder_7d493_13 : decode cJ0_coder_7d493 13 = .ok (.iconst 1, 1) := by decide +kernel
theorem dJ0_coder_7d493_14 : decode cJ0_coder_7d493 14 = .ok (.ireturn, 1) := by decide +kernel
theorem dJ0_isLatin1_aae02_0 : decode cJ0_isLatin1_aae02 0 = .ok (.getstatic 38, 3) := by decide +kernel
theorem dJ0_isLatin1_aae02_3 : decode cJ0_isLatin1_aae02 3 = .ok (.ifCond .eq 14, 3) := by decide +kernel
theorem dJ0_isLatin1_aae02_6 : decode cJ0_isLatin1_aae02 6 = .ok (.aload_n 0, 1) := by decide +kernel
theorem dJ0_isLatin1_aae02_7 : decode cJ0_isLatin1_aae02 7 = .ok (.getfield 15, 3) := by decide +kernel
theorem dJ0_isLatin1_aae02_10 : decode cJ0_isLatin1_aae02 10 = .ok (.ifCond .ne 7, 3) := by decide +kernel
theorem dJ0_isLatin1_aae02_13 : decode cJ0_isLatin1_aae02 13 = .ok (.iconst 1, 1) := by decide +kernel
theorem dJ0_isLatin1_aae02_14 : decode cJ0_isLatin1_aae02 14 = .ok (.goto 4, 3) := by decide +kernel
theorem dJ0_isLatin1_aae02_17 : decode cJ0_isLatin1_aae02 17 = .ok (.iconst 0, 1) := by decide +kernel
theorem dJ0_isLatin1_aae02_18 : decode cJ0_isLatin1_aae02 18 = .ok (.ireturn, 1) := by decide +kernel
theorem dJ0_checkIndex_df160_0 : decode cJ0_checkIndex_df160 0 = .ok (.iload_n 0, 1) := by decide +kernel
theorem dJ0_checkIndex_df160_1 : decode cJ0_checkIndex_df160 1 = .ok (.iload_n 1, 1) := by decide +kernel
theorem dJ0_checkIndex_df160_2 : decode cJ0_checkIndex_df160 2 = .ok (.getstatic 1053, 3) := by decide +kernel
theorem dJ0_checkIndex_df160_5 : decode cJ0_checkIndex_df160 5 = .ok (.invokestatic 1059, 3) := by decide +kernel
theorem dJ0_checkIndex_df160_8 : decode cJ0_checkIndex_df160 8 = .ok (.pop, 1) := by decide +kernel
theorem dJ0_checkIndex_df160_9 : decode cJ0_checkIndex_df160 9 = .ok (.return_, 1) := by decide +kernel
theorem dJ1_charAt_3b067_0 : decode cJ1_charAt_3b067 0 = .ok (.iload_n 1, 1) := by decide +kernel
theorem dJ1_charAt_3b067_1 : decode cJ1_charAt_3b067 1 = .ok (.aload_n 0, 1) := by decide +kernel
theorem dJ1_charAt_3b067_2 : decode cJ1_charAt_3b067 2 = .ok (.arraylength, 1) := by decide +kernel
theorem dJ1_charAt_3b067_3 : decode cJ1_charAt_3b067 3 = .ok (.invokestatic 9, 3) := by decide +kernel
theorem dJ1_charAt_3b067_6 : decode cJ1_charAt_3b067 6 = .ok (.aload_n 0, 1) := by decide +kernel
theorem dJ1_charAt_3b067_7 : decode cJ1_charAt_3b067 7 = .ok (.iload_n 1, 1) := by decide +kernel
theorem dJ1_charAt_3b067_8 : decode cJ1_charAt_3b067 8 = .ok (.baload, 1) := by decide +kernel
theorem dJ1_charAt_3b067_9 : decode cJ1_charAt_3b067 9 = .ok (.sipush 255, 3) := by decide +kernel
theorem dJ1_charAt_3b067_12 : decode cJ1_charAt_3b067 12 = .ok (.iand, 1) := by decide +kernel
theorem dJ1_charAt_3b067_13 : decode cJ1_charAt_3b067 13 = .ok (.i2c, 1) := by decide +kernel
theorem dJ1_charAt_3b067_14 : decode cJ1_charAt_3b067 14 = .ok (.ireturn, 1) := by decide +kernel
theorem dJ2_getChar_3b067_0 : decode cJ2_getChar_3b067 0 = .ok (.getstatic 44, 3) := by decide +kernel
theorem dJ2_getChar_3b067_3 : decode cJ2_getChar_3b067 3 = .ok (.ifCond .ne 25, 3) := by decide +kernel
theorem dJ2_getChar_3b067_6 : decode cJ2_getChar_3b067 6 = .ok (.iload_n 1, 1) := by decide +kernel
theorem dJ2_getChar_3b067_7 : decode cJ2_getChar_3b067 7 = .ok (.ifCond .lt 11, 3) := by decide +kernel
theorem dJ2_getChar_3b067_10 : decode cJ2_getChar_3b067 10 = .ok (.iload_n 1, 1) := by decide +kernel
theorem dJ2_getChar_3b067_11 : decode cJ2_getChar_3b067 11 = .ok (.aload_n 0, 1) := by decide +kernel
theorem dJ2_getChar_3b067_12 : decode cJ2_getChar_3b067 12 = .ok (.invokestatic 48, 3) := by decide +kernel
theorem dJ2_getChar_3b067_15 : decode cJ2_getChar_3b067 15 = .ok (.if_icmp .lt 13, 3) := by decide +kernel
theorem dJ2_getChar_3b067_18 : decode cJ2_getChar_3b067 18 = .ok (.new 52, 3) := by decide +kernel
theorem dJ2_getChar_3b067_21 : decode cJ2_getChar_3b067 21 = .ok (.dup, 1) := by decide +kernel
theorem dJ2_getChar_3b067_22 : decode cJ2_getChar_3b067 22 = .ok (.ldc 54, 2) := by decide +kernel
theorem dJ2_getChar_3b067_24 : decode cJ2_getChar_3b067 24 = .ok (.invokespecial 56, 3) := by decide +kernel
theorem dJ2_getChar_3b067_27 : decode cJ2_getChar_3b067 27 = .ok (.athrow, 1) := by decide +kernel
theorem dJ2_getChar_3b067_28 : decode cJ2_getChar_3b067 28 = .ok (.iload_n 1, 1) := by decide +kernel
theorem dJ2_getChar_3b067_29 : decode cJ2_getChar_3b067 29 = .ok (.iconst 1, 1) := by decide +kernel
theorem dJ2_getChar_3b067_30 : decode cJ2_getChar_3b067 30 = .ok (.ishl, 1) := by decide +kernel
theorem dJ2_getChar_3b067_31 : decode cJ2_getChar_3b067 31 = .ok (.istore_n 1, 1) := by decide +kernel
theorem dJ2_getChar_3b067_32 : decode cJ2_getChar_3b067 32 = .ok (.aload_n 0, 1) := by decide +kernel
theorem dJ2_getChar_3b067_33 : decode cJ2_getChar_3b067 33 = .ok (.iload_n 1, 1) := by decide +kernel
theorem dJ2_getChar_3b067_34 : decode cJ2_getChar_3b067 34 = .ok (.iinc 1 1, 3) := by decide +kernel
theorem dJ2_getChar_3b067_37 : decode cJ2_getChar_3b067 37 = .ok (.baload, 1) := by decide +kernel
theorem dJ2_getChar_3b067_38 : decode cJ2_getChar_3b067 38 = .ok (.sipush 255, 3) := by decide +kernel
theorem dJ2_getChar_3b067_41 : decode cJ2_getChar_3b067 41 = .ok (.iand, 1) := by decide +kernel
theorem dJ2_getChar_3b067_42 : decode cJ2_getChar_3b067 42 = .ok (.getstatic 59, 3) := by decide +kernel
theorem dJ2_getChar_3b067_45 : decode cJ2_getChar_3b067 45 = .ok (.ishl, 1) := by decide +kernel
theorem dJ2_getChar_3b067_46 : decode cJ2_getChar_3b067 46 = .ok (.aload_n 0, 1) := by decide +kernel
theorem dJ2_getChar_3b067_47 : decode cJ2_getChar_3b067 47 = .ok (.iload_n 1, 1) := by decide +kernel
theorem dJ2_getChar_3b067_48 : decode cJ2_getChar_3b067 48 = .ok (.baload, 1) := by decide +kernel
theorem dJ2_getChar_3b067_49 : decode cJ2_getChar_3b067 49 = .ok (.sipush 255, 3) := by decide +kernel
theorem dJ2_getChar_3b067_52 : decode cJ2_getChar_3b067 52 = .ok (.iand, 1) := by decide +kernel
theorem dJ2_getChar_3b067_53 : decode cJ2_getChar_3b067 53 = .ok (.getstatic 63, 3) := by decide +kernel
theorem dJ2_getChar_3b067_56 : decode cJ2_getChar_3b067 56 = .ok (.ishl, 1) := by decide +kernel
theorem dJ2_getChar_3b067_57 : decode cJ2_getChar_3b067 57 = .ok (.ior, 1) := by decide +kernel
theorem dJ2_getChar_3b067_58 : decode cJ2_getChar_3b067 58 = .ok (.i2c, 1) := by decide +kernel
theorem dJ2_getChar_3b067_59 : decode cJ2_getChar_3b067 59 = .ok (.ireturn, 1) := by decide +kernel
theorem dJ2_length_9d52b_0 : decode cJ2_length_9d52b 0 = .ok (.aload_n 0, 1) := by decide +kernel
theorem dJ2_length_9d52b_1 : decode cJ2_length_9d52b 1 = .ok (.arraylength, 1) := by decide +kernel
theorem dJ2_length_9d52b_2 : decode cJ2_length_9d52b 2 = .ok (.iconst 1, 1) := by decide +kernel
theorem dJ2_length_9d52b_3 : decode cJ2_length_9d52b 3 = .ok (.ishr, 1) := by decide +kernel
theorem dJ2_length_9d52b_4 : decode cJ2_length_9d52b 4 = .ok (.ireturn, 1) := by decide +kernel
theorem dJ2_charAt_3b067_0 : decode cJ2_charAt_3b067 0 = .ok (.iload_n 1, 1) := by decide +kernel
theorem dJ2_charAt_3b067_1 : decode cJ2_charAt_3b067 1 = .ok (.aload_n 0, 1) := by decide +kernel
theorem dJ2_charAt_3b067_2 : decode cJ2_charAt_3b067 2 = .ok (.invokestatic 67, 3) := by decide +kernel
theorem dJ2_charAt_3b067_5 : decode cJ2_charAt_3b067 5 = .ok (.aload_n 0, 1) := by decide +kernel
theorem dJ2_charAt_3b067_6 : decode cJ2_charAt_3b067 6 = .ok (.iload_n 1, 1) := by decide +kernel
theorem dJ2_charAt_3b067_7 : decode cJ2_charAt_3b067 7 = .ok (.invokestatic 71, 3) := by decide +kernel
theorem dJ2_charAt_3b067_10 : decode cJ2_charAt_3b067 10 = .ok (.ireturn, 1) := by decide +kernel
theorem dJ2_checkIndex_2214a_0 : decode cJ2_checkIndex_2214a 0 = .ok (.iload_n 0, 1) := by decide +kernel
theorem dJ2_checkIndex_2214a_1 : decode cJ2_checkIndex_2214a 1 = .ok (.aload_n 1, 1) := by decide +kernel
theorem dJ2_checkIndex_2214a_2 : decode cJ2_checkIndex_2214a 2 = .ok (.invokestatic 48, 3) := by decide +kernel
theorem dJ2_checkIndex_2214a_5 : decode cJ2_checkIndex_2214a 5 = .ok (.invokestatic 414, 3) := by decide +kernel
theorem dJ2_checkIndex_2214a_8 : decode cJ2_checkIndex_2214a 8 = .ok (.return_, 1) := by decide +kernel
theorem dJ7_fill_53178_0 : decode cJ7_fill_53178 0 = .ok (.iconst 0, 1) := by decide +kernel
theorem dJ7_fill_53178_1 : decode cJ7_fill_53178 1 = .ok (.istore_n 2, 1) := by decide +kernel
theorem dJ7_fill_53178_2 : decode cJ7_fill_53178 2 = .ok (.aload_n 0, 1) := by decide +kernel
theorem dJ7_fill_53178_3 : decode cJ7_fill_53178 3 = .ok (.arraylength, 1) := by decide +kernel
theorem dJ7_fill_53178_4 : decode cJ7_fill_53178 4 = .ok (.istore_n 3, 1) := by decide +kernel
theorem dJ7_fill_53178_5 : decode cJ7_fill_53178 5 = .ok (.iload_n 2, 1) := by decide +kernel
theorem dJ7_fill_53178_6 : decode cJ7_fill_53178 6 = .ok (.iload_n 3, 1) := by decide +kernel
theorem dJ7_fill_53178_7 : decode cJ7_fill_53178 7 = .ok (.if_icmp .ge 13, 3) := by decide +kernel
theorem dJ7_fill_53178_10 : decode cJ7_fill_53178 10 = .ok (.aload_n 0, 1) := by decide +kernel
theorem dJ7_fill_53178_11 : decode cJ7_fill_53178 11 = .ok (.iload_n 2, 1) := by decide +kernel
theorem dJ7_fill_53178_12 : decode cJ7_fill_53178 12 = .ok (.iload_n 1, 1) := by decide +kernel
theorem dJ7_fill_53178_13 : decode cJ7_fill_53178 13 = .ok (.iastore, 1) := by decide +kernel
theorem dJ7_fill_53178_14 : decode cJ7_fill_53178 14 = .ok (.iinc 2 1, 3) := by decide +kernel
theorem dJ7_fill_53178_17 : decode cJ7_fill_53178 17 = .ok (.goto (-12), 3) := by decide +kernel
theorem dJ7_fill_53178_20 : decode cJ7_fill_53178 20 = .ok (.return_, 1) := by decide +kernel
theorem dJ3_checkIndex_8e157_0 : decode cJ3_checkIndex_8e157 0 = .ok (.iload_n 0, 1) := by decide +kernel
theorem dJ3_checkIndex_8e157_1 : decode cJ3_checkIndex_8e157 1 = .ok (.ifCond .lt 8, 3) := by decide +kernel
theorem dJ3_checkIndex_8e157_4 : decode cJ3_checkIndex_8e157 4 = .ok (.iload_n 0, 1) := by decide +kernel
theorem dJ3_checkIndex_8e157_5 : decode cJ3_checkIndex_8e157 5 = .ok (.iload_n 1, 1) := by decide +kernel
theorem dJ3_checkIndex_8e157_6 : decode cJ3_checkIndex_8e157 6 = .ok (.if_icmp .lt 10, 3) := by decide +kernel
theorem dJ3_checkIndex_8e157_9 : decode cJ3_checkIndex_8e157 9 = .ok (.aload_n 2, 1) := by decide +kernel
theorem dJ3_checkIndex_8e157_10 : decode cJ3_checkIndex_8e157 10 = .ok (.iload_n 0, 1) := by decide +kernel
theorem dJ3_checkIndex_8e157_11 : decode cJ3_checkIndex_8e157 11 = .ok (.iload_n 1, 1) := by decide +kernel
theorem dJ3_checkIndex_8e157_12 : decode cJ3_checkIndex_8e157 12 = .ok (.invokestatic 95, 3) := by decide +kernel
theorem dJ3_checkIndex_8e157_15 : decode cJ3_checkIndex_8e157 15 = .ok (.athrow, 1) := by decide +kernel
theorem dJ3_checkIndex_8e157_16 : decode cJ3_checkIndex_8e157 16 = .ok (.iload_n 0, 1) := by decide +kernel
theorem dJ3_checkIndex_8e157_17 : decode cJ3_checkIndex_8e157 17 = .ok (.ireturn, 1) := by decide +kernel
theorem dL_law_0 : decode cL_law 0 = .ok (.new 7, 3) := by decide +kernel
theorem dL_law_3 : decode cL_law 3 = .ok (.dup, 1) := by decide +kernel
theorem dL_law_4 : decode cL_law 4 = .ok (.invokespecial 9, 3) := by decide +kernel
theorem dL_law_7 : decode cL_law 7 = .ok (.astore_n 1, 1) := by decide +kernel
theorem dL_law_8 : decode cL_law 8 = .ok (.new 10, 3) := by decide +kernel
theorem dL_law_11 : decode cL_law 11 = .ok (.dup, 1) := by decide +kernel
theorem dL_law_12 : decode cL_law 12 = .ok (.invokespecial 12, 3) := by decide +kernel
theorem dL_law_15 : decode cL_law 15 = .ok (.astore_n 2, 1) := by decide +kernel
theorem dL_law_16 : decode cL_law 16 = .ok (.iconst 0, 1) := by decide +kernel
theorem dL_law_17 : decode cL_law 17 = .ok (.istore_n 3, 1) := by decide +kernel
theorem dL_law_18 : decode cL_law 18 = .ok (.iload_n 3, 1) := by decide +kernel
theorem dL_law_19 : decode cL_law 19 = .ok (.aload_n 0, 1) := by decide +kernel
theorem dL_law_20 : decode cL_law 20 = .ok (.arraylength, 1) := by decide +kernel
theorem dL_law_21 : decode cL_law 21 = .ok (.bipush 7, 2) := by decide +kernel
theorem dL_law_23 : decode cL_law 23 = .ok (.isub, 1) := by decide +kernel
theorem dL_law_24 : decode cL_law 24 = .ok (.if_icmp .gt 1016, 3) := by decide +kernel
theorem dL_law_27 : decode cL_law 27 = .ok (.aload_n 0, 1) := by decide +kernel
theorem dL_law_28 : decode cL_law 28 = .ok (.iload_n 3, 1) := by decide +kernel
theorem dL_law_29 : decode cL_law 29 = .ok (.iaload, 1) := by decide +kernel
theorem dL_law_30 : decode cL_law 30 = .ok (.bipush 31, 2) := by decide +kernel
theorem dL_law_32 : decode cL_law 32 = .ok (.iand, 1) := by decide +kernel
theorem dL_law_33 : decode cL_law 33 = .ok (.tableswitch 1001 0 31 #[143, 166, 179, 192, 205, 238, 271, 304, 327, 360, 373, 386, 419, 462, 485, 498, 531, 564, 587, 610, 643, 656, 679, 712, 745, 798, 873, 896, 919, 952, 965, 978], 143) := by decide +kernel
theorem dL_law_176 : decode cL_law 176 = .ok (.aload_n 1, 1) := by decide +kernel
theorem dL_law_177 : decode cL_law 177 = .ok (.aload_n 0, 1) := by decide +kernel
theorem dL_law_178 : decode cL_law 178 = .ok (.iload_n 3, 1) := by decide +kernel
theorem dL_law_179 : decode cL_law 179 = .ok (.iconst 1, 1) := by decide +kernel
theorem dL_law_180 : decode cL_law 180 = .ok (.iadd, 1) := by decide +kernel
theorem dL_law_181 : decode cL_law 181 = .ok (.iaload, 1) := by decide +kernel
theorem dL_law_182 : decode cL_law 182 = .ok (.invokevirtual 13, 3) := by decide +kernel
theorem dL_law_185 : decode cL_law 185 = .ok (.aload_n 2, 1) := by decide +kernel
theorem dL_law_186 : decode cL_law 186 = .ok (.aload_n 0, 1) := by decide +kernel
theorem dL_law_187 : decode cL_law 187 = .ok (.iload_n 3, 1) := by decide +kernel
theorem dL_law_188 : decode cL_law 188 = .ok (.iconst 1, 1) := by decide +kernel
theorem dL_law_189 : decode cL_law 189 = .ok (.iadd, 1) := by decide +kernel
theorem dL_law_190 : decode cL_law 190 = .ok (.iaload, 1) := by decide +kernel
theorem dL_law_191 : decode cL_law 191 = .ok (.invokevirtual 17, 3) := by decide +kernel
theorem dL_law_194 : decode cL_law 194 = .ok (.if_icmp .eq 840, 3) := by decide +kernel
theorem dL_law_197 : decode cL_law 197 = .ok (.iconst 0, 1) := by decide +kernel
theorem dL_law_198 : decode cL_law 198 = .ok (.ireturn, 1) := by decide +kernel
theorem dL_law_199 : decode cL_law 199 = .ok (.aload_n 1, 1) := by decide +kernel
theorem dL_law_200 : decode cL_law 200 = .ok (.invokevirtual 18, 3) := by decide +kernel
theorem dL_law_203 : decode cL_law 203 = .ok (.aload_n 2, 1) := by decide +kernel
theorem dL_law_204 : decode cL_law 204 = .ok (.invokevirtual 22, 3) := by decide +kernel
theorem dL_law_207 : decode cL_law 207 = .ok (.if_icmp .eq 827, 3) := by decide +kernel
theorem dL_law_210 : decode cL_law 210 = .ok (.iconst 0, 1) := by decide +kernel
theorem dL_law_211 : decode cL_law 211 = .ok (.ireturn, 1) := by decide +kernel
theorem dL_law_212 : decode cL_law 212 = .ok (.aload_n 1, 1) := by decide +kernel
theorem dL_law_213 : decode cL_law 213 = .ok (.invokevirtual 23, 3) := by decide +kernel
theorem dL_law_216 : decode cL_law 216 = .ok (.aload_n 2, 1) := by decide +kernel
theorem dL_law_217 : decode cL_law 217 = .ok (.invokevirtual 26, 3) := by decide +kernel
theorem dL_law_220 : decode cL_law 220 = .ok (.if_icmp .eq 814, 3) := by decide +kernel
theorem dL_law_223 : decode cL_law 223 = .ok (.iconst 0, 1) := by decide +kernel
theorem dL_law_224 : decode cL_law 224 = .ok (.ireturn, 1) := by decide +kernel
theorem dL_law_225 : decode cL_law 225 = .ok (.aload_n 1, 1) := by decide +kernel
theorem dL_law_226 : decode cL_law 226 = .ok (.invokevirtual 27, 3) := by decide +kernel
theorem dL_law_229 : decode cL_law 229 = .ok (.aload_n 2, 1) := by decide +kernel
theorem dL_law_230 : decode cL_law 230 = .ok (.invokevirtual 30, 3) := by decide +kernel
theorem dL_law_233 : decode cL_law 233 = .ok (.if_icmp .eq 801, 3) := by decide +kernel
theorem dL_law_236 : decode cL_law 236 = .ok (.iconst 0, 1) := by decide +kernel
theorem dL_law_237 : decode cL_law 237 = .ok (.ireturn, 1) := by decide +kernel
theorem dL_law_238 : decode cL_law 238 = .ok (.aload_n 1, 1) := by decide +kernel
theorem dL_law_239 : decode cL_law 239 = .ok (.aload_n 0, 1) := by decide +kernel
theorem dL_law_240 : decode cL_law 240 = .ok (.iload_n 3, 1) := by decide +kernel
theorem dL_law_241 : decode cL_law 241 = .ok (.iconst 1, 1) := by decide +kernel
theorem dL_law_242 : decode cL_law 242 = .ok (.iadd, 1) := by decide +kernel
theorem dL_law_243 : decode cL_law 243 = .ok (.iaload, 1) := by decide +kernel
theorem dL_law_244 : decode cL_law 244 = .ok (.aload_n 0, 1) := by decide +kernel
theorem dL_law_245 : decode cL_law 245 = .ok (.iload_n 3, 1) := by decide +kernel
theorem dL_law_246 : decode cL_law 246 = .ok (.iconst 2, 1) := by decide +kernel
theorem dL_law_247 : decode cL_law 247 = .ok (.iadd, 1) := by decide +kernel
theorem dL_law_248 : decode cL_law 248 = .ok (.iaload, 1) := by decide +kernel
theorem dL_law_249 : decode cL_law 249 = .ok (.invokevirtual 31, 3) := by decide +kernel
theorem dL_law_252 : decode cL_law 252 = .ok (.aload_n 2, 1) := by decide +kernel
theorem dL_law_253 : decode cL_law 253 = .ok (.aload_n 0, 1) := by decide +kernel
theorem dL_law_254 : decode cL_law 254 = .ok (.iload_n 3, 1) := by decide +kernel
theorem dL_law_255 : decode cL_law 255 = .ok (.iconst 1, 1) := by decide +kernel
theorem dL_law_256 : decode cL_law 256 = .ok (.iadd, 1) := by decide +kernel
theorem dL_law_257 : decode cL_law 257 = .ok (.iaload, 1) := by decide +kernel
theorem dL_law_258 : decode cL_law 258 = .ok (.aload_n 0, 1) := by decide +kernel
theorem dL_law_259 : decode cL_law 259 = .ok (.iload_n 3, 1) := by decide +kernel
theorem dL_law_260 : decode cL_law 260 = .ok (.iconst 2, 1) := by decide +kernel
theorem dL_law_261 : decode cL_law 261 = .ok (.iadd, 1) := by decide +kernel
theorem dL_law_262 : decode cL_law 262 = .ok (.iaload, 1) := by decide +kernel
theorem dL_law_263 : decode cL_law 263 = .ok (.invokevirtual 35, 3) := by decide +kernel
theorem dL_law_266 : decode cL_law 266 = .ok (.if_icmp .eq 768, 3) := by decide +kernel
theorem dL_law_269 : decode cL_law 269 = .ok (.iconst 0, 1) := by decide +kernel
theorem dL_law_270 : decode cL_law 270 = .ok (.ireturn, 1) := by decide +kernel
theorem dL_law_271 : decode cL_law 271 = .ok (.aload_n 1, 1) := by decide +kernel
theorem dL_law_272 : decode cL_law 272 = .ok (.aload_n 0, 1) := by decide +kernel
theorem dL_law_273 : decode cL_law 273 = .ok (.iload_n 3, 1) := by decide +kernel
theorem dL_law_274 : decode cL_law 274 = .ok (.iconst 1, 1) := by decide +kernel
theorem dL_law_275 : decode cL_law 275 = .ok (.iadd, 1) := by decide +kernel
theorem dL_law_276 : decode cL_law 276 = .ok (.iaload, 1) := by decide +kernel
theorem dL_law_277 : decode cL_law 277 = .ok (.aload_n 0, 1) := by decide +kernel
theorem dL_law_278 : decode cL_law 278 = .ok (.iload_n 3, 1) := by decide +kernel
theorem dL_law_279 : decode cL_law 279 = .ok (.iconst 2, 1) := by decide +kernel
theorem dL_law_280 : decode cL_law 280 = .ok (.iadd, 1) := by decide +kernel
theorem dL_law_281 : decode cL_law 281 = .ok (.iaload, 1) := by decide +kernel
theorem dL_law_282 : decode cL_law 282 = .ok (.invokevirtual 36, 3) := by decide +kernel
theorem dL_law_285 : decode cL_law 285 = .ok (.aload_n 2, 1) := by decide +kernel
theorem dL_law_286 : decode cL_law 286 = .ok (.aload_n 0, 1) := by decide +kernel
theorem dL_law_287 : decode cL_law 287 = .ok (.iload_n 3, 1) := by decide +kernel
theorem dL_law_288 : decode cL_law 288 = .ok (.iconst 1, 1) := by decide +kernel
theorem dL_law_289 : decode cL_law 289 = .ok (.iadd, 1) := by decide +kernel
theorem dL_law_290 : decode cL_law 290 = .ok (.iaload, 1) := by decide +kernel
theorem dL_law_291 : decode cL_law 291 = .ok (.aload_n 0, 1) := by decide +kernel
theorem dL_law_292 : decode cL_law 292 = .ok (.iload_n 3, 1) := by decide +kernel
theorem dL_law_293 : decode cL_law 293 = .ok (.iconst 2, 1) := by decide +kernel
theorem dL_law_294 : decode cL_law 294 = .ok (.iadd, 1) := by decide +kernel
theorem dL_law_295 : decode cL_law 295 = .ok (.iaload, 1) := by decide +kernel
theorem dL_law_296 : decode cL_law 296 = .ok (.invokevirtual 39, 3) := by decide +kernel
theorem dL_law_299 : decode cL_law 299 = .ok (.if_icmp .eq 735, 3) := by decide +kernel
theorem dL_law_302 : decode cL_law 302 = .ok (.iconst 0, 1) := by decide +kernel
theorem dL_law_303 : decode cL_law 303 = .ok (.ireturn, 1) := by decide +kernel
theorem dL_law_304 : decode cL_law 304 = .ok (.aload_n 1, 1) := by decide +kernel
theorem dL_law_305 : decode cL_law 305 = .ok (.aload_n 0, 1) := by decide +kernel
theorem dL_law_306 : decode cL_law 306 = .ok (.iload_n 3, 1) := by decide +kernel
theorem dL_law_307 : decode cL_law 307 = .ok (.iconst 1, 1) := by decide +kernel
theorem dL_law_308 : decode cL_law 308 = .ok (.iadd, 1) := by decide +kernel
theorem dL_law_309 : decode cL_law 309 = .ok (.iaload, 1) := by decide +kernel
theorem dL_law_310 : decode cL_law 310 = .ok (.aload_n 0, 1) := by decide +kernel
theorem dL_law_311 : decode cL_law 311 = .ok (.iload_n 3, 1) := by decide +kernel
theorem dL_law_312 : decode cL_law 312 = .ok (.iconst 2, 1) := by decide +kernel
theorem dL_law_313 : decode cL_law 313 = .ok (.iadd, 1) := by decide +kernel
theorem dL_law_314 : decode cL_law 314 = .ok (.iaload, 1) := by decide +kernel
theorem dL_law_315 : decode cL_law 315 = .ok (.invokevirtual 40, 3) := by decide +kernel
theorem dL_law_318 : decode cL_law 318 = .ok (.aload_n 2, 1) := by decide +kernel
theorem dL_law_319 : decode cL_law 319 = .ok (.aload_n 0, 1) := by decide +kernel
theorem dL_law_320 : decode cL_law 320 = .ok (.iload_n 3, 1) := by decide +kernel
theorem dL_law_321 : decode cL_law 321 = .ok (.iconst 1, 1) := by decide +kernel
theorem dL_law_322 : decode cL_law 322 = .ok (.iadd, 1) := by decide +kernel
theorem dL_law_323 : decode cL_law 323 = .ok (.iaload, 1) := by decide +kernel
theorem dL_law_324 : decode cL_law 324 = .ok (.aload_n 0, 1) := by decide +kernel
theorem dL_law_325 : decode cL_law 325 = .ok (.iload_n 3, 1) := by decide +kernel
theorem dL_law_326 : decode cL_law 326 = .ok (.iconst 2, 1) := by decide +kernel
theorem dL_law_327 : decode cL_law 327 = .ok (.iadd, 1) := by decide +kernel
theorem dL_law_328 : decode cL_law 328 = .ok (.iaload, 1) := by decide +kernel
theorem dL_law_329 : decode cL_law 329 = .ok (.invokevirtual 43, 3) := by decide +kernel
theorem dL_law_332 : decode cL_law 332 = .ok (.if_icmp .eq 702, 3) := by decide +kernel
theorem dL_law_335 : decode cL_law 335 = .ok (.iconst 0, 1) := by decide +kernel
theorem dL_law_336 : decode cL_law 336 = .ok (.ireturn, 1) := by decide +kernel
theorem dL_law_337 : decode cL_law 337 = .ok (.aload_n 1, 1) := by decide +kernel
theorem dL_law_338 : decode cL_law 338 = .ok (.aload_n 0, 1) := by decide +kernel
theorem dL_law_339 : decode cL_law 339 = .ok (.iload_n 3, 1) := by decide +kernel
theorem dL_law_340 : decode cL_law 340 = .ok (.iconst 1, 1) := by decide +kernel
theorem dL_law_341 : decode cL_law 341 = .ok (.iadd, 1) := by decide +kernel
theorem dL_law_342 : decode cL_law 342 = .ok (.iaload, 1) := by decide +kernel
theorem dL_law_343 : decode cL_law 343 = .ok (.invokevirtual 44, 3) := by decide +kernel
theorem dL_law_346 : decode cL_law 346 = .ok (.aload_n 2, 1) := by decide +kernel
theorem dL_law_347 : decode cL_law 347 = .ok (.aload_n 0, 1) := by decide +kernel
theorem dL_law_348 : decode cL_law 348 = .ok (.iload_n 3, 1) := by decide +kernel
theorem dL_law_349 : decode cL_law 349 = .ok (.iconst 1, 1) := by decide +kernel
theorem dL_law_350 : decode cL_law 350 = .ok (.iadd, 1) := by decide +kernel
theorem dL_law_351 : decode cL_law 351 = .ok (.iaload, 1) := by decide +kernel
theorem dL_law_352 : decode cL_law 352 = .ok (.invokevirtual 47, 3) := by decide +kernel
theorem dL_law_355 : decode cL_law 355 = .ok (.if_icmp .eq 679, 3) := by decide +kernel
theorem dL_law_358 : decode cL_law 358 = .ok (.iconst 0, 1) := by decide +kernel
theorem dL_law_359 : decode cL_law 359 = .ok (.ireturn, 1) := by decide +kernel
theorem dL_law_360 : decode cL_law 360 = .ok (.aload_n 1, 1) := by decide +kernel
theorem dL_law_361 : decode cL_law 361 = .ok (.aload_n 0, 1) := by decide +kernel
theorem dL_law_362 : decode cL_law 362 = .ok (.iload_n 3, 1) := by decide +kernel
theorem dL_law_363 : decode cL_law 363 = .ok (.iconst 1, 1) := by decide +kernel
theorem dL_law_364 : decode cL_law 364 = .ok (.iadd, 1) := by decide +kernel
theorem dL_law_365 : decode cL_law 365 = .ok (.iaload, 1) := by decide +kernel
theorem dL_law_366 : decode cL_law 366 = .ok (.aload_n 0, 1) := by decide +kernel
theorem dL_law_367 : decode cL_law 367 = .ok (.iload_n 3, 1) := by decide +kernel
theorem dL_law_368 : decode cL_law 368 = .ok (.iconst 2, 1) := by decide +kernel
theorem dL_law_369 : decode cL_law 369 = .ok (.iadd, 1) := by decide +kernel
theorem dL_law_370 : decode cL_law 370 = .ok (.iaload, 1) := by decide +kernel
theorem dL_law_371 : decode cL_law 371 = .ok (.invokevirtual 48, 3) := by decide +kernel
theorem dL_law_374 : decode cL_law 374 = .ok (.aload_n 2, 1) := by decide +kernel
theorem dL_law_375 : decode cL_law 375 = .ok (.aload_n 0, 1) := by decide +kernel
theorem dL_law_376 : decode cL_law 376 = .ok (.iload_n 3, 1) := by decide +kernel
theorem dL_law_377 : decode cL_law 377 = .ok (.iconst 1, 1) := by decide +kernel
theorem dL_law_378 : decode cL_law 378 = .ok (.iadd, 1) := by decide +kernel
theorem dL_law_379 : decode cL_law 379 = .ok (.iaload, 1) := by decide +kernel
theorem dL_law_380 : decode cL_law 380 = .ok (.aload_n 0, 1) := by decide +kernel
theorem dL_law_381 : decode cL_law 381 = .ok (.iload_n 3, 1) := by decide +kernel
theorem dL_law_382 : decode cL_law 382 = .ok (.iconst 2, 1) := by decide +kernel
theorem dL_law_383 : decode cL_law 383 = .ok (.iadd, 1) := by decide +kernel
theorem dL_law_384 : decode cL_law 384 = .ok (.iaload, 1) := by decide +kernel
theorem dL_law_385 : decode cL_law 385 = .ok (.invokevirtual 51, 3) := by decide +kernel
theorem dL_law_388 : decode cL_law 388 = .ok (.if_icmp .eq 646, 3) := by decide +kernel
theorem dL_law_391 : decode cL_law 391 = .ok (.iconst 0, 1) := by decide +kernel
theorem dL_law_392 : decode cL_law 392 = .ok (.ireturn, 1) := by decide +kernel
theorem dL_law_393 : decode cL_law 393 = .ok (.aload_n 1, 1) := by decide +kernel
theorem dL_law_394 : decode cL_law 394 = .ok (.invokevirtual 52, 3) := by decide +kernel
theorem dL_law_397 : decode cL_law 397 = .ok (.aload_n 2, 1) := by decide +kernel
theorem dL_law_398 : decode cL_law 398 = .ok (.invokevirtual 55, 3) := by decide +kernel
theorem dL_law_401 : decode cL_law 401 = .ok (.if_icmp .eq 633, 3) := by decide +kernel
theorem dL_law_404 : decode cL_law 404 = .ok (.iconst 0, 1) := by decide +kernel
theorem dL_law_405 : decode cL_law 405 = .ok (.ireturn, 1) := by decide +kernel
theorem dL_law_406 : decode cL_law 406 = .ok (.aload_n 1, 1) := by decide +kernel
theorem dL_law_407 : decode cL_law 407 = .ok (.invokevirtual 56, 3) := by decide +kernel
theorem dL_law_410 : decode cL_law 410 = .ok (.aload_n 2, 1) := by decide +kernel
theorem dL_law_411 : decode cL_law 411 = .ok (.invokevirtual 59, 3) := by decide +kernel
theorem dL_law_414 : decode cL_law 414 = .ok (.if_icmp .eq 620, 3) := by decide +kernel
theorem dL_law_417 : decode cL_law 417 = .ok (.iconst 0, 1) := by decide +kernel
theorem dL_law_418 : decode cL_law 418 = .ok (.ireturn, 1) := by decide +kernel
theorem dL_law_419 : decode cL_law 419 = .ok (.aload_n 1, 1) := by decide +kernel
theorem dL_law_420 : decode cL_law 420 = .ok (.aload_n 0, 1) := by decide +kernel
theorem dL_law_421 : decode cL_law 421 = .ok (.iload_n 3, 1) := by decide +kernel
theorem dL_law_422 : decode cL_law 422 = .ok (.iconst 1, 1) := by decide +kernel
theorem dL_law_423 : decode cL_law 423 = .ok (.iadd, 1) := by decide +kernel
theorem dL_law_424 : decode cL_law 424 = .ok (.iaload, 1) := by decide +kernel
theorem dL_law_425 : decode cL_law 425 = .ok (.aload_n 0, 1) := by decide +kernel
theorem dL_law_426 : decode cL_law 426 = .ok (.iload_n 3, 1) := by decide +kernel
theorem dL_law_427 : decode cL_law 427 = .ok (.iconst 2, 1) := by decide +kernel
theorem dL_law_428 : decode cL_law 428 = .ok (.iadd, 1) := by decide +kernel
theorem dL_law_429 : decode cL_law 429 = .ok (.iaload, 1) := by decide +kernel
theorem dL_law_430 : decode cL_law 430 = .ok (.invokevirtual 60, 3) := by decide +kernel
theorem dL_law_433 : decode cL_law 433 = .ok (.aload_n 2, 1) := by decide +kernel
theorem dL_law_434 : decode cL_law 434 = .ok (.aload_n 0, 1) := by decide +kernel
theorem dL_law_435 : decode cL_law 435 = .ok (.iload_n 3, 1) := by decide +kernel
theorem dL_law_436 : decode cL_law 436 = .ok (.iconst 1, 1) := by decide +kernel
theorem dL_law_437 : decode cL_law 437 = .ok (.iadd, 1) := by decide +kernel
theorem dL_law_438 : decode cL_law 438 = .ok (.iaload, 1) := by decide +kernel
theorem dL_law_439 : decode cL_law 439 = .ok (.aload_n 0, 1) := by decide +kernel
theorem dL_law_440 : decode cL_law 440 = .ok (.iload_n 3, 1) := by decide +kernel
theorem dL_law_441 : decode cL_law 441 = .ok (.iconst 2, 1) := by decide +kernel
theorem dL_law_442 : decode cL_law 442 = .ok (.iadd, 1) := by decide +kernel
theorem dL_law_443 : decode cL_law 443 = .ok (.iaload, 1) := by decide +kernel
theorem dL_law_444 : decode cL_law 444 = .ok (.invokevirtual 63, 3) := by decide +kernel
theorem dL_law_447 : decode cL_law 447 = .ok (.if_icmp .eq 587, 3) := by decide +kernel
theorem dL_law_450 : decode cL_law 450 = .ok (.iconst 0, 1) := by decide +kernel
theorem dL_law_451 : decode cL_law 451 = .ok (.ireturn, 1) := by decide +kernel
theorem dL_law_452 : decode cL_law 452 = .ok (.aload_n 1, 1) := by decide +kernel
theorem dL_law_453 : decode cL_law 453 = .ok (.aload_n 0, 1) := by decide +kernel
theorem dL_law_454 : decode cL_law 454 = .ok (.iload_n 3, 1) := by decide +kernel
theorem dL_law_455 : decode cL_law 455 = .ok (.iconst 1, 1) := by decide +kernel
theorem dL_law_456 : decode cL_law 456 = .ok (.iadd, 1) := by decide +kernel
theorem dL_law_457 : decode cL_law 457 = .ok (.iaload, 1) := by decide +kernel
theorem dL_law_458 : decode cL_law 458 = .ok (.aload_n 0, 1) := by decide +kernel
theorem dL_law_459 : decode cL_law 459 = .ok (.iload_n 3, 1) := by decide +kernel
theorem dL_law_460 : decode cL_law 460 = .ok (.iconst 2, 1) := by decide +kernel
theorem dL_law_461 : decode cL_law 461 = .ok (.iadd, 1) := by decide +kernel
theorem dL_law_462 : decode cL_law 462 = .ok (.iaload, 1) := by decide +kernel
theorem dL_law_463 : decode cL_law 463 = .ok (.aload_n 0, 1) := by decide +kernel
theorem dL_law_464 : decode cL_law 464 = .ok (.iload_n 3, 1) := by decide +kernel
theorem dL_law_465 : decode cL_law 465 = .ok (.iconst 3, 1) := by decide +kernel
theorem dL_law_466 : decode cL_law 466 = .ok (.iadd, 1) := by decide +kernel
theorem dL_law_467 : decode cL_law 467 = .ok (.iaload, 1) := by decide +kernel
theorem dL_law_468 : decode cL_law 468 = .ok (.invokevirtual 64, 3) := by decide +kernel
theorem dL_law_471 : decode cL_law 471 = .ok (.aload_n 2, 1) := by decide +kernel
theorem dL_law_472 : decode cL_law 472 = .ok (.aload_n 0, 1) := by decide +kernel
theorem dL_law_473 : decode cL_law 473 = .ok (.iload_n 3, 1) := by decide +kernel
theorem dL_law_474 : decode cL_law 474 = .ok (.iconst 1, 1) := by decide +kernel
theorem dL_law_475 : decode cL_law 475 = .ok (.iadd, 1) := by decide +kernel
theorem dL_law_476 : decode cL_law 476 = .ok (.iaload, 1) := by decide +kernel
theorem dL_law_477 : decode cL_law 477 = .ok (.aload_n 0, 1) := by decide +kernel
theorem dL_law_478 : decode cL_law 478 = .ok (.iload_n 3, 1) := by decide +kernel
theorem dL_law_479 : decode cL_law 479 = .ok (.iconst 2, 1) := by decide +kernel
theorem dL_law_480 : decode cL_law 480 = .ok (.iadd, 1) := by decide +kernel
theorem dL_law_481 : decode cL_law 481 = .ok (.iaload, 1) := by decide +kernel
theorem dL_law_482 : decode cL_law 482 = .ok (.aload_n 0, 1) := by decide +kernel
theorem dL_law_483 : decode cL_law 483 = .ok (.iload_n 3, 1) := by decide +kernel
theorem dL_law_484 : decode cL_law 484 = .ok (.iconst 3, 1) := by decide +kernel
theorem dL_law_485 : decode cL_law 485 = .ok (.iadd, 1) := by decide +kernel
theorem dL_law_486 : decode cL_law 486 = .ok (.iaload, 1) := by decide +kernel
theorem dL_law_487 : decode cL_law 487 = .ok (.invokevirtual 68, 3) := by decide +kernel
theorem dL_law_490 : decode cL_law 490 = .ok (.if_icmp .eq 544, 3) := by decide +kernel
theorem dL_law_493 : decode cL_law 493 = .ok (.iconst 0, 1) := by decide +kernel
theorem dL_law_494 : decode cL_law 494 = .ok (.ireturn, 1) := by decide +kernel
theorem dL_law_495 : decode cL_law 495 = .ok (.aload_n 1, 1) := by decide +kernel
theorem dL_law_496 : decode cL_law 496 = .ok (.aload_n 0, 1) := by decide +kernel
theorem dL_law_497 : decode cL_law 497 = .ok (.iload_n 3, 1) := by decide +kernel
theorem dL_law_498 : decode cL_law 498 = .ok (.iconst 1, 1) := by decide +kernel
theorem dL_law_499 : decode cL_law 499 = .ok (.iadd, 1) := by decide +kernel
theorem dL_law_500 : decode cL_law 500 = .ok (.iaload, 1) := by decide +kernel
theorem dL_law_501 : decode cL_law 501 = .ok (.invokevirtual 69, 3) := by decide +kernel
theorem dL_law_504 : decode cL_law 504 = .ok (.aload_n 2, 1) := by decide +kernel
theorem dL_law_505 : decode cL_law 505 = .ok (.aload_n 0, 1) := by decide +kernel
theorem dL_law_506 : decode cL_law 506 = .ok (.iload_n 3, 1) := by decide +kernel
theorem dL_law_507 : decode cL_law 507 = .ok (.iconst 1, 1) := by decide +kernel
theorem dL_law_508 : decode cL_law 508 = .ok (.iadd, 1) := by decide +kernel
theorem dL_law_509 : decode cL_law 509 = .ok (.iaload, 1) := by decide +kernel
theorem dL_law_510 : decode cL_law 510 = .ok (.invokevirtual 72, 3) := by decide +kernel
theorem dL_law_513 : decode cL_law 513 = .ok (.if_icmp .eq 521, 3) := by decide +kernel
theorem dL_law_516 : decode cL_law 516 = .ok (.iconst 0, 1) := by decide +kernel
theorem dL_law_517 : decode cL_law 517 = .ok (.ireturn, 1) := by decide +kernel
theorem dL_law_518 : decode cL_law 518 = .ok (.aload_n 1, 1) := by decide +kernel
theorem dL_law_519 : decode cL_law 519 = .ok (.invokevirtual 73, 3) := by decide +kernel
theorem dL_law_522 : decode cL_law 522 = .ok (.aload_n 2, 1) := by decide +kernel
theorem dL_law_523 : decode cL_law 523 = .ok (.invokevirtual 76, 3) := by decide +kernel
theorem dL_law_526 : decode cL_law 526 = .ok (.if_icmp .eq 508, 3) := by decide +kernel
theorem dL_law_529 : decode cL_law 529 = .ok (.iconst 0, 1) := by decide +kernel
theorem dL_law_530 : decode cL_law 530 = .ok (.ireturn, 1) := by decide +kernel
theorem dL_law_531 : decode cL_law 531 = .ok (.aload_n 1, 1) := by decide +kernel
theorem dL_law_532 : decode cL_law 532 = .ok (.aload_n 0, 1) := by decide +kernel
theorem dL_law_533 : decode cL_law 533 = .ok (.iload_n 3, 1) := by decide +kernel
theorem dL_law_534 : decode cL_law 534 = .ok (.iconst 1, 1) := by decide +kernel
theorem dL_law_535 : decode cL_law 535 = .ok (.iadd, 1) := by decide +kernel
theorem dL_law_536 : decode cL_law 536 = .ok (.iaload, 1) := by decide +kernel
theorem dL_law_537 : decode cL_law 537 = .ok (.aload_n 0, 1) := by decide +kernel
theorem dL_law_538 : decode cL_law 538 = .ok (.iload_n 3, 1) := by decide +kernel
theorem dL_law_539 : decode cL_law 539 = .ok (.iconst 2, 1) := by decide +kernel
theorem dL_law_540 : decode cL_law 540 = .ok (.iadd, 1) := by decide +kernel
theorem dL_law_541 : decode cL_law 541 = .ok (.iaload, 1) := by decide +kernel
theorem dL_law_542 : decode cL_law 542 = .ok (.invokevirtual 77, 3) := by decide +kernel
theorem dL_law_545 : decode cL_law 545 = .ok (.aload_n 2, 1) := by decide +kernel
theorem dL_law_546 : decode cL_law 546 = .ok (.aload_n 0, 1) := by decide +kernel
theorem dL_law_547 : decode cL_law 547 = .ok (.iload_n 3, 1) := by decide +kernel
theorem dL_law_548 : decode cL_law 548 = .ok (.iconst 1, 1) := by decide +kernel
theorem dL_law_549 : decode cL_law 549 = .ok (.iadd, 1) := by decide +kernel
theorem dL_law_550 : decode cL_law 550 = .ok (.iaload, 1) := by decide +kernel
theorem dL_law_551 : decode cL_law 551 = .ok (.aload_n 0, 1) := by decide +kernel
theorem dL_law_552 : decode cL_law 552 = .ok (.iload_n 3, 1) := by decide +kernel
theorem dL_law_553 : decode cL_law 553 = .ok (.iconst 2, 1) := by decide +kernel
theorem dL_law_554 : decode cL_law 554 = .ok (.iadd, 1) := by decide +kernel
theorem dL_law_555 : decode cL_law 555 = .ok (.iaload, 1) := by decide +kernel
theorem dL_law_556 : decode cL_law 556 = .ok (.invokevirtual 80, 3) := by decide +kernel
theorem dL_law_559 : decode cL_law 559 = .ok (.if_icmp .eq 475, 3) := by decide +kernel
theorem dL_law_562 : decode cL_law 562 = .ok (.iconst 0, 1) := by decide +kernel
theorem dL_law_563 : decode cL_law 563 = .ok (.ireturn, 1) := by decide +kernel
theorem dL_law_564 : decode cL_law 564 = .ok (.aload_n 1, 1) := by decide +kernel
theorem dL_law_565 : decode cL_law 565 = .ok (.aload_n 0, 1) := by decide +kernel
theorem dL_law_566 : decode cL_law 566 = .ok (.iload_n 3, 1) := by decide +kernel
theorem dL_law_567 : decode cL_law 567 = .ok (.iconst 1, 1) := by decide +kernel
theorem dL_law_568 : decode cL_law 568 = .ok (.iadd, 1) := by decide +kernel
theorem dL_law_569 : decode cL_law 569 = .ok (.iaload, 1) := by decide +kernel
theorem dL_law_570 : decode cL_law 570 = .ok (.aload_n 0, 1) := by decide +kernel
theorem dL_law_571 : decode cL_law 571 = .ok (.iload_n 3, 1) := by decide +kernel
theorem dL_law_572 : decode cL_law 572 = .ok (.iconst 2, 1) := by decide +kernel
theorem dL_law_573 : decode cL_law 573 = .ok (.iadd, 1) := by decide +kernel
theorem dL_law_574 : decode cL_law 574 = .ok (.iaload, 1) := by decide +kernel
theorem dL_law_575 : decode cL_law 575 = .ok (.invokevirtual 81, 3) := by decide +kernel
theorem dL_law_578 : decode cL_law 578 = .ok (.aload_n 2, 1) := by decide +kernel
theorem dL_law_579 : decode cL_law 579 = .ok (.aload_n 0, 1) := by decide +kernel
theorem dL_law_580 : decode cL_law 580 = .ok (.iload_n 3, 1) := by decide +kernel
theorem dL_law_581 : decode cL_law 581 = .ok (.iconst 1, 1) := by decide +kernel
theorem dL_law_582 : decode cL_law 582 = .ok (.iadd, 1) := by decide +kernel
theorem dL_law_583 : decode cL_law 583 = .ok (.iaload, 1) := by decide +kernel
theorem dL_law_584 : decode cL_law 584 = .ok (.aload_n 0, 1) := by decide +kernel
theorem dL_law_585 : decode cL_law 585 = .ok (.iload_n 3, 1) := by decide +kernel
theorem dL_law_586 : decode cL_law 586 = .ok (.iconst 2, 1) := by decide +kernel
theorem dL_law_587 : decode cL_law 587 = .ok (.iadd, 1) := by decide +kernel
theorem dL_law_588 : decode cL_law 588 = .ok (.iaload, 1) := by decide +kernel
theorem dL_law_589 : decode cL_law 589 = .ok (.invokevirtual 84, 3) := by decide +kernel
theorem dL_law_592 : decode cL_law 592 = .ok (.if_icmp .eq 442, 3) := by decide +kernel
theorem dL_law_595 : decode cL_law 595 = .ok (.iconst 0, 1) := by decide +kernel
theorem dL_law_596 : decode cL_law 596 = .ok (.ireturn, 1) := by decide +kernel
theorem dL_law_597 : decode cL_law 597 = .ok (.aload_n 1, 1) := by decide +kernel
theorem dL_law_598 : decode cL_law 598 = .ok (.aload_n 0, 1) := by decide +kernel
theorem dL_law_599 : decode cL_law 599 = .ok (.iload_n 3, 1) := by decide +kernel
theorem dL_law_600 : decode cL_law 600 = .ok (.iconst 1, 1) := by decide +kernel
theorem dL_law_601 : decode cL_law 601 = .ok (.iadd, 1) := by decide +kernel
theorem dL_law_602 : decode cL_law 602 = .ok (.iaload, 1) := by decide +kernel
theorem dL_law_603 : decode cL_law 603 = .ok (.invokevirtual 85, 3) := by decide +kernel
theorem dL_law_606 : decode cL_law 606 = .ok (.aload_n 2, 1) := by decide +kernel
theorem dL_law_607 : decode cL_law 607 = .ok (.aload_n 0, 1) := by decide +kernel
theorem dL_law_608 : decode cL_law 608 = .ok (.iload_n 3, 1) := by decide +kernel
theorem dL_law_609 : decode cL_law 609 = .ok (.iconst 1, 1) := by decide +kernel
theorem dL_law_610 : decode cL_law 610 = .ok (.iadd, 1) := by decide +kernel
theorem dL_law_611 : decode cL_law 611 = .ok (.iaload, 1) := by decide +kernel
theorem dL_law_612 : decode cL_law 612 = .ok (.invokevirtual 88, 3) := by decide +kernel
theorem dL_law_615 : decode cL_law 615 = .ok (.if_icmp .eq 419, 3) := by decide +kernel
theorem dL_law_618 : decode cL_law 618 = .ok (.iconst 0, 1) := by decide +kernel
theorem dL_law_619 : decode cL_law 619 = .ok (.ireturn, 1) := by decide +kernel
theorem dL_law_620 : decode cL_law 620 = .ok (.aload_n 1, 1) := by decide +kernel
theorem dL_law_621 : decode cL_law 621 = .ok (.aload_n 0, 1) := by decide +kernel
theorem dL_law_622 : decode cL_law 622 = .ok (.iload_n 3, 1) := by decide +kernel
theorem dL_law_623 : decode cL_law 623 = .ok (.iconst 1, 1) := by decide +kernel
theorem dL_law_624 : decode cL_law 624 = .ok (.iadd, 1) := by decide +kernel
theorem dL_law_625 : decode cL_law 625 = .ok (.iaload, 1) := by decide +kernel
theorem dL_law_626 : decode cL_law 626 = .ok (.invokevirtual 89, 3) := by decide +kernel
theorem dL_law_629 : decode cL_law 629 = .ok (.aload_n 2, 1) := by decide +kernel
theorem dL_law_630 : decode cL_law 630 = .ok (.aload_n 0, 1) := by decide +kernel
theorem dL_law_631 : decode cL_law 631 = .ok (.iload_n 3, 1) := by decide +kernel
theorem dL_law_632 : decode cL_law 632 = .ok (.iconst 1, 1) := by decide +kernel
theorem dL_law_633 : decode cL_law 633 = .ok (.iadd, 1) := by decide +kernel
theorem dL_law_634 : decode cL_law 634 = .ok (.iaload, 1) := by decide +kernel
theorem dL_law_635 : decode cL_law 635 = .ok (.invokevirtual 92, 3) := by decide +kernel
theorem dL_law_638 : decode cL_law 638 = .ok (.if_icmp .eq 396, 3) := by decide +kernel
theorem dL_law_641 : decode cL_law 641 = .ok (.iconst 0, 1) := by decide +kernel
theorem dL_law_642 : decode cL_law 642 = .ok (.ireturn, 1) := by decide +kernel
theorem dL_law_643 : decode cL_law 643 = .ok (.aload_n 1, 1) := by decide +kernel
theorem dL_law_644 : decode cL_law 644 = .ok (.aload_n 0, 1) := by decide +kernel
theorem dL_law_645 : decode cL_law 645 = .ok (.iload_n 3, 1) := by decide +kernel
theorem dL_law_646 : decode cL_law 646 = .ok (.iconst 1, 1) := by decide +kernel
theorem dL_law_647 : decode cL_law 647 = .ok (.iadd, 1) := by decide +kernel
theorem dL_law_648 : decode cL_law 648 = .ok (.iaload, 1) := by decide +kernel
theorem dL_law_649 : decode cL_law 649 = .ok (.aload_n 0, 1) := by decide +kernel
theorem dL_law_650 : decode cL_law 650 = .ok (.iload_n 3, 1) := by decide +kernel
theorem dL_law_651 : decode cL_law 651 = .ok (.iconst 2, 1) := by decide +kernel
theorem dL_law_652 : decode cL_law 652 = .ok (.iadd, 1) := by decide +kernel
theorem dL_law_653 : decode cL_law 653 = .ok (.iaload, 1) := by decide +kernel
theorem dL_law_654 : decode cL_law 654 = .ok (.invokevirtual 93, 3) := by decide +kernel
theorem dL_law_657 : decode cL_law 657 = .ok (.aload_n 2, 1) := by decide +kernel
theorem dL_law_658 : decode cL_law 658 = .ok (.aload_n 0, 1) := by decide +kernel
theorem dL_law_659 : decode cL_law 659 = .ok (.iload_n 3, 1) := by decide +kernel
theorem dL_law_660 : decode cL_law 660 = .ok (.iconst 1, 1) := by decide +kernel
theorem dL_law_661 : decode cL_law 661 = .ok (.iadd, 1) := by decide +kernel
theorem dL_law_662 : decode cL_law 662 = .ok (.iaload, 1) := by decide +kernel
theorem dL_law_663 : decode cL_law 663 = .ok (.aload_n 0, 1) := by decide +kernel
theorem dL_law_664 : decode cL_law 664 = .ok (.iload_n 3, 1) := by decide +kernel
theorem dL_law_665 : decode cL_law 665 = .ok (.iconst 2, 1) := by decide +kernel
theorem dL_law_666 : decode cL_law 666 = .ok (.iadd, 1) := by decide +kernel
theorem dL_law_667 : decode cL_law 667 = .ok (.iaload, 1) := by decide +kernel
theorem dL_law_668 : decode cL_law 668 = .ok (.invokevirtual 96, 3) := by decide +kernel
theorem dL_law_671 : decode cL_law 671 = .ok (.if_icmp .eq 363, 3) := by decide +kernel
theorem dL_law_674 : decode cL_law 674 = .ok (.iconst 0, 1) := by decide +kernel
theorem dL_law_675 : decode cL_law 675 = .ok (.ireturn, 1) := by decide +kernel
theorem dL_law_676 : decode cL_law 676 = .ok (.aload_n 1, 1) := by decide +kernel
theorem dL_law_677 : decode cL_law 677 = .ok (.invokevirtual 97, 3) := by decide +kernel
theorem dL_law_680 : decode cL_law 680 = .ok (.aload_n 2, 1) := by decide +kernel
theorem dL_law_681 : decode cL_law 681 = .ok (.invokevirtual 100, 3) := by decide +kernel
theorem dL_law_684 : decode cL_law 684 = .ok (.if_icmp .eq 350, 3) := by decide +kernel
theorem dL_law_687 : decode cL_law 687 = .ok (.iconst 0, 1) := by decide +kernel
theorem dL_law_688 : decode cL_law 688 = .ok (.ireturn, 1) := by decide +kernel
theorem dL_law_689 : decode cL_law 689 = .ok (.aload_n 1, 1) := by decide +kernel
theorem dL_law_690 : decode cL_law 690 = .ok (.aload_n 0, 1) := by decide +kernel
theorem dL_law_691 : decode cL_law 691 = .ok (.iload_n 3, 1) := by decide +kernel
theorem dL_law_692 : decode cL_law 692 = .ok (.iconst 1, 1) := by decide +kernel
theorem dL_law_693 : decode cL_law 693 = .ok (.iadd, 1) := by decide +kernel
theorem dL_law_694 : decode cL_law 694 = .ok (.iaload, 1) := by decide +kernel
theorem dL_law_695 : decode cL_law 695 = .ok (.invokevirtual 101, 3) := by decide +kernel
theorem dL_law_698 : decode cL_law 698 = .ok (.aload_n 2, 1) := by decide +kernel
theorem dL_law_699 : decode cL_law 699 = .ok (.aload_n 0, 1) := by decide +kernel
theorem dL_law_700 : decode cL_law 700 = .ok (.iload_n 3, 1) := by decide +kernel
theorem dL_law_701 : decode cL_law 701 = .ok (.iconst 1, 1) := by decide +kernel
theorem dL_law_702 : decode cL_law 702 = .ok (.iadd, 1) := by decide +kernel
theorem dL_law_703 : decode cL_law 703 = .ok (.iaload, 1) := by decide +kernel
theorem dL_law_704 : decode cL_law 704 = .ok (.invokevirtual 104, 3) := by decide +kernel
theorem dL_law_707 : decode cL_law 707 = .ok (.if_icmp .eq 327, 3) := by decide +kernel
theorem dL_law_710 : decode cL_law 710 = .ok (.iconst 0, 1) := by decide +kernel
theorem dL_law_711 : decode cL_law 711 = .ok (.ireturn, 1) := by decide +kernel
theorem dL_law_712 : decode cL_law 712 = .ok (.aload_n 1, 1) := by decide +kernel
theorem dL_law_713 : decode cL_law 713 = .ok (.aload_n 0, 1) := by decide +kernel
theorem dL_law_714 : decode cL_law 714 = .ok (.iload_n 3, 1) := by decide +kernel
theorem dL_law_715 : decode cL_law 715 = .ok (.iconst 1, 1) := by decide +kernel
theorem dL_law_716 : decode cL_law 716 = .ok (.iadd, 1) := by decide +kernel
theorem dL_law_717 : decode cL_law 717 = .ok (.iaload, 1) := by decide +kernel
theorem dL_law_718 : decode cL_law 718 = .ok (.aload_n 0, 1) := by decide +kernel
theorem dL_law_719 : decode cL_law 719 = .ok (.iload_n 3, 1) := by decide +kernel
theorem dL_law_720 : decode cL_law 720 = .ok (.iconst 2, 1) := by decide +kernel
theorem dL_law_721 : decode cL_law 721 = .ok (.iadd, 1) := by decide +kernel
theorem dL_law_722 : decode cL_law 722 = .ok (.iaload, 1) := by decide +kernel
theorem dL_law_723 : decode cL_law 723 = .ok (.invokevirtual 105, 3) := by decide +kernel
theorem dL_law_726 : decode cL_law 726 = .ok (.aload_n 2, 1) := by decide +kernel
theorem dL_law_727 : decode cL_law 727 = .ok (.aload_n 0, 1) := by decide +kernel
theorem dL_law_728 : decode cL_law 728 = .ok (.iload_n 3, 1) := by decide +kernel
theorem dL_law_729 : decode cL_law 729 = .ok (.iconst 1, 1) := by decide +kernel
theorem dL_law_730 : decode cL_law 730 = .ok (.iadd, 1) := by decide +kernel
theorem dL_law_731 : decode cL_law 731 = .ok (.iaload, 1) := by decide +kernel
theorem dL_law_732 : decode cL_law 732 = .ok (.aload_n 0, 1) := by decide +kernel
theorem dL_law_733 : decode cL_law 733 = .ok (.iload_n 3, 1) := by decide +kernel
theorem dL_law_734 : decode cL_law 734 = .ok (.iconst 2, 1) := by decide +kernel
theorem dL_law_735 : decode cL_law 735 = .ok (.iadd, 1) := by decide +kernel
theorem dL_law_736 : decode cL_law 736 = .ok (.iaload, 1) := by decide +kernel
theorem dL_law_737 : decode cL_law 737 = .ok (.invokevirtual 108, 3) := by decide +kernel
theorem dL_law_740 : decode cL_law 740 = .ok (.if_icmp .eq 294, 3) := by decide +kernel
theorem dL_law_743 : decode cL_law 743 = .ok (.iconst 0, 1) := by decide +kernel
theorem dL_law_744 : decode cL_law 744 = .ok (.ireturn, 1) := by decide +kernel
theorem dL_law_745 : decode cL_law 745 = .ok (.aload_n 1, 1) := by decide +kernel
theorem dL_law_746 : decode cL_law 746 = .ok (.aload_n 0, 1) := by decide +kernel
theorem dL_law_747 : decode cL_law 747 = .ok (.iload_n 3, 1) := by decide +kernel
theorem dL_law_748 : decode cL_law 748 = .ok (.iconst 1, 1) := by decide +kernel
theorem dL_law_749 : decode cL_law 749 = .ok (.iadd, 1) := by decide +kernel
theorem dL_law_750 : decode cL_law 750 = .ok (.iaload, 1) := by decide +kernel
theorem dL_law_751 : decode cL_law 751 = .ok (.aload_n 0, 1) := by decide +kernel
theorem dL_law_752 : decode cL_law 752 = .ok (.iload_n 3, 1) := by decide +kernel
theorem dL_law_753 : decode cL_law 753 = .ok (.iconst 2, 1) := by decide +kernel
theorem dL_law_754 : decode cL_law 754 = .ok (.iadd, 1) := by decide +kernel
theorem dL_law_755 : decode cL_law 755 = .ok (.iaload, 1) := by decide +kernel
theorem dL_law_756 : decode cL_law 756 = .ok (.invokevirtual 109, 3) := by decide +kernel
theorem dL_law_759 : decode cL_law 759 = .ok (.aload_n 2, 1) := by decide +kernel
theorem dL_law_760 : decode cL_law 760 = .ok (.aload_n 0, 1) := by decide +kernel
theorem dL_law_761 : decode cL_law 761 = .ok (.iload_n 3, 1) := by decide +kernel
theorem dL_law_762 : decode cL_law 762 = .ok (.iconst 1, 1) := by decide +kernel
theorem dL_law_763 : decode cL_law 763 = .ok (.iadd, 1) := by decide +kernel
theorem dL_law_764 : decode cL_law 764 = .ok (.iaload, 1) := by decide +kernel
theorem dL_law_765 : decode cL_law 765 = .ok (.aload_n 0, 1) := by decide +kernel
theorem dL_law_766 : decode cL_law 766 = .ok (.iload_n 3, 1) := by decide +kernel
theorem dL_law_767 : decode cL_law 767 = .ok (.iconst 2, 1) := by decide +kernel
theorem dL_law_768 : decode cL_law 768 = .ok (.iadd, 1) := by decide +kernel
theorem dL_law_769 : decode cL_law 769 = .ok (.iaload, 1) := by decide +kernel
theorem dL_law_770 : decode cL_law 770 = .ok (.invokevirtual 112, 3) := by decide +kernel
theorem dL_law_773 : decode cL_law 773 = .ok (.if_icmp .eq 261, 3) := by decide +kernel
theorem dL_law_776 : decode cL_law 776 = .ok (.iconst 0, 1) := by decide +kernel
theorem dL_law_777 : decode cL_law 777 = .ok (.ireturn, 1) := by decide +kernel
theorem dL_law_778 : decode cL_law 778 = .ok (.aload_n 1, 1) := by decide +kernel
theorem dL_law_779 : decode cL_law 779 = .ok (.aload_n 0, 1) := by decide +kernel
theorem dL_law_780 : decode cL_law 780 = .ok (.iload_n 3, 1) := by decide +kernel
theorem dL_law_781 : decode cL_law 781 = .ok (.iconst 1, 1) := by decide +kernel
theorem dL_law_782 : decode cL_law 782 = .ok (.iadd, 1) := by decide +kernel
theorem dL_law_783 : decode cL_law 783 = .ok (.iaload, 1) := by decide +kernel
theorem dL_law_784 : decode cL_law 784 = .ok (.aload_n 0, 1) := by decide +kernel
theorem dL_law_785 : decode cL_law 785 = .ok (.iload_n 3, 1) := by decide +kernel
theorem dL_law_786 : decode cL_law 786 = .ok (.iconst 2, 1) := by decide +kernel
theorem dL_law_787 : decode cL_law 787 = .ok (.iadd, 1) := by decide +kernel
theorem dL_law_788 : decode cL_law 788 = .ok (.iaload, 1) := by decide +kernel
theorem dL_law_789 : decode cL_law 789 = .ok (.aload_n 0, 1) := by decide +kernel
theorem dL_law_790 : decode cL_law 790 = .ok (.iload_n 3, 1) := by decide +kernel
theorem dL_law_791 : decode cL_law 791 = .ok (.iconst 3, 1) := by decide +kernel
theorem dL_law_792 : decode cL_law 792 = .ok (.iadd, 1) := by decide +kernel
theorem dL_law_793 : decode cL_law 793 = .ok (.iaload, 1) := by decide +kernel
theorem dL_law_794 : decode cL_law 794 = .ok (.aload_n 0, 1) := by decide +kernel
theorem dL_law_795 : decode cL_law 795 = .ok (.iload_n 3, 1) := by decide +kernel
theorem dL_law_796 : decode cL_law 796 = .ok (.iconst 4, 1) := by decide +kernel
theorem dL_law_797 : decode cL_law 797 = .ok (.iadd, 1) := by decide +kernel
theorem dL_law_798 : decode cL_law 798 = .ok (.iaload, 1) := by decide +kernel
theorem dL_law_799 : decode cL_law 799 = .ok (.invokevirtual 113, 3) := by decide +kernel
theorem dL_law_802 : decode cL_law 802 = .ok (.aload_n 2, 1) := by decide +kernel
theorem dL_law_803 : decode cL_law 803 = .ok (.aload_n 0, 1) := by decide +kernel
theorem dL_law_804 : decode cL_law 804 = .ok (.iload_n 3, 1) := by decide +kernel
theorem dL_law_805 : decode cL_law 805 = .ok (.iconst 1, 1) := by decide +kernel
theorem dL_law_806 : decode cL_law 806 = .ok (.iadd, 1) := by decide +kernel
theorem dL_law_807 : decode cL_law 807 = .ok (.iaload, 1) := by decide +kernel
theorem dL_law_808 : decode cL_law 808 = .ok (.aload_n 0, 1) := by decide +kernel
theorem dL_law_809 : decode cL_law 809 = .ok (.iload_n 3, 1) := by decide +kernel
theorem dL_law_810 : decode cL_law 810 = .ok (.iconst 2, 1) := by decide +kernel
theorem dL_law_811 : decode cL_law 811 = .ok (.iadd, 1) := by decide +kernel
theorem dL_law_812 : decode cL_law 812 = .ok (.iaload, 1) := by decide +kernel
theorem dL_law_813 : decode cL_law 813 = .ok (.aload_n 0, 1) := by decide +kernel
theorem dL_law_814 : decode cL_law 814 = .ok (.iload_n 3, 1) := by decide +kernel
theorem dL_law_815 : decode cL_law 815 = .ok (.iconst 3, 1) := by decide +kernel
theorem dL_law_816 : decode cL_law 816 = .ok (.iadd, 1) := by decide +kernel
theorem dL_law_817 : decode cL_law 817 = .ok (.iaload, 1) := by decide +kernel
theorem dL_law_818 : decode cL_law 818 = .ok (.aload_n 0, 1) := by decide +kernel
theorem dL_law_819 : decode cL_law 819 = .ok (.iload_n 3, 1) := by decide +kernel
theorem dL_law_820 : decode cL_law 820 = .ok (.iconst 4, 1) := by decide +kernel
theorem dL_law_821 : decode cL_law 821 = .ok (.iadd, 1) := by decide +kernel
theorem dL_law_822 : decode cL_law 822 = .ok (.iaload, 1) := by decide +kernel
theorem dL_law_823 : decode cL_law 823 = .ok (.invokevirtual 117, 3) := by decide +kernel
theorem dL_law_826 : decode cL_law 826 = .ok (.if_icmp .eq 208, 3) := by decide +kernel
theorem dL_law_829 : decode cL_law 829 = .ok (.iconst 0, 1) := by decide +kernel
theorem dL_law_830 : decode cL_law 830 = .ok (.ireturn, 1) := by decide +kernel
theorem dL_law_831 : decode cL_law 831 = .ok (.aload_n 1, 1) := by decide +kernel
theorem dL_law_832 : decode cL_law 832 = .ok (.aload_n 0, 1) := by decide +kernel
theorem dL_law_833 : decode cL_law 833 = .ok (.iload_n 3, 1) := by decide +kernel
theorem dL_law_834 : decode cL_law 834 = .ok (.iconst 1, 1) := by decide +kernel
theorem dL_law_835 : decode cL_law 835 = .ok (.iadd, 1) := by decide +kernel
theorem dL_law_836 : decode cL_law 836 = .ok (.iaload, 1) := by decide +kernel
theorem dL_law_837 : decode cL_law 837 = .ok (.aload_n 0, 1) := by decide +kernel
theorem dL_law_838 : decode cL_law 838 = .ok (.iload_n 3, 1) := by decide +kernel
theorem dL_law_839 : decode cL_law 839 = .ok (.iconst 2, 1) := by decide +kernel
theorem dL_law_840 : decode cL_law 840 = .ok (.iadd, 1) := by decide +kernel
theorem dL_law_841 : decode cL_law 841 = .ok (.iaload, 1) := by decide +kernel
theorem dL_law_842 : decode cL_law 842 = .ok (.aload_n 0, 1) := by decide +kernel
theorem dL_law_843 : decode cL_law 843 = .ok (.iload_n 3, 1) := by decide +kernel
theorem dL_law_844 : decode cL_law 844 = .ok (.iconst 3, 1) := by decide +kernel
theorem dL_law_845 : decode cL_law 845 = .ok (.iadd, 1) := by decide +kernel
theorem dL_law_846 : decode cL_law 846 = .ok (.iaload, 1) := by decide +kernel
theorem dL_law_847 : decode cL_law 847 = .ok (.aload_n 0, 1) := by decide +kernel
theorem dL_law_848 : decode cL_law 848 = .ok (.iload_n 3, 1) := by decide +kernel
theorem dL_law_849 : decode cL_law 849 = .ok (.iconst 4, 1) := by decide +kernel
theorem dL_law_850 : decode cL_law 850 = .ok (.iadd, 1) := by decide +kernel
theorem dL_law_851 : decode cL_law 851 = .ok (.iaload, 1) := by decide +kernel
theorem dL_law_852 : decode cL_law 852 = .ok (.aload_n 0, 1) := by decide +kernel
theorem dL_law_853 : decode cL_law 853 = .ok (.iload_n 3, 1) := by decide +kernel
theorem dL_law_854 : decode cL_law 854 = .ok (.iconst 5, 1) := by decide +kernel
theorem dL_law_855 : decode cL_law 855 = .ok (.iadd, 1) := by decide +kernel
theorem dL_law_856 : decode cL_law 856 = .ok (.iaload, 1) := by decide +kernel
theorem dL_law_857 : decode cL_law 857 = .ok (.aload_n 0, 1) := by decide +kernel
theorem dL_law_858 : decode cL_law 858 = .ok (.iload_n 3, 1) := by decide +kernel
theorem dL_law_859 : decode cL_law 859 = .ok (.bipush 6, 2) := by decide +kernel
theorem dL_law_861 : decode cL_law 861 = .ok (.iadd, 1) := by decide +kernel
theorem dL_law_862 : decode cL_law 862 = .ok (.iaload, 1) := by decide +kernel
theorem dL_law_863 : decode cL_law 863 = .ok (.invokevirtual 118, 3) := by decide +kernel
theorem dL_law_866 : decode cL_law 866 = .ok (.aload_n 2, 1) := by decide +kernel
theorem dL_law_867 : decode cL_law 867 = .ok (.aload_n 0, 1) := by decide +kernel
theorem dL_law_868 : decode cL_law 868 = .ok (.iload_n 3, 1) := by decide +kernel
theorem dL_law_869 : decode cL_law 869 = .ok (.iconst 1, 1) := by decide +kernel
theorem dL_law_870 : decode cL_law 870 = .ok (.iadd, 1) := by decide +kernel
theorem dL_law_871 : decode cL_law 871 = .ok (.iaload, 1) := by decide +kernel
theorem dL_law_872 : decode cL_law 872 = .ok (.aload_n 0, 1) := by decide +kernel
theorem dL_law_873 : decode cL_law 873 = .ok (.iload_n 3, 1) := by decide +kernel
theorem dL_law_874 : decode cL_law 874 = .ok (.iconst 2, 1) := by decide +kernel
theorem dL_law_875 : decode cL_law 875 = .ok (.iadd, 1) := by decide +kernel
theorem dL_law_876 : decode cL_law 876 = .ok (.iaload, 1) := by decide +kernel
theorem dL_law_877 : decode cL_law 877 = .ok (.aload_n 0, 1) := by decide +kernel
theorem dL_law_878 : decode cL_law 878 = .ok (.iload_n 3, 1) := by decide +kernel
theorem dL_law_879 : decode cL_law 879 = .ok (.iconst 3, 1) := by decide +kernel
theorem dL_law_880 : decode cL_law 880 = .ok (.iadd, 1) := by decide +kernel
theorem dL_law_881 : decode cL_law 881 = .ok (.iaload, 1) := by decide +kernel
theorem dL_law_882 : decode cL_law 882 = .ok (.aload_n 0, 1) := by decide +kernel
theorem dL_law_883 : decode cL_law 883 = .ok (.iload_n 3, 1) := by decide +kernel
theorem dL_law_884 : decode cL_law 884 = .ok (.iconst 4, 1) := by decide +kernel
theorem dL_law_885 : decode cL_law 885 = .ok (.iadd, 1) := by decide +kernel
theorem dL_law_886 : decode cL_law 886 = .ok (.iaload, 1) := by decide +kernel
theorem dL_law_887 : decode cL_law 887 = .ok (.aload_n 0, 1) := by decide +kernel
theorem dL_law_888 : decode cL_law 888 = .ok (.iload_n 3, 1) := by decide +kernel
theorem dL_law_889 : decode cL_law 889 = .ok (.iconst 5, 1) := by decide +kernel
theorem dL_law_890 : decode cL_law 890 = .ok (.iadd, 1) := by decide +kernel
theorem dL_law_891 : decode cL_law 891 = .ok (.iaload, 1) := by decide +kernel
theorem dL_law_892 : decode cL_law 892 = .ok (.aload_n 0, 1) := by decide +kernel
theorem dL_law_893 : decode cL_law 893 = .ok (.iload_n 3, 1) := by decide +kernel
theorem dL_law_894 : decode cL_law 894 = .ok (.bipush 6, 2) := by decide +kernel
theorem dL_law_896 : decode cL_law 896 = .ok (.iadd, 1) := by decide +kernel
theorem dL_law_897 : decode cL_law 897 = .ok (.iaload, 1) := by decide +kernel
theorem dL_law_898 : decode cL_law 898 = .ok (.invokevirtual 122, 3) := by decide +kernel
theorem dL_law_901 : decode cL_law 901 = .ok (.if_icmp .eq 133, 3) := by decide +kernel
theorem dL_law_904 : decode cL_law 904 = .ok (.iconst 0, 1) := by decide +kernel
theorem dL_law_905 : decode cL_law 905 = .ok (.ireturn, 1) := by decide +kernel
theorem dL_law_906 : decode cL_law 906 = .ok (.aload_n 1, 1) := by decide +kernel
theorem dL_law_907 : decode cL_law 907 = .ok (.aload_n 0, 1) := by decide +kernel
theorem dL_law_908 : decode cL_law 908 = .ok (.iload_n 3, 1) := by decide +kernel
theorem dL_law_909 : decode cL_law 909 = .ok (.iconst 1, 1) := by decide +kernel
theorem dL_law_910 : decode cL_law 910 = .ok (.iadd, 1) := by decide +kernel
theorem dL_law_911 : decode cL_law 911 = .ok (.iaload, 1) := by decide +kernel
theorem dL_law_912 : decode cL_law 912 = .ok (.invokevirtual 123, 3) := by decide +kernel
theorem dL_law_915 : decode cL_law 915 = .ok (.aload_n 2, 1) := by decide +kernel
theorem dL_law_916 : decode cL_law 916 = .ok (.aload_n 0, 1) := by decide +kernel
theorem dL_law_917 : decode cL_law 917 = .ok (.iload_n 3, 1) := by decide +kernel
theorem dL_law_918 : decode cL_law 918 = .ok (.iconst 1, 1) := by decide +kernel
theorem dL_law_919 : decode cL_law 919 = .ok (.iadd, 1) := by decide +kernel
theorem dL_law_920 : decode cL_law 920 = .ok (.iaload, 1) := by decide +kernel
theorem dL_law_921 : decode cL_law 921 = .ok (.invokevirtual 126, 3) := by decide +kernel
theorem dL_law_924 : decode cL_law 924 = .ok (.if_icmp .eq 110, 3) := by decide +kernel
theorem dL_law_927 : decode cL_law 927 = .ok (.iconst 0, 1) := by decide +kernel
theorem dL_law_928 : decode cL_law 928 = .ok (.ireturn, 1) := by decide +kernel
theorem dL_law_929 : decode cL_law 929 = .ok (.aload_n 1, 1) := by decide +kernel
theorem dL_law_930 : decode cL_law 930 = .ok (.aload_n 0, 1) := by decide +kernel
theorem dL_law_931 : decode cL_law 931 = .ok (.iload_n 3, 1) := by decide +kernel
theorem dL_law_932 : decode cL_law 932 = .ok (.iconst 1, 1) := by decide +kernel
theorem dL_law_933 : decode cL_law 933 = .ok (.iadd, 1) := by decide +kernel
theorem dL_law_934 : decode cL_law 934 = .ok (.iaload, 1) := by decide +kernel
theorem dL_law_935 : decode cL_law 935 = .ok (.invokevirtual 127, 3) := by decide +kernel
theorem dL_law_938 : decode cL_law 938 = .ok (.aload_n 2, 1) := by decide +kernel
theorem dL_law_939 : decode cL_law 939 = .ok (.aload_n 0, 1) := by decide +kernel
theorem dL_law_940 : decode cL_law 940 = .ok (.iload_n 3, 1) := by decide +kernel
theorem dL_law_941 : decode cL_law 941 = .ok (.iconst 1, 1) := by decide +kernel
theorem dL_law_942 : decode cL_law 942 = .ok (.iadd, 1) := by decide +kernel
theorem dL_law_943 : decode cL_law 943 = .ok (.iaload, 1) := by decide +kernel
theorem dL_law_944 : decode cL_law 944 = .ok (.invokevirtual 130, 3) := by decide +kernel
theorem dL_law_947 : decode cL_law 947 = .ok (.if_icmp .eq 87, 3) := by decide +kernel
theorem dL_law_950 : decode cL_law 950 = .ok (.iconst 0, 1) := by decide +kernel
theorem dL_law_951 : decode cL_law 951 = .ok (.ireturn, 1) := by decide +kernel
theorem dL_law_952 : decode cL_law 952 = .ok (.aload_n 1, 1) := by decide +kernel
theorem dL_law_953 : decode cL_law 953 = .ok (.aload_n 0, 1) := by decide +kernel
theorem dL_law_954 : decode cL_law 954 = .ok (.iload_n 3, 1) := by decide +kernel
theorem dL_law_955 : decode cL_law 955 = .ok (.iconst 1, 1) := by decide +kernel
theorem dL_law_956 : decode cL_law 956 = .ok (.iadd, 1) := by decide +kernel
theorem dL_law_957 : decode cL_law 957 = .ok (.iaload, 1) := by decide +kernel
theorem dL_law_958 : decode cL_law 958 = .ok (.aload_n 0, 1) := by decide +kernel
theorem dL_law_959 : decode cL_law 959 = .ok (.iload_n 3, 1) := by decide +kernel
theorem dL_law_960 : decode cL_law 960 = .ok (.iconst 2, 1) := by decide +kernel
theorem dL_law_961 : decode cL_law 961 = .ok (.iadd, 1) := by decide +kernel
theorem dL_law_962 : decode cL_law 962 = .ok (.iaload, 1) := by decide +kernel
theorem dL_law_963 : decode cL_law 963 = .ok (.invokevirtual 131, 3) := by decide +kernel
theorem dL_law_966 : decode cL_law 966 = .ok (.aload_n 2, 1) := by decide +kernel
theorem dL_law_967 : decode cL_law 967 = .ok (.aload_n 0, 1) := by decide +kernel
theorem dL_law_968 : decode cL_law 968 = .ok (.iload_n 3, 1) := by decide +kernel
theorem dL_law_969 : decode cL_law 969 = .ok (.iconst 1, 1) := by decide +kernel
theorem dL_law_970 : decode cL_law 970 = .ok (.iadd, 1) := by decide +kernel
theorem dL_law_971 : decode cL_law 971 = .ok (.iaload, 1) := by decide +kernel
theorem dL_law_972 : decode cL_law 972 = .ok (.aload_n 0, 1) := by decide +kernel
theorem dL_law_973 : decode cL_law 973 = .ok (.iload_n 3, 1) := by decide +kernel
theorem dL_law_974 : decode cL_law 974 = .ok (.iconst 2, 1) := by decide +kernel
theorem dL_law_975 : decode cL_law 975 = .ok (.iadd, 1) := by decide +kernel
theorem dL_law_976 : decode cL_law 976 = .ok (.iaload, 1) := by decide +kernel
theorem dL_law_977 : decode cL_law 977 = .ok (.invokevirtual 134, 3) := by decide +kernel
theorem dL_law_980 : decode cL_law 980 = .ok (.if_icmp .eq 54, 3) := by decide +kernel
theorem dL_law_983 : decode cL_law 983 = .ok (.iconst 0, 1) := by decide +kernel
theorem dL_law_984 : decode cL_law 984 = .ok (.ireturn, 1) := by decide +kernel
theorem dL_law_985 : decode cL_law 985 = .ok (.aload_n 1, 1) := by decide +kernel
theorem dL_law_986 : decode cL_law 986 = .ok (.invokevirtual 135, 3) := by decide +kernel
theorem dL_law_989 : decode cL_law 989 = .ok (.aload_n 2, 1) := by decide +kernel
theorem dL_law_990 : decode cL_law 990 = .ok (.invokevirtual 138, 3) := by decide +kernel
theorem dL_law_993 : decode cL_law 993 = .ok (.if_icmp .eq 41, 3) := by decide +kernel
theorem dL_law_996 : decode cL_law 996 = .ok (.iconst 0, 1) := by decide +kernel
theorem dL_law_997 : decode cL_law 997 = .ok (.ireturn, 1) := by decide +kernel
theorem dL_law_998 : decode cL_law 998 = .ok (.aload_n 1, 1) := by decide +kernel
theorem dL_law_999 : decode cL_law 999 = .ok (.invokevirtual 139, 3) := by decide +kernel
theorem dL_law_1002 : decode cL_law 1002 = .ok (.aload_n 2, 1) := by decide +kernel
theorem dL_law_1003 : decode cL_law 1003 = .ok (.invokevirtual 142, 3) := by decide +kernel
theorem dL_law_1006 : decode cL_law 1006 = .ok (.if_icmp .eq 28, 3) := by decide +kernel
theorem dL_law_1009 : decode cL_law 1009 = .ok (.iconst 0, 1) := by decide +kernel
theorem dL_law_1010 : decode cL_law 1010 = .ok (.ireturn, 1) := by decide +kernel
theorem dL_law_1011 : decode cL_law 1011 = .ok (.aload_n 1, 1) := by decide +kernel
theorem dL_law_1012 : decode cL_law 1012 = .ok (.aload_n 0, 1) := by decide +kernel
theorem dL_law_1013 : decode cL_law 1013 = .ok (.iload_n 3, 1) := by decide +kernel
theorem dL_law_1014 : decode cL_law 1014 = .ok (.iconst 1, 1) := by decide +kernel
theorem dL_law_1015 : decode cL_law 1015 = .ok (.iadd, 1) := by decide +kernel
theorem dL_law_1016 : decode cL_law 1016 = .ok (.iaload, 1) := by decide +kernel
theorem dL_law_1017 : decode cL_law 1017 = .ok (.invokevirtual 143, 3) := by decide +kernel
theorem dL_law_1020 : decode cL_law 1020 = .ok (.aload_n 2, 1) := by decide +kernel
theorem dL_law_1021 : decode cL_law 1021 = .ok (.aload_n 0, 1) := by decide +kernel
theorem dL_law_1022 : decode cL_law 1022 = .ok (.iload_n 3, 1) := by decide +kernel
theorem dL_law_1023 : decode cL_law 1023 = .ok (.iconst 1, 1) := by decide +kernel
theorem dL_law_1024 : decode cL_law 1024 = .ok (.iadd, 1) := by decide +kernel
theorem dL_law_1025 : decode cL_law 1025 = .ok (.iaload, 1) := by decide +kernel
theorem dL_law_1026 : decode cL_law 1026 = .ok (.invokevirtual 146, 3) := by decide +kernel
theorem dL_law_1029 : decode cL_law 1029 = .ok (.if_icmp .eq 5, 3) := by decide +kernel
theorem dL_law_1032 : decode cL_law 1032 = .ok (.iconst 0, 1) := by decide +kernel
theorem dL_law_1033 : decode cL_law 1033 = .ok (.ireturn, 1) := by decide +kernel
theorem dL_law_1034 : decode cL_law 1034 = .ok (.iinc 3 7, 3) := by decide +kernel
theorem dL_law_1037 : decode cL_law 1037 = .ok (.goto (-1019), 3) := by decide +kernel
theorem dL_law_1040 : decode cL_law 1040 = .ok (.iconst 1, 1) := by decide +kernel
theorem dL_law_1041 : decode cL_law 1041 = .ok (.ireturn, 1) := by decide +kernel
end
section
/-! THE ABSTRACT WORLD: places 0, 1, .. (the cell of place k lies at address base + k); wI: the ints of a place (fields by slot, elements by index), wR: its references (places), wS: its kind (0 to 11: an object of vwCl; 12 int[], 13 Turns[], 14 int[][]) and length, wN: how many places there are -/
abbrev Wd : Type := (Nat → Nat → Int32) × (Nat → Nat → Option Nat) × (Nat → Nat × Nat) × Nat
def wI (w : Wd) : Nat → Nat → Int32 := w.1
def wR (w : Wd) : Nat → Nat → Option Nat := w.2.1
def wS (w : Wd) : Nat → Nat × Nat := w.2.2.1
def wN (w : Wd) : Nat := w.2.2.2
def up2 {α : Type} (f : Nat → Nat → α) (p k : Nat) (v : α) : Nat → Nat → α := fun a b => if a = p ∧ b = k then v else f a b
def up1 {α : Type} (f : Nat → Nat → α) (p : Nat) (v : Nat → α) : Nat → Nat → α := fun a b => if a = p then v b else f a b
def gfI (c j p : Nat) (w : Wd) : Option Int32 := if p < wN w ∧ (wS w p).1 = c then some (wI w p j) else none
def gfR (c j p : Nat) (w : Wd) : Option Nat := if p < wN w ∧ (wS w p).1 = c then wR w p j else none
def pfI (c j p : Nat) (x : Int32) (w : Wd) : Option Wd := if p < wN w ∧ (wS w p).1 = c then some (up2 (wI w) p j x, wR w, wS w, wN w) else none
def pfR (c j p q : Nat) (w : Wd) : Option Wd := if p < wN w ∧ (wS w p).1 = c then some (wI w, up2 (wR w) p j (some q), wS w, wN w) else none
def rdI (p : Nat) (i : Int32) (w : Wd) : Option Int32 := if p < wN w ∧ (wS w p).1 = 12 ∧ ¬ (i < 0 ∨ (wS w p).2 ≤ i.toNatClampNeg) then some (wI w p i.toNatClampNeg) else none
def wrI (p : Nat) (i x : Int32) (w : Wd) : Option Wd := if p < wN w ∧ (wS w p).1 = 12 ∧ ¬ (i < 0 ∨ (wS w p).2 ≤ i.toNatClampNeg) then some (up2 (wI w) p i.toNatClampNeg x, wR w, wS w, wN w) else none
def rdR (c p : Nat) (i : Int32) (w : Wd) : Option Nat := if p < wN w ∧ (wS w p).1 = c ∧ ¬ (i < 0 ∨ (wS w p).2 ≤ i.toNatClampNeg) then wR w p i.toNatClampNeg else none
def wrT (p : Nat) (i : Int32) (q : Nat) (w : Wd) : Option Wd := if (p < wN w ∧ (wS w p).1 = 13 ∧ ¬ (i < 0 ∨ (wS w p).2 ≤ i.toNatClampNeg)) ∧ q < wN w ∧ (wS w q).1 = 9 then some (wI w, up2 (wR w) p i.toNatClampNeg (some q), wS w, wN w) else none
def lnA (c p : Nat) (w : Wd) : Option Int32 := if p < wN w ∧ (wS w p).1 = c then some (Int32.ofNat (wS w p).2) else none
def cpI (p : Nat) (sp : Int32) (q : Nat) (dp n : Int32) (w : Wd) : Option Wd := if (p < wN w ∧ (wS w p).1 = 12) ∧ (q < wN w ∧ (wS w q).1 = 12) ∧ ¬ sp < 0 ∧ ¬ dp < 0 ∧ ¬ n < 0 ∧ sp.toNatClampNeg + n.toNatClampNeg ≤ (wS w p).2 ∧ dp.toNatClampNeg + n.toNatClampNeg ≤ (wS w q).2 then some (up1 (wI w) q (va_cpy (wI w p) (wI w q) sp.toNatClampNeg dp.toNatClampNeg n.toNatClampNeg), wR w, wS w, wN w) else none
def dvI (x y : Int32) : Option Int32 := if y = 0 then none else some (x / y)
def rmI (x y : Int32) : Option Int32 := if y = 0 then none else some (x - x / y * y)
def bz (r : Int32) : Option Int32 := if r &&& 1 = r then some r else none
def FU : Nat := 1000000
/-- of the twelve classes: which fields are references -/
def fK : Nat → List Bool := fun c => match c with
  | 0 => [true, true]
  | 1 => [true, true, true, true, false]
  | 2 => [true, true]
  | 3 => [true, true, true, true, false, true, true, false, true, true, true, false, true]
  | 4 => [true, true, true, true, true]
  | 5 => [true, false]
  | 6 => [true, false]
  | 7 => [true, true, false, true]
  | 8 => [true, false]
  | 9 => [true, true, true, false]
  | 10 => [true, true, true, true, true, true, true, true, true, true, true, true]
  | 11 => [false, true, false, true, false, true, true, true, false, true, false, true, false, true, true, false, false, true, false, true, false, true, false, true, true, true, true, true, false, true, true, true]
  | _ => []
theorem bnd {α β : Type} {o : Option α} {f : α → Option β} {b : β} (h : o.bind f = some b) : ∃ a, o = some a ∧ f a = some b := by
  cases o with
  | none => cases h
  | some a => exact ⟨a, rfl, h⟩
theorem itt {α : Type} {c : Prop} [Decidable c] {a b x : α} (h : c) (e : (if c then a else b) = x) : a = x := by rw [if_pos h] at e; exact e
theorem itf {α : Type} {c : Prop} [Decidable c] {a b x : α} (h : ¬ c) (e : (if c then a else b) = x) : b = x := by rw [if_neg h] at e; exact e
theorem isn {c : Prop} [Decidable c] {α : Type} {a b : α} (e : (if c then some a else none) = some b) : c ∧ a = b := by
  by_cases h : c
  · rw [if_pos h] at e
    exact ⟨h, Option.some.inj e⟩
  · rw [if_neg h] at e
    cases e
theorem iso {c : Prop} [Decidable c] {α : Type} {a : Option α} {b : α} (e : (if c then a else none) = some b) : c ∧ a = some b := by
  by_cases h : c
  · rw [if_pos h] at e
    exact ⟨h, e⟩
  · rw [if_neg h] at e
    cases e
def fL (base : Nat) (w : Wd) (k : Nat) (bs : List Bool) : List Value := bs.mapIdx (fun j b => if b then va_rf ((wR w k j).map (base + ·)) else .int (wI w k j))
theorem fL_get {base : Nat} {w : Wd} {k j : Nat} {bs : List Bool} {b : Bool} (h : bs[j]? = some b) : (fL base w k bs)[j]? = some (if b then va_rf ((wR w k j).map (base + ·)) else .int (wI w k j)) := by
  simp [fL, h]
theorem fL_len {base : Nat} {w : Wd} {k : Nat} {bs : List Bool} : (fL base w k bs).length = bs.length := by simp [fL]
theorem fL_setI {base : Nat} {w : Wd} {k j : Nat} {bs : List Bool} {x : Int32} (h : bs[j]? = some false) : (fL base w k bs).set j (.int x) = fL base (up2 (wI w) k j x, wR w, wS w, wN w) k bs := by
  have hl : j < (fL base w k bs).length := by rw [fL_len]; exact (List.getElem?_eq_some_iff.mp h).1
  apply List.ext_getElem?
  intro i
  by_cases hi : i = j
  · subst hi
    rw [List.getElem?_set_self hl, fL_get h]
    simp [wI, up2]
  · rw [List.getElem?_set_ne (Ne.symm hi)]
    simp [fL, wI, wR, up2, hi]
theorem fL_setR {base : Nat} {w : Wd} {k j q : Nat} {bs : List Bool} (h : bs[j]? = some true) : (fL base w k bs).set j (.ref (base + q)) = fL base (wI w, up2 (wR w) k j (some q), wS w, wN w) k bs := by
  have hl : j < (fL base w k bs).length := by rw [fL_len]; exact (List.getElem?_eq_some_iff.mp h).1
  apply List.ext_getElem?
  intro i
  by_cases hi : i = j
  · subst hi
    rw [List.getElem?_set_self hl, fL_get h]
    simp [wR, up2, va_rf]
  · rw [List.getElem?_set_ne (Ne.symm hi)]
    simp [fL, wI, wR, up2, hi]
def eE (cI cT cII : ClassId) (base : Nat) (w : Wd) (k : Nat) : va_E :=
  if (wS w k).1 = 12 then .inl (cI, (wS w k).2, .inl (wI w k))
  else if (wS w k).1 = 13 then .inl (cT, (wS w k).2, .inr (.inr (.inr (.inr (fun i => (wR w k i).map (base + ·))))))
  else if (wS w k).1 = 14 then .inl (cII, (wS w k).2, .inr (.inr (.inr (.inr (fun i => (wR w k i).map (base + ·))))))
  else .inr ((wS w k).1, fL base w k (fK (wS w k).1))
def wsOf (cI cT cII : ClassId) (base : Nat) (w : Wd) : va_W := (List.range (wN w)).map (fun k => (base + k, eE cI cT cII base w k))
theorem wsOf_get {cI cT cII : ClassId} {base : Nat} {w : Wd} {k : Nat} (h : k < wN w) : (wsOf cI cT cII base w)[k]? = some (base + k, eE cI cT cII base w k) := by
  simp [wsOf, h]
theorem wsOf_at {cI cT cII : ClassId} {base : Nat} {w : Wd} {k : Nat} {q : Nat × va_E} (h : (wsOf cI cT cII base w)[k]? = some q) : k < wN w ∧ q = (base + k, eE cI cT cII base w k) := by
  by_cases hk : k < wN w
  · rw [wsOf_get hk] at h
    exact ⟨hk, (Option.some.inj h).symm⟩
  · rw [List.getElem?_eq_none (by simp [wsOf]; omega)] at h
    cases h
theorem wsOf_D {cI cT cII : ClassId} {base : Nat} {w : Wd} : va_D (fun q => base ≤ q) (wsOf cI cT cII base w) := by
  refine ⟨fun i j x y hi hj e => ?_, fun k q hk => ?_⟩
  · have h1 := (wsOf_at hi).2
    have h2 := (wsOf_at hj).2
    subst h1
    subst h2
    have e' : base + i = base + j := e
    omega
  · have h1 := (wsOf_at hk).2
    subst h1
    exact Nat.le_add_right base k
theorem wsOf_set {cI cT cII : ClassId} {base : Nat} {w w' : Wd} {k : Nat} {x : va_E} (hk : k < wN w) (hN : wN w' = wN w) (hx : eE cI cT cII base w' k = x) (ho : ∀ a, a ≠ k → eE cI cT cII base w' a = eE cI cT cII base w a) : (wsOf cI cT cII base w).set k (base + k, x) = wsOf cI cT cII base w' := by
  subst hx
  have hl : k < (wsOf cI cT cII base w).length := by simp [wsOf]; exact hk
  apply List.ext_getElem?
  intro i
  by_cases hi : i = k
  · subst hi
    rw [List.getElem?_set_self hl, wsOf_get (by rw [hN]; exact hk)]
  · rw [List.getElem?_set_ne (Ne.symm hi)]
    by_cases hN2 : i < wN w
    · rw [wsOf_get hN2, wsOf_get (by rw [hN]; exact hN2), ho i hi]
    · rw [List.getElem?_eq_none (by simp [wsOf]; omega), List.getElem?_eq_none (by simp [wsOf, hN]; omega)]
theorem eE_I {cI cT cII : ClassId} {base : Nat} {w : Wd} {k : Nat} (h : (wS w k).1 = 12) : eE cI cT cII base w k = .inl (cI, (wS w k).2, .inl (wI w k)) := by simp [eE, h]
theorem eE_T {cI cT cII : ClassId} {base : Nat} {w : Wd} {k : Nat} (h : (wS w k).1 = 13) : eE cI cT cII base w k = .inl (cT, (wS w k).2, .inr (.inr (.inr (.inr (fun i => (wR w k i).map (base + ·)))))) := by simp [eE, h]
theorem eE_II {cI cT cII : ClassId} {base : Nat} {w : Wd} {k : Nat} (h : (wS w k).1 = 14) : eE cI cT cII base w k = .inl (cII, (wS w k).2, .inr (.inr (.inr (.inr (fun i => (wR w k i).map (base + ·)))))) := by simp [eE, h]
theorem eE_O {cI cT cII : ClassId} {base : Nat} {w : Wd} {k c : Nat} (h : (wS w k).1 = c) (hc : c < 12) : eE cI cT cII base w k = .inr (c, fL base w k (fK c)) := by
  subst h
  simp [eE, show ¬ (wS w k).1 = 12 by omega, show ¬ (wS w k).1 = 13 by omega, show ¬ (wS w k).1 = 14 by omega]
theorem eE_upI {cI cT cII : ClassId} {base : Nat} {w : Wd} {k j : Nat} {x : Int32} (h : (wS w k).1 = 12) : eE cI cT cII base (up2 (wI w) k j x, wR w, wS w, wN w) k = .inl (cI, (wS w k).2, .inl (upd (wI w k) j x)) :=
  (eE_I (w := (up2 (wI w) k j x, wR w, wS w, wN w)) h).trans (congrArg (fun f => (Sum.inl (cI, (wS w k).2, Sum.inl f) : va_E)) (funext fun b => by simp [wI, up2, upd]))
theorem eE_up1 {cI cT cII : ClassId} {base : Nat} {w : Wd} {k : Nat} {f : Nat → Int32} (h : (wS w k).1 = 12) : eE cI cT cII base (up1 (wI w) k f, wR w, wS w, wN w) k = .inl (cI, (wS w k).2, .inl f) :=
  (eE_I (w := (up1 (wI w) k f, wR w, wS w, wN w)) h).trans (congrArg (fun f => (Sum.inl (cI, (wS w k).2, Sum.inl f) : va_E)) (funext fun b => by simp [wI, up1]))
theorem eE_upT {cI cT cII : ClassId} {base : Nat} {w : Wd} {k j z : Nat} (h : (wS w k).1 = 13) : eE cI cT cII base (wI w, up2 (wR w) k j (some z), wS w, wN w) k = .inl (cT, (wS w k).2, .inr (.inr (.inr (.inr (va_up (fun i => (wR w k i).map (base + ·)) j (some (base + z))))))) :=
  (eE_T (w := (wI w, up2 (wR w) k j (some z), wS w, wN w)) h).trans (congrArg (fun f => (Sum.inl (cT, (wS w k).2, Sum.inr (Sum.inr (Sum.inr (Sum.inr f)))) : va_E)) (funext fun b => by by_cases hb : b = j <;> simp [wR, up2, va_up, hb]))
/-- ints of one place changed: the other cells are as they were -/
theorem eE_oI {cI cT cII : ClassId} {base : Nat} {w : Wd} {k a : Nat} {g : Nat → Nat → Int32} (hg : ∀ b, g a b = wI w a b) : eE cI cT cII base (g, wR w, wS w, wN w) a = eE cI cT cII base w a := by
  have e1 : wI (g, wR w, wS w, wN w) a = wI w a := funext hg
  have e2 : ∀ bs, fL base (g, wR w, wS w, wN w) a bs = fL base w a bs := fun bs => by
    unfold fL
    rw [e1]
    rfl
  unfold eE
  rw [e1, e2]
  rfl
theorem eE_oR {cI cT cII : ClassId} {base : Nat} {w : Wd} {k a : Nat} {g : Nat → Nat → Option Nat} (hg : ∀ b, g a b = wR w a b) : eE cI cT cII base (wI w, g, wS w, wN w) a = eE cI cT cII base w a := by
  have e1 : wR (wI w, g, wS w, wN w) a = wR w a := funext hg
  have e2 : ∀ bs, fL base (wI w, g, wS w, wN w) a bs = fL base w a bs := fun bs => by
    unfold fL
    rw [e1]
    rfl
  unfold eE
  rw [e1, e2]
  rfl
/-! THE TABLES' WORDS: gT keeps over calls as it stands; the nest words nT go with the state -/
def isNestW : Cond → Bool
  | .fieldLinkNest .. => true
  | .methodLinkNest .. => true
  | _ => false
def gT : List Cond := lw_tbl.filter goodWord
def nT : List Cond := lw_tbl.filter isNestW
theorem gT_of {w : Cond} (h : w ∈ lw_tbl) (hg : goodWord w = true) : w ∈ gT := List.mem_filter.mpr ⟨h, hg⟩
theorem nT_of {w : Cond} (h : w ∈ lw_tbl) (hg : isNestW w = true) : w ∈ nT := List.mem_filter.mpr ⟨h, hg⟩
theorem gT_good {ws : List Cond} (h : ∀ w ∈ ws, w ∈ gT) : GoodIn gT ws := fun w hw => ⟨h w hw, good_of_word (List.mem_filter.mp (h w hw)).2⟩
abbrev tyL (cI cT cII : ClassId) : List (ClassId × FieldType) := [(cI, .int), (cT, .object RX10), (cII, .array .int)]
def Kx (D : va_G) (cI cT cII : ClassId) (U : State) : Prop := va_K D vwCl (tyL cI cT cII) U ∧ ∀ w ∈ nT, va_Nw w U
theorem Kx.warm {D : va_G} {cI cT cII : ClassId} {s U : State} (h : Kx D cI cT cII s) (hW : s.WarmedH U.vm) : Kx D cI cT cII U := by
  refine ⟨va_K.moved hW.alike h.1, fun w hw => ?_⟩
  have h1 := h.2 w hw
  have h2 := (List.mem_filter.mp hw).2
  cases w <;> first
    | exact va_Nw.warmF hW h1
    | exact va_Nw.warmM hW h1
    | (exact absurd h2 (by simp [isNestW]))
theorem Kx.calling {D : va_G} {cI cT cII : ClassId} {U : State} {g : JFrame} {mk : MethodId} {a : Array Value} (h : Kx D cI cT cII U) : Kx D cI cT cII (U.calling g mk a) := by
  refine ⟨va_K.moved (u := U) (U := U.calling g mk a) (Vm.Alike.refl U.vm) h.1, fun w hw => ?_⟩
  have h1 := h.2 w hw
  have h2 := (List.mem_filter.mp hw).2
  have h3 : w.onTables = true := by
    cases w <;> first
      | rfl
      | (exact absurd h2 (by simp [isNestW]))
  exact va_Nw.same h3 (u := U) (U := U.calling g mk a) rfl h1
abbrev Hd (D : va_G) (cI cT cII : ClassId) (base : Nat) (w : Wd) (H : Heap) : Prop := va_P D vwCl (wsOf cI cT cII base w) H
/-- a method's post: what it answers, the new world, nothing below base changed -/
def Qp (D : va_G) (cI cT cII : ClassId) (base : Nat) (w' : Wd) (rv : Option Value) : Array Value → State → Outcome → State → Prop := fun _ st oc t => oc = .returned rv ∧ Hd D cI cT cII base w' t.heap ∧ va_F (fun q => base ≤ q) st t
/-- A CONTRACT: at the world w, with these arguments, the method returns rv and the world is w' -/
def Ct (l : Launch) (y : MethodName) (cc : ByteArray) (maxL : Nat) (ret : Option FieldType) (rm : Room) (D : va_G) (cI cT cII : ClassId) (base : Nat) (As : List Value) (w w' : Wd) (rv : Option Value) (mc ms : Nat) : Prop :=
  Met l y (.code y cc maxL ret :: gT) rm (va_Pc As (fun U => Hd D cI cT cII base w U.heap ∧ Kx D cI cT cII U)) (Qp D cI cT cII base w' rv) mc ms (fun q => base ≤ q)
/-- what holds all through a method's body -/
def Cx (p : Program) (R : Room) (s : State) (m : MethodId) (args : Array Value) (c : Code) (cc : ByteArray) (nL : Nat) (own : String) (D : va_G) (cI cT cII : ClassId) (fr lo : Nat) : Prop :=
  p.tables.exec = Jvm.exec ∧ c.code = cc ∧ c.maxLocals = nL ∧ s.vm.findClass own = some m.cls ∧ (∀ w ∈ gT, w.before args s = true) ∧ Kx D cI cT cII s ∧ fr ≤ R.frames ∧ lo ≤ R.locals
section BASE
variable {p : Program} {l : Launch} {e : Env} {R : Room} {s : State} {m : MethodId} {args : Array Value} {below : List Frame} {meth : Method} {c : Code} {H : Heap} {locs : List Loc} {cells slots : Nat} {Q : State → Prop}
variable {cc : ByteArray} {pc nL fr lo : Nat} {ls : Array Slot} {rest : List Value} {D : va_G} {cI cT cII : ClassId} {base : Nat} {w w' : Wd} {H0 : Heap} {own : String}
theorem m_enter {y : MethodName} {maxL : Nat} {ret : Option FieldType} {fr lo mc ms : Nat} {As : List Value} {rv : Option Value} (hy : plainName y.cls = true) (ha : (lg_sl As).length ≤ maxL)
    (body : ∀ (p : Program) (e : Env) (s : State) (m : MethodId) (below : List Frame) (meth : Method) (c : Code) (ls : Array Slot), Cx p { frames := fr, cells := mc, slots := ms, locals := lo } s m As.toArray c cc maxL y.cls D cI cT cII fr lo → meth.sig.returnType = ret → meth.locks = false → meth.name = y.name → Hd D cI cT cII base w s.heap → va_S (fun q => base ≤ q) s.heap s.heap [] → lv_has ls maxL (lv_args 0 As) →
      W p l e { frames := fr, cells := mc, slots := ms, locals := lo } s m As.toArray below meth c s.heap [] 0 0 (MQ below (Qp D cI cT cII base w' rv) As.toArray s mc ms (fun q => base ≤ q)) (F0 m 0 ls [])) :
    Ct l y cc maxL ret { frames := fr, cells := mc, slots := ms, locals := lo } D cI cT cII base As w w' rv mc ms := by
  refine Met.ofW (cc := cc) (maxL := maxL) (ret := ret) hy rfl ?_
  intro p e s m args below meth c s₁ B hml hv
  obtain ⟨rfl, hH, hK⟩ := hv
  have hts := atoms_spec (ws := .code y cc maxL ret :: gT) B.pre
  rw [lg_entry_eq]
  exact body p e s m below meth c _ ⟨B.exec, B.bytes, hml, findClass_of_methodNamed B.named, fun w hw => hts w (List.mem_cons_of_mem _ hw), hK, Nat.le_refl _, Nat.le_refl _⟩ B.returns B.notSynchronized (name_of_methodNamed B.named B.method).1 hH va_S.rf (lv_entry As ha)
theorem m_iret {r : Int32} (X : Cx p R s m args c cc nL own D cI cT cII fr lo) (hr : meth.sig.returnType = some .int) (hlk : meth.locks = false) (hH : Hd D cI cT cII base w H) (hS : va_S (fun q => base ≤ q) s.heap H locs) (hdg : decode cc pc = .ok (.ireturn, 1)) :
    W p l e R s m args below meth c H locs cells slots (MQ below (Qp D cI cT cII base w (some (.int r))) args s cells slots (fun q => base ≤ q)) (F0 m pc ls [.int r]) :=
  W.iret X.1 X.2.1 hr (fun t ht _ => ⟨rfl, by rw [ht]; exact hH, hS.F ht⟩) hS.2.2 hdg hlk
theorem m_zret {r : Int32} (X : Cx p R s m args c cc nL own D cI cT cII fr lo) (hr : meth.sig.returnType = some .boolean) (hlk : meth.locks = false) (hz : bz r = some r) (hH : Hd D cI cT cII base w H) (hS : va_S (fun q => base ≤ q) s.heap H locs) (hdg : decode cc pc = .ok (.ireturn, 1)) :
    W p l e R s m args below meth c H locs cells slots (MQ below (Qp D cI cT cII base w (some (.int r))) args s cells slots (fun q => base ≤ q)) (F0 m pc ls [.int r]) :=
  W.zret X.1 X.2.1 hr (by show Value.int (r &&& 1) = Value.int r; rw [(isn hz).1]) (fun t ht _ => ⟨rfl, by rw [ht]; exact hH, hS.F ht⟩) hS.2.2 hdg hlk
theorem m_vret (X : Cx p R s m args c cc nL own D cI cT cII fr lo) (hr : meth.sig.returnType = none) (hlk : meth.locks = false) (hH : Hd D cI cT cII base w H) (hS : va_S (fun q => base ≤ q) s.heap H locs) (hdg : decode cc pc = .ok (.return_, 1)) :
    W p l e R s m args below meth c H locs cells slots (MQ below (Qp D cI cT cII base w none) args s cells slots (fun q => base ≤ q)) (F0 m pc ls []) :=
  W.vret X.1 X.2.1 hr (fun t ht _ => ⟨rfl, by rw [ht]; exact hH, hS.F ht⟩) hS.2.2 hdg hlk
theorem m_aret {q : Nat} {n : String} (X : Cx p R s m args c cc nL own D cI cT cII fr lo) (hr : meth.sig.returnType = some (.object n)) (hlk : meth.locks = false) (hH : Hd D cI cT cII base w H) (hS : va_S (fun q => base ≤ q) s.heap H locs) (hdg : decode cc pc = .ok (.areturn, 1)) :
    W p l e R s m args below meth c H locs cells slots (MQ below (Qp D cI cT cII base w (some (.ref (base + q)))) args s cells slots (fun q => base ≤ q)) (F0 m pc ls [.ref (base + q)]) :=
  W.aret X.1 X.2.1 hr (Or.inl ⟨n, rfl⟩) (Or.inr ⟨_, rfl⟩) (fun t ht _ => ⟨rfl, by rw [ht]; exact hH, hS.F ht⟩) hS.2.2 hdg hlk
/-! fields -/
theorem m_gfI {C ref : String} {T : u_T} {N ci j q index : Nat} {x : Int32} (X : Cx p R s m args c cc nL own D cI cT cII fr lo) (hH : Hd D cI cT cII base w H) (hv : gfI ci j q w = some x) (hc : vwCl[ci]? = some (C, T, N)) (h12 : ci < 12) (hb : (fK ci)[j]? = some false) (hjN : j < N) (hin : ∀ w ∈ u_ws C T N, w ∈ gT) (hl : Cond.fieldLink own index ref (T j).2.1 (T j).2.2.1 ∈ gT) (hrf : (T j).1 = ref) (hdg : decode cc pc = .ok (.getfield index, 3))
    (k : W p l e R s m args below meth c H locs cells slots Q (F0 m (pc + 3) ls (.int x :: rest))) : W p l e R s m args below meth c H locs cells slots Q (F0 m pc ls (.ref (base + q) :: rest)) := by
  obtain ⟨⟨h1, h2⟩, rfl⟩ := isn hv
  subst hrf
  exact va_get X.1 X.2.1 X.2.2.2.2.1 hin X.2.2.2.1 X.2.2.2.2.2.1.1 hH q ((wsOf_get h1).trans (by rw [eE_O h2 h12])) hc j hjN (X.2.2.2.2.1 _ hl) (fun _ h => h) (fL_get hb) hdg k
theorem m_gfR {C ref : String} {T : u_T} {N ci j q index : Nat} {x : Nat} (X : Cx p R s m args c cc nL own D cI cT cII fr lo) (hH : Hd D cI cT cII base w H) (hv : gfR ci j q w = some x) (hc : vwCl[ci]? = some (C, T, N)) (h12 : ci < 12) (hb : (fK ci)[j]? = some true) (hjN : j < N) (hin : ∀ w ∈ u_ws C T N, w ∈ gT) (hl : Cond.fieldLink own index ref (T j).2.1 (T j).2.2.1 ∈ gT) (hrf : (T j).1 = ref) (hdg : decode cc pc = .ok (.getfield index, 3))
    (k : W p l e R s m args below meth c H locs cells slots Q (F0 m (pc + 3) ls (.ref (base + x) :: rest))) : W p l e R s m args below meth c H locs cells slots Q (F0 m pc ls (.ref (base + q) :: rest)) := by
  obtain ⟨⟨h1, h2⟩, h3⟩ := iso hv
  subst hrf
  exact va_get X.1 X.2.1 X.2.2.2.2.1 hin X.2.2.2.1 X.2.2.2.2.2.1.1 hH q ((wsOf_get h1).trans (by rw [eE_O h2 h12])) hc j hjN (X.2.2.2.2.1 _ hl) (fun _ h => h) ((fL_get hb).trans (by rw [h3]; rfl)) hdg k
theorem m_gnI {C ref host : String} {T : u_T} {N ci j q index : Nat} {x : Int32} (X : Cx p R s m args c cc nL own D cI cT cII fr lo) (hH : Hd D cI cT cII base w H) (hv : gfI ci j q w = some x) (hc : vwCl[ci]? = some (C, T, N)) (h12 : ci < 12) (hb : (fK ci)[j]? = some false) (hjN : j < N) (hin : ∀ w ∈ u_ws C T N, w ∈ gT) (hl : Cond.fieldLinkNest own index ref (T j).2.1 (T j).2.2.1 host ∈ nT) (hrf : (T j).1 = ref) (hdg : decode cc pc = .ok (.getfield index, 3))
    (k : W p l e R s m args below meth c H locs cells slots Q (F0 m (pc + 3) ls (.int x :: rest))) : W p l e R s m args below meth c H locs cells slots Q (F0 m pc ls (.ref (base + q) :: rest)) := by
  obtain ⟨⟨h1, h2⟩, rfl⟩ := isn hv
  subst hrf
  exact va_getN X.1 X.2.1 X.2.2.2.2.1 hin X.2.2.2.1 X.2.2.2.2.2.1.1 hH q ((wsOf_get h1).trans (by rw [eE_O h2 h12])) hc j hjN (va_Nw.use rfl (X.2.2.2.2.2.1.2 _ hl)) (fun _ h => h) (fL_get hb) hdg k
theorem m_gnR {C ref host : String} {T : u_T} {N ci j q index : Nat} {x : Nat} (X : Cx p R s m args c cc nL own D cI cT cII fr lo) (hH : Hd D cI cT cII base w H) (hv : gfR ci j q w = some x) (hc : vwCl[ci]? = some (C, T, N)) (h12 : ci < 12) (hb : (fK ci)[j]? = some true) (hjN : j < N) (hin : ∀ w ∈ u_ws C T N, w ∈ gT) (hl : Cond.fieldLinkNest own index ref (T j).2.1 (T j).2.2.1 host ∈ nT) (hrf : (T j).1 = ref) (hdg : decode cc pc = .ok (.getfield index, 3))
    (k : W p l e R s m args below meth c H locs cells slots Q (F0 m (pc + 3) ls (.ref (base + x) :: rest))) : W p l e R s m args below meth c H locs cells slots Q (F0 m pc ls (.ref (base + q) :: rest)) := by
  obtain ⟨⟨h1, h2⟩, h3⟩ := iso hv
  subst hrf
  exact va_getN X.1 X.2.1 X.2.2.2.2.1 hin X.2.2.2.1 X.2.2.2.2.2.1.1 hH q ((wsOf_get h1).trans (by rw [eE_O h2 h12])) hc j hjN (va_Nw.use rfl (X.2.2.2.2.2.1.2 _ hl)) (fun _ h => h) ((fL_get hb).trans (by rw [h3]; rfl)) hdg k
theorem m_pfI {C ref : String} {T : u_T} {N ci j q index : Nat} {x : Int32} {ty : FieldType} (X : Cx p R s m args c cc nL own D cI cT cII fr lo) (hH : Hd D cI cT cII base w H) (hS : va_S (fun q => base ≤ q) H0 H locs) (hv : pfI ci j q x w = some w') (hc : vwCl[ci]? = some (C, T, N)) (h12 : ci < 12) (hb : (fK ci)[j]? = some false) (hjN : j < N) (hin : ∀ w ∈ u_ws C T N, w ∈ gT) (ty0 : Nat → FieldType) (hty : ∀ k, k < N → parseFieldDescriptor (T k).2.2.1 = some (ty0 k)) (hnm : ∀ a, a < N → ∀ b, b < N → a ≠ b → (T a).2.1 ≠ (T b).2.1) (hl : Cond.fieldLink own index ref (T j).2.1 (T j).2.2.1 ∈ gT) (hrf : (T j).1 = ref) (hfin : (T j).2.2.2 = false) (hd : parseFieldDescriptor (T j).2.2.1 = some ty) (hn : narrow ty (.int x) = .int x) (hfit : fits ty (.int x) = true) (hdg : decode cc pc = .ok (.putfield index, 3))
    (k : ∀ (H : Heap) (locs : List Loc), Hd D cI cT cII base w' H → va_S (fun q => base ≤ q) H0 H locs → W p l e R s m args below meth c H locs cells slots Q (F0 m (pc + 3) ls rest)) : W p l e R s m args below meth c H locs cells slots Q (F0 m pc ls (.int x :: .ref (base + q) :: rest)) := by
  obtain ⟨⟨h1, h2⟩, rfl⟩ := isn hv
  subst hrf
  refine va_put X.1 X.2.1 X.2.2.2.2.1 hin ty0 hty hnm X.2.2.2.1 X.2.2.2.2.2.1.1 hH wsOf_D hS q ((wsOf_get h1).trans (by rw [eE_O h2 h12])) hc j hjN (X.2.2.2.2.1 _ hl) (fun _ h => h) hfin hd hn hfit (by rw [fL_len]; exact (List.getElem?_eq_some_iff.mp hb).1) hdg (fun H1 locs1 hP _ hS1 => ?_)
  rw [fL_setI hb, wsOf_set (w' := (up2 (wI w) q j x, wR w, wS w, wN w)) h1 rfl (eE_O h2 h12) (fun a ha => eE_oI (k := q) (fun b => by simp [up2, ha]))] at hP
  exact k H1 locs1 hP hS1
theorem m_pfR {C ref : String} {T : u_T} {N ci j q index z : Nat} {ty : FieldType} (X : Cx p R s m args c cc nL own D cI cT cII fr lo) (hH : Hd D cI cT cII base w H) (hS : va_S (fun q => base ≤ q) H0 H locs) (hv : pfR ci j q z w = some w') (hc : vwCl[ci]? = some (C, T, N)) (h12 : ci < 12) (hb : (fK ci)[j]? = some true) (hjN : j < N) (hin : ∀ w ∈ u_ws C T N, w ∈ gT) (ty0 : Nat → FieldType) (hty : ∀ k, k < N → parseFieldDescriptor (T k).2.2.1 = some (ty0 k)) (hnm : ∀ a, a < N → ∀ b, b < N → a ≠ b → (T a).2.1 ≠ (T b).2.1) (hl : Cond.fieldLink own index ref (T j).2.1 (T j).2.2.1 ∈ gT) (hrf : (T j).1 = ref) (hfin : (T j).2.2.2 = false) (hd : parseFieldDescriptor (T j).2.2.1 = some ty) (hn : narrow ty (.ref (base + z)) = .ref (base + z)) (hfit : fits ty (.ref (base + z)) = true) (hdg : decode cc pc = .ok (.putfield index, 3))
    (k : ∀ (H : Heap) (locs : List Loc), Hd D cI cT cII base w' H → va_S (fun q => base ≤ q) H0 H locs → W p l e R s m args below meth c H locs cells slots Q (F0 m (pc + 3) ls rest)) : W p l e R s m args below meth c H locs cells slots Q (F0 m pc ls (.ref (base + z) :: .ref (base + q) :: rest)) := by
  obtain ⟨⟨h1, h2⟩, rfl⟩ := isn hv
  subst hrf
  refine va_put X.1 X.2.1 X.2.2.2.2.1 hin ty0 hty hnm X.2.2.2.1 X.2.2.2.2.2.1.1 hH wsOf_D hS q ((wsOf_get h1).trans (by rw [eE_O h2 h12])) hc j hjN (X.2.2.2.2.1 _ hl) (fun _ h => h) hfin hd hn hfit (by rw [fL_len]; exact (List.getElem?_eq_some_iff.mp hb).1) hdg (fun H1 locs1 hP _ hS1 => ?_)
  rw [fL_setR hb, wsOf_set (w' := (wI w, up2 (wR w) q j (some z), wS w, wN w)) h1 rfl (eE_O h2 h12) (fun a ha => eE_oR (k := q) (fun b => by simp [up2, ha]))] at hP
  exact k H1 locs1 hP hS1
theorem m_pnI {C ref host : String} {T : u_T} {N ci j q index : Nat} {x : Int32} {ty : FieldType} (X : Cx p R s m args c cc nL own D cI cT cII fr lo) (hH : Hd D cI cT cII base w H) (hS : va_S (fun q => base ≤ q) H0 H locs) (hv : pfI ci j q x w = some w') (hc : vwCl[ci]? = some (C, T, N)) (h12 : ci < 12) (hb : (fK ci)[j]? = some false) (hjN : j < N) (hin : ∀ w ∈ u_ws C T N, w ∈ gT) (ty0 : Nat → FieldType) (hty : ∀ k, k < N → parseFieldDescriptor (T k).2.2.1 = some (ty0 k)) (hnm : ∀ a, a < N → ∀ b, b < N → a ≠ b → (T a).2.1 ≠ (T b).2.1) (hl : Cond.fieldLinkNest own index ref (T j).2.1 (T j).2.2.1 host ∈ nT) (hrf : (T j).1 = ref) (hfin : (T j).2.2.2 = false) (hd : parseFieldDescriptor (T j).2.2.1 = some ty) (hn : narrow ty (.int x) = .int x) (hfit : fits ty (.int x) = true) (hdg : decode cc pc = .ok (.putfield index, 3))
    (k : ∀ (H : Heap) (locs : List Loc), Hd D cI cT cII base w' H → va_S (fun q => base ≤ q) H0 H locs → W p l e R s m args below meth c H locs cells slots Q (F0 m (pc + 3) ls rest)) : W p l e R s m args below meth c H locs cells slots Q (F0 m pc ls (.int x :: .ref (base + q) :: rest)) := by
  obtain ⟨⟨h1, h2⟩, rfl⟩ := isn hv
  subst hrf
  refine va_putN X.1 X.2.1 X.2.2.2.2.1 hin ty0 hty hnm X.2.2.2.1 X.2.2.2.2.2.1.1 hH wsOf_D hS q ((wsOf_get h1).trans (by rw [eE_O h2 h12])) hc j hjN (va_Nw.use rfl (X.2.2.2.2.2.1.2 _ hl)) (fun _ h => h) hfin hd hn hfit (by rw [fL_len]; exact (List.getElem?_eq_some_iff.mp hb).1) hdg (fun H1 locs1 hP _ hS1 => ?_)
  rw [fL_setI hb, wsOf_set (w' := (up2 (wI w) q j x, wR w, wS w, wN w)) h1 rfl (eE_O h2 h12) (fun a ha => eE_oI (k := q) (fun b => by simp [up2, ha]))] at hP
  exact k H1 locs1 hP hS1
/-! arrays -/
theorem m_rdI {q : Nat} {i x : Int32} (X : Cx p R s m args c cc nL own D cI cT cII fr lo) (hH : Hd D cI cT cII base w H) (hv : rdI q i w = some x) (hdg : decode cc pc = .ok (.iaload, 1))
    (k : W p l e R s m args below meth c H locs cells slots Q (F0 m (pc + 1) ls (.int x :: rest))) : W p l e R s m args below meth c H locs cells slots Q (F0 m pc ls (.int i :: .ref (base + q) :: rest)) := by
  obtain ⟨⟨h1, h2, h3⟩, rfl⟩ := isn hv
  exact va_iald X.1 X.2.1 X.2.2.2.2.2.1.1 hH q 0 ((wsOf_get h1).trans (by rw [eE_I h2])) rfl h3 hdg k
theorem m_wrI {q : Nat} {i x : Int32} (X : Cx p R s m args c cc nL own D cI cT cII fr lo) (hH : Hd D cI cT cII base w H) (hS : va_S (fun q => base ≤ q) H0 H locs) (hv : wrI q i x w = some w') (hdg : decode cc pc = .ok (.iastore, 1))
    (k : ∀ (H : Heap) (locs : List Loc), Hd D cI cT cII base w' H → va_S (fun q => base ≤ q) H0 H locs → W p l e R s m args below meth c H locs cells slots Q (F0 m (pc + 1) ls rest)) : W p l e R s m args below meth c H locs cells slots Q (F0 m pc ls (.int x :: .int i :: .ref (base + q) :: rest)) := by
  obtain ⟨⟨h1, h2, h3⟩, rfl⟩ := isn hv
  refine va_iast X.1 X.2.1 X.2.2.2.2.2.1.1 hH wsOf_D hS q 0 ((wsOf_get h1).trans (by rw [eE_I h2])) rfl h3 hdg (fun H1 locs1 hP _ hS1 => ?_)
  rw [wsOf_set (w' := (up2 (wI w) q i.toNatClampNeg x, wR w, wS w, wN w)) h1 rfl (eE_upI h2) (fun a ha => eE_oI (k := q) (fun b => by simp [up2, ha]))] at hP
  exact k H1 locs1 hP hS1
theorem m_rdT {q z : Nat} {i : Int32} (X : Cx p R s m args c cc nL own D cI cT cII fr lo) (hH : Hd D cI cT cII base w H) (hv : rdR 13 q i w = some z) (hdg : decode cc pc = .ok (.aaload, 1))
    (k : W p l e R s m args below meth c H locs cells slots Q (F0 m (pc + 1) ls (.ref (base + z) :: rest))) : W p l e R s m args below meth c H locs cells slots Q (F0 m pc ls (.int i :: .ref (base + q) :: rest)) := by
  obtain ⟨⟨h1, h2, h3⟩, h4⟩ := iso hv
  refine va_aldq X.1 X.2.1 X.2.2.2.2.2.1.1 hH q 1 ((wsOf_get h1).trans (by rw [eE_T h2])) rfl h3 hdg ?_
  rw [h4]
  exact k
theorem m_rdII {q z : Nat} {i : Int32} (X : Cx p R s m args c cc nL own D cI cT cII fr lo) (hH : Hd D cI cT cII base w H) (hv : rdR 14 q i w = some z) (hdg : decode cc pc = .ok (.aaload, 1))
    (k : W p l e R s m args below meth c H locs cells slots Q (F0 m (pc + 1) ls (.ref (base + z) :: rest))) : W p l e R s m args below meth c H locs cells slots Q (F0 m pc ls (.int i :: .ref (base + q) :: rest)) := by
  obtain ⟨⟨h1, h2, h3⟩, h4⟩ := iso hv
  have hlt : i.toNatClampNeg < (wS w q).2 := Nat.not_le.mp fun z => h3 (Or.inr z)
  have ha : (wsOf cI cT cII base w)[q]? = some (base + q, .inl (cII, (wS w q).2, .inr (.inr (.inr (.inr (fun i => (wR w q i).map (base + ·))))))) := (wsOf_get h1).trans (by rw [eE_II h2])
  refine W.aald (v := va_rf ((wR w q i.toNatClampNeg).map (base + ·))) (ty := .array .int) X.1 X.2.1 (hH q _ ha) ((X.2.2.2.2.2.1.1.2 2 _ rfl).1 (wS w q).2 (fun j => va_rf ((wR w q j).map (base + ·)))) rfl (fun q => by cases q) (by show ¬ (i < 0 ∨ (arrV _ _ _).slots.size ≤ _); rw [arrV_size]; exact h3) (by show (arrV _ _ _).slots[_]? = _; rw [arrV_read _ _ hlt]) rfl rfl hdg ?_
  rw [h4]
  exact k
theorem m_lnI {q : Nat} {x : Int32} (X : Cx p R s m args c cc nL own D cI cT cII fr lo) (hH : Hd D cI cT cII base w H) (hv : lnA 12 q w = some x) (hdg : decode cc pc = .ok (.arraylength, 1))
    (k : W p l e R s m args below meth c H locs cells slots Q (F0 m (pc + 1) ls (.int x :: rest))) : W p l e R s m args below meth c H locs cells slots Q (F0 m pc ls (.ref (base + q) :: rest)) := by
  obtain ⟨⟨h1, h2⟩, h3⟩ := isn hv
  exact va_alen X.1 X.2.1 X.2.2.2.2.2.1.1 hH q 0 ((wsOf_get h1).trans (by rw [eE_I h2])) rfl h3 hdg k
theorem m_lnT {q : Nat} {x : Int32} (X : Cx p R s m args c cc nL own D cI cT cII fr lo) (hH : Hd D cI cT cII base w H) (hv : lnA 13 q w = some x) (hdg : decode cc pc = .ok (.arraylength, 1))
    (k : W p l e R s m args below meth c H locs cells slots Q (F0 m (pc + 1) ls (.int x :: rest))) : W p l e R s m args below meth c H locs cells slots Q (F0 m pc ls (.ref (base + q) :: rest)) := by
  obtain ⟨⟨h1, h2⟩, h3⟩ := isn hv
  exact va_alen X.1 X.2.1 X.2.2.2.2.2.1.1 hH q 1 ((wsOf_get h1).trans (by rw [eE_T h2])) rfl h3 hdg k
theorem m_wrT {q z : Nat} {i : Int32} (X : Cx p R s m args c cc nL own D cI cT cII fr lo) (hH : Hd D cI cT cII base w H) (hS : va_S (fun q => base ≤ q) H0 H locs) (hv : wrT q i z w = some w') (hdg : decode cc pc = .ok (.aastore, 1))
    (k : ∀ (H : Heap) (locs : List Loc), Hd D cI cT cII base w' H → va_S (fun q => base ≤ q) H0 H locs → W p l e R s m args below meth c H locs cells slots Q (F0 m (pc + 1) ls rest)) : W p l e R s m args below meth c H locs cells slots Q (F0 m pc ls (.ref (base + z) :: .int i :: .ref (base + q) :: rest)) := by
  obtain ⟨⟨⟨h1, h2, h3⟩, h4, h5⟩, rfl⟩ := isn hv
  refine va_astq (r := (RX10, TX10, 4)) X.1 X.2.1 X.2.2.2.2.2.1.1 hH wsOf_D hS q 1 z 9 ((wsOf_get h1).trans (by rw [eE_T h2])) rfl ((wsOf_get h4).trans (by rw [eE_O h5 (by decide)])) rfl h3 hdg (fun H1 locs1 hP _ hS1 => ?_)
  rw [wsOf_set (w' := (wI w, up2 (wR w) q i.toNatClampNeg (some z), wS w, wN w)) h1 rfl (eE_upT h2) (fun a ha => eE_oR (k := q) (fun b => by simp [up2, ha]))] at hP
  exact k H1 locs1 hP hS1
theorem m_cpI {q z index : Nat} {sp dp n : Int32} (X : Cx p R s m args c cc nL own D cI cT cII fr lo) (hH : Hd D cI cT cII base w H) (hS : va_S (fun q => base ≤ q) H0 H locs) (hl : lv_wf ls ∧ ls.size = nL) (hv : cpI q sp z dp n w = some w') (k1 : Cond.methodLink own index arraycopyName ∈ gT) (k2 : Cond.native arraycopyName ∈ gT) (k3 : Cond.static arraycopyName ∈ gT) (k4 : Cond.initialized "java/lang/System" ∈ gT) (hfr : 1 ≤ fr) (hlo : (rest.map fun v => v.category).sum + 18 ≤ lo) (hdg : decode cc pc = .ok (.invokestatic index, 3))
    (k : ∀ (H : Heap) (locs : List Loc), Hd D cI cT cII base w' H → va_S (fun q => base ≤ q) H0 H locs → W p l e R s m args below meth c H locs cells slots Q (F0 m (pc + 3) ls rest)) : W p l e R s m args below meth c H locs cells slots Q (F0 m pc ls (.int n :: .int dp :: .ref (base + z) :: .int sp :: .ref (base + q) :: rest)) := by
  obtain ⟨⟨⟨h1, h2⟩, ⟨h3, h4⟩, h5, h6, h7, h8, h9⟩, rfl⟩ := isn hv
  refine va_copyi (ty := .int) X.1 X.2.1 (X.2.2.1.trans hl.2.symm) X.2.2.2.1 (X.2.2.2.2.1 _ k1) (X.2.2.2.2.1 _ k2) (X.2.2.2.2.1 _ k3) (X.2.2.2.2.1 _ k4) X.2.2.2.2.2.1.1 hH wsOf_D hS q z 0 0 ((wsOf_get h1).trans (by rw [eE_I h2])) ((wsOf_get h3).trans (by rw [eE_I h4])) rfl rfl rfl h5 h6 h7 h8 h9 (fun _ _ => rfl) (Nat.le_trans hfr X.2.2.2.2.2.2.1) (Nat.le_trans hlo X.2.2.2.2.2.2.2) hdg (fun H1 locs1 hP _ hS1 => ?_)
  rw [wsOf_set (w' := (up1 (wI w) z (va_cpy (wI w q) (wI w z) sp.toNatClampNeg dp.toNatClampNeg n.toNatClampNeg), wR w, wS w, wN w)) h3 rfl (eE_up1 h4) (fun a ha => eE_oI (k := z) (fun b => by simp [up1, ha]))] at hP
  exact k H1 locs1 hP hS1
theorem m_idiv {x y v : Int32} (X : Cx p R s m args c cc nL own D cI cT cII fr lo) (hv : dvI x y = some v) (hdg : decode cc pc = .ok (.idiv, 1))
    (k : W p l e R s m args below meth c H locs cells slots Q (F0 m (pc + 1) ls (.int v :: rest))) : W p l e R s m args below meth c H locs cells slots Q (F0 m pc ls (.int y :: .int x :: rest)) := by
  by_cases h : y = 0
  · rw [dvI, if_pos h] at hv
    cases hv
  · rw [dvI, if_neg h] at hv
    cases hv
    exact lv_idiv X.1 X.2.1 hdg h k
theorem m_irem {x y v : Int32} (X : Cx p R s m args c cc nL own D cI cT cII fr lo) (hv : rmI x y = some v) (hdg : decode cc pc = .ok (.irem, 1))
    (k : W p l e R s m args below meth c H locs cells slots Q (F0 m (pc + 1) ls (.int v :: rest))) : W p l e R s m args below meth c H locs cells slots Q (F0 m pc ls (.int y :: .int x :: rest)) := by
  by_cases h : y = 0
  · rw [rmI, if_pos h] at hv
    cases hv
  · rw [rmI, if_neg h] at hv
    cases hv
    exact lv_irem X.1 X.2.1 hdg h k
/-! calls -/
theorem m_call {A : Nat → Prop} {rv : Option Value} {st0 : List Value} {a : Array Value} {mc ms : Nat} (hr : va_Run p l e R s m args below meth c H locs cells slots mc ms (F0 m pc ls st0) rest (Qp D cI cT cII base w' rv a) (fun q => base ≤ q)) (hS : va_S (fun q => base ≤ q) H0 H locs)
    (kk : ∀ (H : Heap) (locs : List Loc), Hd D cI cT cII base w' H → va_S (fun q => base ≤ q) H0 H locs → W p l e R s m args below meth c H locs (cells + mc) (slots + ms) Q (F0 m (pc + 3) ls (rv.toList ++ rest))) : W p l e R s m args below meth c H locs cells slots Q (F0 m pc ls st0) := by
  intro T hT X
  obtain ⟨v, st₀, t, T', L, h0, X', hL, e1, e2, ⟨hv, hb, hz, hk⟩, st⟩ := hr T hT X
  cases hv
  rw [h0] at hz hk
  obtain ⟨t2, a1, b1⟩ := kk T'.heap (locs ++ L) (by rw [e1]; exact hb)
    ⟨Nat.le_trans hS.1 (by rw [e1]; exact hz), fun q h1 h2 => by rw [e1, hk q (Nat.lt_of_lt_of_le h1 hS.1) h2]; exact hS.2.1 q h1 h2, fun q hq => by
      rcases List.mem_append.mp hq with h | h
      · exact hS.2.2 q h
      · exact hL q h⟩ T' rfl X'
  exact ⟨t2, st t2 a1, b1⟩
theorem Pc_blind {As : List Value} : FrameBlind (va_Pc As (fun U => Hd D cI cT cII base w U.heap ∧ Kx D cI cT cII U)) := fun _ _ _ _ q => ⟨q.1, q.2.1, q.2.2.calling⟩
/-- what a call needs of the callee, whoever calls -/
def CalS (y : MethodName) (cc : ByteArray) (maxL : Nat) (ret : Option FieldType) (n : Nat) : Prop := (Cond.code y cc maxL ret ∈ gT ∧ Cond.initialized y.cls ∈ gT) ∧ (y.cls ≠ "java/lang/invoke/MethodHandle" ∧ y.cls ≠ "java/lang/invoke/VarHandle" ∧ (parseMethodDescriptor y.desc).map (fun d => d.parameters.length) = some n)
theorem mem_head {y : MethodName} {b : ByteArray} {maxL : Nat} {ret : Option FieldType} (h : Cond.code y b maxL ret ∈ gT) : ∀ z ∈ (Cond.code y b maxL ret :: gT), z ∈ gT := fun z hz => by
  rcases List.mem_cons.mp hz with h1 | h1
  · rw [h1]; exact h
  · exact h1
theorem m_callS {y : MethodName} {bytes : ByteArray} {maxL n index fr' lo' : Nat} {ret : Option FieldType} {As : List Value} {rv : Option Value} {st0 : List Value} (X : Cx p R s m args c cc nL own D cI cT cII fr lo) (hH : Hd D cI cT cII base w H) (hS : va_S (fun q => base ≤ q) H0 H locs) (hz : ls.size = nL) (hM : Ct l y bytes maxL ret { frames := fr', cells := 0, slots := 0, locals := lo' } D cI cT cII base As w w' rv 0 0) (C : CalS y bytes maxL ret n) (k1 : Cond.methodLink own index y ∈ gT) (k2 : Cond.static y ∈ gT) (hn : As.length = n) (hst : st0 = As.reverse ++ rest) (hW : (rest.map fun v => v.category).sum ≤ 8) (hR : fr' + 1 ≤ fr ∧ 8 + (maxL + 11) + lo' ≤ lo) (hc : cells ≤ R.cells ∧ slots ≤ R.slots) (hdg : decode cc pc = .ok (.invokestatic index, 3))
    (kk : ∀ (H : Heap) (locs : List Loc), Hd D cI cT cII base w' H → va_S (fun q => base ≤ q) H0 H locs → W p l e R s m args below meth c H locs cells slots Q (F0 m (pc + 3) ls (rv.toList ++ rest))) : W p l e R s m args below meth c H locs cells slots Q (F0 m pc ls st0) := by
  obtain ⟨hx, hb, hml, hown, hts, hK, hf, hlo⟩ := X
  subst hst
  exact m_call (A := fun _ => True) (mc := 0) (ms := 0) (va_runS (n := n) ⟨hx, hb, hml, hown, hts⟩ hM ⟨callB_of n hts (gT_good (mem_head C.1.1)) rfl rfl rfl (hts _ C.1.2) (hts _ k1) C.2 ⟨Nat.le_trans hR.1 hf, Nat.le_trans hR.2 hlo⟩, hts _ k2⟩ ⟨Pc_blind, fun U hU hW => ⟨rfl, by rw [hU]; exact hH, hK.warm hW⟩⟩ rfl hn hz rfl (lv_room hW) hdg hc) hS kk
theorem m_callSN {y : MethodName} {host : String} {bytes : ByteArray} {maxL n index fr' lo' : Nat} {ret : Option FieldType} {As : List Value} {rv : Option Value} {st0 : List Value} (X : Cx p R s m args c cc nL own D cI cT cII fr lo) (hH : Hd D cI cT cII base w H) (hS : va_S (fun q => base ≤ q) H0 H locs) (hz : ls.size = nL) (hM : Ct l y bytes maxL ret { frames := fr', cells := 0, slots := 0, locals := lo' } D cI cT cII base As w w' rv 0 0) (C : CalS y bytes maxL ret n) (k1 : Cond.methodLinkNest own index y host ∈ nT) (k2 : Cond.static y ∈ gT) (hn : As.length = n) (hst : st0 = As.reverse ++ rest) (hW : (rest.map fun v => v.category).sum ≤ 8) (hR : fr' + 1 ≤ fr ∧ 8 + (maxL + 11) + lo' ≤ lo) (hc : cells ≤ R.cells ∧ slots ≤ R.slots) (hdg : decode cc pc = .ok (.invokestatic index, 3))
    (kk : ∀ (H : Heap) (locs : List Loc), Hd D cI cT cII base w' H → va_S (fun q => base ≤ q) H0 H locs → W p l e R s m args below meth c H locs cells slots Q (F0 m (pc + 3) ls (rv.toList ++ rest))) : W p l e R s m args below meth c H locs cells slots Q (F0 m pc ls st0) := by
  obtain ⟨hx, hb, hml, hown, hts, hK, hf, hlo⟩ := X
  subst hst
  exact m_call (A := fun _ => True) (mc := 0) (ms := 0) (va_runSN (n := n) ⟨hx, hb, hml, hown, hts⟩ hM ⟨va_cnB n hts (gT_good (mem_head C.1.1)) rfl rfl rfl (hK.2 _ k1) (hts _ C.1.2) C.2 ⟨Nat.le_trans hR.1 hf, Nat.le_trans hR.2 hlo⟩, hts _ k2, trivial⟩ ⟨Pc_blind, fun U hU hW => ⟨rfl, by rw [hU]; exact hH, hK.warm hW⟩⟩ rfl hn hz rfl (lv_room hW) hdg hc) hS kk
theorem m_recv {ci q : Nat} {r : vw_C} (hK : Kx D cI cT cII s) (hH : Hd D cI cT cII base w H) (hc : vwCl[ci]? = some r) (h12 : ci < 12) (hq : q < wN w ∧ (wS w q).1 = ci) : ∃ cell : Cell, H[base + q]? = some cell ∧ cell.vm.isStatics = false ∧ s.vm.findClass r.1 = some cell.cls :=
  va_recv hK.1 hH hc ((wsOf_get hq.1).trans (by rw [eE_O hq.2 h12]))
/-- the receiver is an object of that class -/
def isO (ci q : Nat) (w : Wd) : Option Unit := if q < wN w ∧ (wS w q).1 = ci then some () else none
theorem m_callV {y : MethodName} {bytes : ByteArray} {maxL n index fr' lo' ci q : Nat} {T : u_T} {N : Nat} {ret : Option FieldType} {As : List Value} {rv : Option Value} {st0 : List Value} {u : Unit} (X : Cx p R s m args c cc nL own D cI cT cII fr lo) (hH : Hd D cI cT cII base w H) (hS : va_S (fun q => base ≤ q) H0 H locs) (hz : ls.size = nL) (ho : isO ci q w = some u) (hvc : vwCl[ci]? = some (y.cls, T, N)) (h12 : ci < 12) (hM : Ct l y bytes maxL ret { frames := fr', cells := 0, slots := 0, locals := lo' } D cI cT cII base (.ref (base + q) :: As) w w' rv 0 0) (C : CalS y bytes maxL ret n) (k1 : Cond.methodLink own index y ∈ gT) (k2 : Cond.instanceMethod y ∈ gT) (k3 : Cond.selects y.cls y y ∈ gT) (hn : As.length = n) (hst : st0 = As.reverse ++ .ref (base + q) :: rest) (hW : (rest.map fun v => v.category).sum ≤ 8) (hR : fr' + 1 ≤ fr ∧ 8 + (maxL + 11) + lo' ≤ lo) (hc : cells ≤ R.cells ∧ slots ≤ R.slots) (hdg : decode cc pc = .ok (.invokevirtual index, 3))
    (kk : ∀ (H : Heap) (locs : List Loc), Hd D cI cT cII base w' H → va_S (fun q => base ≤ q) H0 H locs → W p l e R s m args below meth c H locs cells slots Q (F0 m (pc + 3) ls (rv.toList ++ rest))) : W p l e R s m args below meth c H locs cells slots Q (F0 m pc ls st0) := by
  obtain ⟨hx, hb, hml, hown, hts, hK, hf, hlo⟩ := X
  subst hst
  exact m_call (A := fun _ => True) (mc := 0) (ms := 0) (va_runV (n := n) (C := y.cls) ⟨hx, hb, hml, hown, hts⟩ hM ⟨callB_of n hts (gT_good (mem_head C.1.1)) rfl rfl rfl (hts _ C.1.2) (hts _ k1) C.2 ⟨Nat.le_trans hR.1 hf, Nat.le_trans hR.2 hlo⟩, hts _ k2, hts _ k3⟩ ⟨Pc_blind, m_recv hK hH hvc h12 (isn ho).1, fun U hU hW => ⟨rfl, by rw [hU]; exact hH, hK.warm hW⟩⟩ rfl hn hz rfl (lv_room hW) hdg hc) hS kk
theorem m_callVN {y : MethodName} {host : String} {bytes : ByteArray} {maxL n index fr' lo' ci q : Nat} {T : u_T} {N : Nat} {ret : Option FieldType} {As : List Value} {rv : Option Value} {st0 : List Value} {u : Unit} (X : Cx p R s m args c cc nL own D cI cT cII fr lo) (hH : Hd D cI cT cII base w H) (hS : va_S (fun q => base ≤ q) H0 H locs) (hz : ls.size = nL) (ho : isO ci q w = some u) (hvc : vwCl[ci]? = some (y.cls, T, N)) (h12 : ci < 12) (hM : Ct l y bytes maxL ret { frames := fr', cells := 0, slots := 0, locals := lo' } D cI cT cII base (.ref (base + q) :: As) w w' rv 0 0) (C : CalS y bytes maxL ret n) (k1 : Cond.methodLinkNest own index y host ∈ nT) (k2 : Cond.instanceMethod y ∈ gT) (k3 : Cond.selects y.cls y y ∈ gT) (hn : As.length = n) (hst : st0 = As.reverse ++ .ref (base + q) :: rest) (hW : (rest.map fun v => v.category).sum ≤ 8) (hR : fr' + 1 ≤ fr ∧ 8 + (maxL + 11) + lo' ≤ lo) (hc : cells ≤ R.cells ∧ slots ≤ R.slots) (hdg : decode cc pc = .ok (.invokevirtual index, 3))
    (kk : ∀ (H : Heap) (locs : List Loc), Hd D cI cT cII base w' H → va_S (fun q => base ≤ q) H0 H locs → W p l e R s m args below meth c H locs cells slots Q (F0 m (pc + 3) ls (rv.toList ++ rest))) : W p l e R s m args below meth c H locs cells slots Q (F0 m pc ls st0) := by
  obtain ⟨hx, hb, hml, hown, hts, hK, hf, hlo⟩ := X
  subst hst
  exact m_call (A := fun _ => True) (mc := 0) (ms := 0) (va_runVN (n := n) (C := y.cls) ⟨hx, hb, hml, hown, hts⟩ hM ⟨va_cnB n hts (gT_good (mem_head C.1.1)) rfl rfl rfl (hK.2 _ k1) (hts _ C.1.2) C.2 ⟨Nat.le_trans hR.1 hf, Nat.le_trans hR.2 hlo⟩, hts _ k2, hts _ k3⟩ ⟨Pc_blind, m_recv hK hH hvc h12 (isn ho).1, fun U hU hW => ⟨rfl, by rw [hU]; exact hH, hK.warm hW⟩⟩ rfl hn hz rfl (lv_room hW) hdg hc) hS kk
end BASE
end
