/-- a private method of a class that the tables say can be made, by its rows of tables_1 -/
def lw_okq (q : MethodName × Nat) : Prop := (q.1.cls ≠ "java/lang/invoke/MethodHandle" ∧ q.1.cls ≠ "java/lang/invoke/VarHandle") ∧ Cond.instantiable q.1.cls q.2 ∈ tables_1 ∧ Cond.privateMethod q.1 ∈ tables_1 ∧ Cond.instanceMethod q.1 ∈ tables_1
theorem lw_p0 : lw_okq (⟨"EscrowLand", "found", "(I)I"⟩, 9) := ⟨⟨by decide +kernel, by decide +kernel⟩, List.mem_of_getElem? (i := 12) (by decide +kernel), List.mem_of_getElem? (i := 261) (by decide +kernel), List.mem_of_getElem? (i := 262) (by decide +kernel)⟩
theorem lw_p1 : lw_okq (⟨"EscrowLand", "foundNothing", "(I)I"⟩, 9) := ⟨⟨by decide +kernel, by decide +kernel⟩, List.mem_of_getElem? (i := 12) (by decide +kernel), List.mem_of_getElem? (i := 270) (by decide +kernel), List.mem_of_getElem? (i := 271) (by decide +kernel)⟩
theorem lw_p2 : lw_okq (⟨"EscrowLand$Tape", "readLaw", "()V"⟩, 6) := ⟨⟨by decide +kernel, by decide +kernel⟩, List.mem_of_getElem? (i := 37) (by decide +kernel), List.mem_of_getElem? (i := 343) (by decide +kernel), List.mem_of_getElem? (i := 344) (by decide +kernel)⟩
theorem lw_p3 : lw_okq (⟨"EscrowLand$Tape", "readSign", "(I)V"⟩, 6) := ⟨⟨by decide +kernel, by decide +kernel⟩, List.mem_of_getElem? (i := 37) (by decide +kernel), List.mem_of_getElem? (i := 347) (by decide +kernel), List.mem_of_getElem? (i := 348) (by decide +kernel)⟩
theorem lw_p4 : lw_okq (⟨"EscrowLand$Tape", "next", "()I"⟩, 6) := ⟨⟨by decide +kernel, by decide +kernel⟩, List.mem_of_getElem? (i := 37) (by decide +kernel), List.mem_of_getElem? (i := 351) (by decide +kernel), List.mem_of_getElem? (i := 352) (by decide +kernel)⟩
theorem lw_p5 : lw_okq (⟨"EscrowLand$Tape", "fail", "(I)V"⟩, 6) := ⟨⟨by decide +kernel, by decide +kernel⟩, List.mem_of_getElem? (i := 37) (by decide +kernel), List.mem_of_getElem? (i := 355) (by decide +kernel), List.mem_of_getElem? (i := 356) (by decide +kernel)⟩
theorem lw_p6 : lw_okq (⟨"EscrowLand$Tape", "readNumber", "(II)I"⟩, 6) := ⟨⟨by decide +kernel, by decide +kernel⟩, List.mem_of_getElem? (i := 37) (by decide +kernel), List.mem_of_getElem? (i := 359) (by decide +kernel), List.mem_of_getElem? (i := 360) (by decide +kernel)⟩
theorem lw_p7 : lw_okq (⟨"EscrowLand$Tape", "isFigureAt", "(I)Z"⟩, 6) := ⟨⟨by decide +kernel, by decide +kernel⟩, List.mem_of_getElem? (i := 37) (by decide +kernel), List.mem_of_getElem? (i := 363) (by decide +kernel), List.mem_of_getElem? (i := 364) (by decide +kernel)⟩
theorem lw_p8 : lw_okq (⟨"EscrowLand$Tape", "readThings", "()V"⟩, 6) := ⟨⟨by decide +kernel, by decide +kernel⟩, List.mem_of_getElem? (i := 37) (by decide +kernel), List.mem_of_getElem? (i := 368) (by decide +kernel), List.mem_of_getElem? (i := 369) (by decide +kernel)⟩
theorem lw_p9 : lw_okq (⟨"EscrowLand$Tape", "readThing", "(I)V"⟩, 6) := ⟨⟨by decide +kernel, by decide +kernel⟩, List.mem_of_getElem? (i := 37) (by decide +kernel), List.mem_of_getElem? (i := 372) (by decide +kernel), List.mem_of_getElem? (i := 373) (by decide +kernel)⟩
theorem lw_p10 : lw_okq (⟨"EscrowLand$Tape", "readSort", "()I"⟩, 6) := ⟨⟨by decide +kernel, by decide +kernel⟩, List.mem_of_getElem? (i := 37) (by decide +kernel), List.mem_of_getElem? (i := 376) (by decide +kernel), List.mem_of_getElem? (i := 377) (by decide +kernel)⟩
theorem lw_p11 : lw_okq (⟨"EscrowLand$Tape", "goesOn", "()Z"⟩, 6) := ⟨⟨by decide +kernel, by decide +kernel⟩, List.mem_of_getElem? (i := 37) (by decide +kernel), List.mem_of_getElem? (i := 383) (by decide +kernel), List.mem_of_getElem? (i := 384) (by decide +kernel)⟩
theorem lw_p12 : lw_okq (⟨"EscrowLand$Foretold", "beginNow", "()V"⟩, 11) := ⟨⟨by decide +kernel, by decide +kernel⟩, List.mem_of_getElem? (i := 158) (by decide +kernel), List.mem_of_getElem? (i := 514) (by decide +kernel), List.mem_of_getElem? (i := 515) (by decide +kernel)⟩
theorem lw_p13 : lw_okq (⟨"EscrowLand$Foretold", "passDay", "(I)V"⟩, 11) := ⟨⟨by decide +kernel, by decide +kernel⟩, List.mem_of_getElem? (i := 158) (by decide +kernel), List.mem_of_getElem? (i := 518) (by decide +kernel), List.mem_of_getElem? (i := 519) (by decide +kernel)⟩
theorem lw_p14 : lw_okq (⟨"EscrowLand$Foretold", "firstUnlikePerson", "()I"⟩, 11) := ⟨⟨by decide +kernel, by decide +kernel⟩, List.mem_of_getElem? (i := 158) (by decide +kernel), List.mem_of_getElem? (i := 535) (by decide +kernel), List.mem_of_getElem? (i := 536) (by decide +kernel)⟩
theorem lw_p15 : lw_okq (⟨"EscrowLand$Foretold", "goOnFrom", "(III)V"⟩, 11) := ⟨⟨by decide +kernel, by decide +kernel⟩, List.mem_of_getElem? (i := 158) (by decide +kernel), List.mem_of_getElem? (i := 550) (by decide +kernel), List.mem_of_getElem? (i := 551) (by decide +kernel)⟩
def lw_privs_1 : List (MethodName × Nat) := [(⟨"EscrowLand", "found", "(I)I"⟩, 9), (⟨"EscrowLand", "foundNothing", "(I)I"⟩, 9), (⟨"EscrowLand$Tape", "readLaw", "()V"⟩, 6), (⟨"EscrowLand$Tape", "readSign", "(I)V"⟩, 6), (⟨"EscrowLand$Tape", "next", "()I"⟩, 6), (⟨"EscrowLand$Tape", "fail", "(I)V"⟩, 6), (⟨"EscrowLand$Tape", "readNumber", "(II)I"⟩, 6), (⟨"EscrowLand$Tape", "isFigureAt", "(I)Z"⟩, 6), (⟨"EscrowLand$Tape", "readThings", "()V"⟩, 6), (⟨"EscrowLand$Tape", "readThing", "(I)V"⟩, 6), (⟨"EscrowLand$Tape", "readSort", "()I"⟩, 6), (⟨"EscrowLand$Tape", "goesOn", "()Z"⟩, 6), (⟨"EscrowLand$Foretold", "beginNow", "()V"⟩, 11), (⟨"EscrowLand$Foretold", "passDay", "(I)V"⟩, 11), (⟨"EscrowLand$Foretold", "firstUnlikePerson", "()I"⟩, 11), (⟨"EscrowLand$Foretold", "goOnFrom", "(III)V"⟩, 11)]
theorem lw_r1 : ∀ q ∈ lw_privs_1, lw_okq q := List.forall_mem_cons.mpr ⟨lw_p0, List.forall_mem_cons.mpr ⟨lw_p1, List.forall_mem_cons.mpr ⟨lw_p2, List.forall_mem_cons.mpr ⟨lw_p3, List.forall_mem_cons.mpr ⟨lw_p4, List.forall_mem_cons.mpr ⟨lw_p5, List.forall_mem_cons.mpr ⟨lw_p6, List.forall_mem_cons.mpr ⟨lw_p7, List.forall_mem_cons.mpr ⟨lw_p8, List.forall_mem_cons.mpr ⟨lw_p9, List.forall_mem_cons.mpr ⟨lw_p10, List.forall_mem_cons.mpr ⟨lw_p11, List.forall_mem_cons.mpr ⟨lw_p12, List.forall_mem_cons.mpr ⟨lw_p13, List.forall_mem_cons.mpr ⟨lw_p14, List.forall_mem_cons.mpr ⟨lw_p15, fun _ h => absurd h List.not_mem_nil⟩⟩⟩⟩⟩⟩⟩⟩⟩⟩⟩⟩⟩⟩⟩⟩
theorem lw_p16 : lw_okq (⟨"EscrowLand$Foretold", "placeFrom", "(III)V"⟩, 11) := ⟨⟨by decide +kernel, by decide +kernel⟩, List.mem_of_getElem? (i := 158) (by decide +kernel), List.mem_of_getElem? (i := 563) (by decide +kernel), List.mem_of_getElem? (i := 564) (by decide +kernel)⟩
theorem lw_p17 : lw_okq (⟨"EscrowLand$Foretold", "keepPlacesIfBest", "(I)V"⟩, 11) := ⟨⟨by decide +kernel, by decide +kernel⟩, List.mem_of_getElem? (i := 158) (by decide +kernel), List.mem_of_getElem? (i := 567) (by decide +kernel), List.mem_of_getElem? (i := 568) (by decide +kernel)⟩
theorem lw_p18 : lw_okq (⟨"EscrowLand$Foretold", "isNeverOffByMore", "(III)Z"⟩, 11) := ⟨⟨by decide +kernel, by decide +kernel⟩, List.mem_of_getElem? (i := 158) (by decide +kernel), List.mem_of_getElem? (i := 587) (by decide +kernel), List.mem_of_getElem? (i := 588) (by decide +kernel)⟩
theorem lw_p19 : lw_okq (⟨"EscrowLand$Foretold", "isWholeRound", "(I)Z"⟩, 11) := ⟨⟨by decide +kernel, by decide +kernel⟩, List.mem_of_getElem? (i := 158) (by decide +kernel), List.mem_of_getElem? (i := 599) (by decide +kernel), List.mem_of_getElem? (i := 600) (by decide +kernel)⟩
theorem lw_p20 : lw_okq (⟨"EscrowLand$Foretold", "isAllAsNow", "()Z"⟩, 11) := ⟨⟨by decide +kernel, by decide +kernel⟩, List.mem_of_getElem? (i := 158) (by decide +kernel), List.mem_of_getElem? (i := 603) (by decide +kernel), List.mem_of_getElem? (i := 604) (by decide +kernel)⟩
theorem lw_p21 : lw_okq (⟨"EscrowLand$Foretold", "isToldIfHasty", "(ILEscrowLand$Rows;III)Z"⟩, 11) := ⟨⟨by decide +kernel, by decide +kernel⟩, List.mem_of_getElem? (i := 158) (by decide +kernel), List.mem_of_getElem? (i := 615) (by decide +kernel), List.mem_of_getElem? (i := 616) (by decide +kernel)⟩
theorem lw_p22 : lw_okq (⟨"EscrowLand$Foretold", "isToldIfOf", "(IILEscrowLand$Rows;III)Z"⟩, 11) := ⟨⟨by decide +kernel, by decide +kernel⟩, List.mem_of_getElem? (i := 158) (by decide +kernel), List.mem_of_getElem? (i := 631) (by decide +kernel), List.mem_of_getElem? (i := 632) (by decide +kernel)⟩
theorem lw_p23 : lw_okq (⟨"EscrowLand$Foretold", "mostOffThen", "()I"⟩, 11) := ⟨⟨by decide +kernel, by decide +kernel⟩, List.mem_of_getElem? (i := 158) (by decide +kernel), List.mem_of_getElem? (i := 644) (by decide +kernel), List.mem_of_getElem? (i := 645) (by decide +kernel)⟩
theorem lw_p24 : lw_okq (⟨"EscrowLand$Foretold", "countWays", "(II)V"⟩, 11) := ⟨⟨by decide +kernel, by decide +kernel⟩, List.mem_of_getElem? (i := 158) (by decide +kernel), List.mem_of_getElem? (i := 659) (by decide +kernel), List.mem_of_getElem? (i := 660) (by decide +kernel)⟩
theorem lw_p25 : lw_okq (⟨"EscrowLand$Foretold", "pricesOfFallen", "()I"⟩, 11) := ⟨⟨by decide +kernel, by decide +kernel⟩, List.mem_of_getElem? (i := 158) (by decide +kernel), List.mem_of_getElem? (i := 675) (by decide +kernel), List.mem_of_getElem? (i := 676) (by decide +kernel)⟩
theorem lw_p26 : lw_okq (⟨"EscrowLand$Foretold", "putBackDrawn", "(J)I"⟩, 11) := ⟨⟨by decide +kernel, by decide +kernel⟩, List.mem_of_getElem? (i := 158) (by decide +kernel), List.mem_of_getElem? (i := 690) (by decide +kernel), List.mem_of_getElem? (i := 691) (by decide +kernel)⟩
theorem lw_p27 : lw_okq (⟨"EscrowLand", "imageNumbered", "(I)LEscrowLand$Land;"⟩, 9) := ⟨⟨by decide +kernel, by decide +kernel⟩, List.mem_of_getElem? (i := 12) (by decide +kernel), List.mem_of_getElem? (i := 700) (by decide +kernel), List.mem_of_getElem? (i := 701) (by decide +kernel)⟩
theorem lw_p28 : lw_okq (⟨"EscrowLand$Asks", "sizeAnew", "(I)I"⟩, 4) := ⟨⟨by decide +kernel, by decide +kernel⟩, List.mem_of_getElem? (i := 203) (by decide +kernel), List.mem_of_getElem? (i := 731) (by decide +kernel), List.mem_of_getElem? (i := 732) (by decide +kernel)⟩
theorem lw_p29 : lw_okq (⟨"EscrowLand$Asks", "give", "(II)I"⟩, 4) := ⟨⟨by decide +kernel, by decide +kernel⟩, List.mem_of_getElem? (i := 203) (by decide +kernel), List.mem_of_getElem? (i := 737) (by decide +kernel), List.mem_of_getElem? (i := 738) (by decide +kernel)⟩
theorem lw_p30 : lw_okq (⟨"EscrowLand$Asks", "leave", "(I)V"⟩, 4) := ⟨⟨by decide +kernel, by decide +kernel⟩, List.mem_of_getElem? (i := 203) (by decide +kernel), List.mem_of_getElem? (i := 741) (by decide +kernel), List.mem_of_getElem? (i := 742) (by decide +kernel)⟩
theorem lw_p31 : lw_okq (⟨"EscrowLand$Asks", "markAnew", "(I)I"⟩, 4) := ⟨⟨by decide +kernel, by decide +kernel⟩, List.mem_of_getElem? (i := 203) (by decide +kernel), List.mem_of_getElem? (i := 745) (by decide +kernel), List.mem_of_getElem? (i := 746) (by decide +kernel)⟩
def lw_privs_2 : List (MethodName × Nat) := [(⟨"EscrowLand$Foretold", "placeFrom", "(III)V"⟩, 11), (⟨"EscrowLand$Foretold", "keepPlacesIfBest", "(I)V"⟩, 11), (⟨"EscrowLand$Foretold", "isNeverOffByMore", "(III)Z"⟩, 11), (⟨"EscrowLand$Foretold", "isWholeRound", "(I)Z"⟩, 11), (⟨"EscrowLand$Foretold", "isAllAsNow", "()Z"⟩, 11), (⟨"EscrowLand$Foretold", "isToldIfHasty", "(ILEscrowLand$Rows;III)Z"⟩, 11), (⟨"EscrowLand$Foretold", "isToldIfOf", "(IILEscrowLand$Rows;III)Z"⟩, 11), (⟨"EscrowLand$Foretold", "mostOffThen", "()I"⟩, 11), (⟨"EscrowLand$Foretold", "countWays", "(II)V"⟩, 11), (⟨"EscrowLand$Foretold", "pricesOfFallen", "()I"⟩, 11), (⟨"EscrowLand$Foretold", "putBackDrawn", "(J)I"⟩, 11), (⟨"EscrowLand", "imageNumbered", "(I)LEscrowLand$Land;"⟩, 9), (⟨"EscrowLand$Asks", "sizeAnew", "(I)I"⟩, 4), (⟨"EscrowLand$Asks", "give", "(II)I"⟩, 4), (⟨"EscrowLand$Asks", "leave", "(I)V"⟩, 4), (⟨"EscrowLand$Asks", "markAnew", "(I)I"⟩, 4)]
theorem lw_r2 : ∀ q ∈ lw_privs_2, lw_okq q := List.forall_mem_cons.mpr ⟨lw_p16, List.forall_mem_cons.mpr ⟨lw_p17, List.forall_mem_cons.mpr ⟨lw_p18, List.forall_mem_cons.mpr ⟨lw_p19, List.forall_mem_cons.mpr ⟨lw_p20, List.forall_mem_cons.mpr ⟨lw_p21, List.forall_mem_cons.mpr ⟨lw_p22, List.forall_mem_cons.mpr ⟨lw_p23, List.forall_mem_cons.mpr ⟨lw_p24, List.forall_mem_cons.mpr ⟨lw_p25, List.forall_mem_cons.mpr ⟨lw_p26, List.forall_mem_cons.mpr ⟨lw_p27, List.forall_mem_cons.mpr ⟨lw_p28, List.forall_mem_cons.mpr ⟨lw_p29, List.forall_mem_cons.mpr ⟨lw_p30, List.forall_mem_cons.mpr ⟨lw_p31, fun _ h => absurd h List.not_mem_nil⟩⟩⟩⟩⟩⟩⟩⟩⟩⟩⟩⟩⟩⟩⟩⟩
theorem lw_p32 : lw_okq (⟨"EscrowLandModel", "find", "(I)I"⟩, 28) := ⟨⟨by decide +kernel, by decide +kernel⟩, List.mem_of_getElem? (i := 772) (by decide +kernel), List.mem_of_getElem? (i := 877) (by decide +kernel), List.mem_of_getElem? (i := 878) (by decide +kernel)⟩
theorem lw_p33 : lw_okq (⟨"EscrowLandModel", "well", "(I)I"⟩, 28) := ⟨⟨by decide +kernel, by decide +kernel⟩, List.mem_of_getElem? (i := 772) (by decide +kernel), List.mem_of_getElem? (i := 882) (by decide +kernel), List.mem_of_getElem? (i := 883) (by decide +kernel)⟩
theorem lw_p34 : lw_okq (⟨"EscrowLandModel", "readLand", "()Z"⟩, 28) := ⟨⟨by decide +kernel, by decide +kernel⟩, List.mem_of_getElem? (i := 772) (by decide +kernel), List.mem_of_getElem? (i := 911) (by decide +kernel), List.mem_of_getElem? (i := 912) (by decide +kernel)⟩
theorem lw_p35 : lw_okq (⟨"EscrowLandModel", "nextToken", "()V"⟩, 28) := ⟨⟨by decide +kernel, by decide +kernel⟩, List.mem_of_getElem? (i := 772) (by decide +kernel), List.mem_of_getElem? (i := 915) (by decide +kernel), List.mem_of_getElem? (i := 916) (by decide +kernel)⟩
theorem lw_p36 : lw_okq (⟨"EscrowLandModel", "takes", "(I)Z"⟩, 28) := ⟨⟨by decide +kernel, by decide +kernel⟩, List.mem_of_getElem? (i := 772) (by decide +kernel), List.mem_of_getElem? (i := 923) (by decide +kernel), List.mem_of_getElem? (i := 924) (by decide +kernel)⟩
theorem lw_p37 : lw_okq (⟨"EscrowLandModel", "isLetter", "(I)Z"⟩, 28) := ⟨⟨by decide +kernel, by decide +kernel⟩, List.mem_of_getElem? (i := 772) (by decide +kernel), List.mem_of_getElem? (i := 927) (by decide +kernel), List.mem_of_getElem? (i := 928) (by decide +kernel)⟩
theorem lw_p38 : lw_okq (⟨"EscrowLandModel", "faults", "(I)Z"⟩, 28) := ⟨⟨by decide +kernel, by decide +kernel⟩, List.mem_of_getElem? (i := 772) (by decide +kernel), List.mem_of_getElem? (i := 931) (by decide +kernel), List.mem_of_getElem? (i := 932) (by decide +kernel)⟩
theorem lw_p39 : lw_okq (⟨"EscrowLandModel", "takesNumber", "(IIII)Z"⟩, 28) := ⟨⟨by decide +kernel, by decide +kernel⟩, List.mem_of_getElem? (i := 772) (by decide +kernel), List.mem_of_getElem? (i := 935) (by decide +kernel), List.mem_of_getElem? (i := 936) (by decide +kernel)⟩
theorem lw_p40 : lw_okq (⟨"EscrowLandModel", "readThing", "(I)Z"⟩, 28) := ⟨⟨by decide +kernel, by decide +kernel⟩, List.mem_of_getElem? (i := 772) (by decide +kernel), List.mem_of_getElem? (i := 939) (by decide +kernel), List.mem_of_getElem? (i := 940) (by decide +kernel)⟩
theorem lw_p41 : lw_okq (⟨"EscrowLandModel", "note", "()V"⟩, 28) := ⟨⟨by decide +kernel, by decide +kernel⟩, List.mem_of_getElem? (i := 772) (by decide +kernel), List.mem_of_getElem? (i := 958) (by decide +kernel), List.mem_of_getElem? (i := 959) (by decide +kernel)⟩
theorem lw_p42 : lw_okq (⟨"EscrowLandModel", "oneDay", "()V"⟩, 28) := ⟨⟨by decide +kernel, by decide +kernel⟩, List.mem_of_getElem? (i := 772) (by decide +kernel), List.mem_of_getElem? (i := 962) (by decide +kernel), List.mem_of_getElem? (i := 963) (by decide +kernel)⟩
theorem lw_p43 : lw_okq (⟨"EscrowLandModel", "changed", "(III)I"⟩, 28) := ⟨⟨by decide +kernel, by decide +kernel⟩, List.mem_of_getElem? (i := 772) (by decide +kernel), List.mem_of_getElem? (i := 966) (by decide +kernel), List.mem_of_getElem? (i := 967) (by decide +kernel)⟩
theorem lw_p44 : lw_okq (⟨"EscrowLandModel", "allOff", "()I"⟩, 28) := ⟨⟨by decide +kernel, by decide +kernel⟩, List.mem_of_getElem? (i := 772) (by decide +kernel), List.mem_of_getElem? (i := 973) (by decide +kernel), List.mem_of_getElem? (i := 974) (by decide +kernel)⟩
theorem lw_p45 : lw_okq (⟨"EscrowLandModel", "off", "(I)I"⟩, 28) := ⟨⟨by decide +kernel, by decide +kernel⟩, List.mem_of_getElem? (i := 772) (by decide +kernel), List.mem_of_getElem? (i := 977) (by decide +kernel), List.mem_of_getElem? (i := 978) (by decide +kernel)⟩
theorem lw_p46 : lw_okq (⟨"EscrowLandModel", "differ", "(II)I"⟩, 28) := ⟨⟨by decide +kernel, by decide +kernel⟩, List.mem_of_getElem? (i := 772) (by decide +kernel), List.mem_of_getElem? (i := 981) (by decide +kernel), List.mem_of_getElem? (i := 982) (by decide +kernel)⟩
theorem lw_p47 : lw_okq (⟨"EscrowLandModel", "isThing", "(I)Z"⟩, 28) := ⟨⟨by decide +kernel, by decide +kernel⟩, List.mem_of_getElem? (i := 772) (by decide +kernel), List.mem_of_getElem? (i := 989) (by decide +kernel), List.mem_of_getElem? (i := 990) (by decide +kernel)⟩
def lw_privs_3 : List (MethodName × Nat) := [(⟨"EscrowLandModel", "find", "(I)I"⟩, 28), (⟨"EscrowLandModel", "well", "(I)I"⟩, 28), (⟨"EscrowLandModel", "readLand", "()Z"⟩, 28), (⟨"EscrowLandModel", "nextToken", "()V"⟩, 28), (⟨"EscrowLandModel", "takes", "(I)Z"⟩, 28), (⟨"EscrowLandModel", "isLetter", "(I)Z"⟩, 28), (⟨"EscrowLandModel", "faults", "(I)Z"⟩, 28), (⟨"EscrowLandModel", "takesNumber", "(IIII)Z"⟩, 28), (⟨"EscrowLandModel", "readThing", "(I)Z"⟩, 28), (⟨"EscrowLandModel", "note", "()V"⟩, 28), (⟨"EscrowLandModel", "oneDay", "()V"⟩, 28), (⟨"EscrowLandModel", "changed", "(III)I"⟩, 28), (⟨"EscrowLandModel", "allOff", "()I"⟩, 28), (⟨"EscrowLandModel", "off", "(I)I"⟩, 28), (⟨"EscrowLandModel", "differ", "(II)I"⟩, 28), (⟨"EscrowLandModel", "isThing", "(I)Z"⟩, 28)]
theorem lw_r3 : ∀ q ∈ lw_privs_3, lw_okq q := List.forall_mem_cons.mpr ⟨lw_p32, List.forall_mem_cons.mpr ⟨lw_p33, List.forall_mem_cons.mpr ⟨lw_p34, List.forall_mem_cons.mpr ⟨lw_p35, List.forall_mem_cons.mpr ⟨lw_p36, List.forall_mem_cons.mpr ⟨lw_p37, List.forall_mem_cons.mpr ⟨lw_p38, List.forall_mem_cons.mpr ⟨lw_p39, List.forall_mem_cons.mpr ⟨lw_p40, List.forall_mem_cons.mpr ⟨lw_p41, List.forall_mem_cons.mpr ⟨lw_p42, List.forall_mem_cons.mpr ⟨lw_p43, List.forall_mem_cons.mpr ⟨lw_p44, List.forall_mem_cons.mpr ⟨lw_p45, List.forall_mem_cons.mpr ⟨lw_p46, List.forall_mem_cons.mpr ⟨lw_p47, fun _ h => absurd h List.not_mem_nil⟩⟩⟩⟩⟩⟩⟩⟩⟩⟩⟩⟩⟩⟩⟩⟩
theorem lw_p48 : lw_okq (⟨"EscrowLandModel", "isPeople", "(I)Z"⟩, 28) := ⟨⟨by decide +kernel, by decide +kernel⟩, List.mem_of_getElem? (i := 772) (by decide +kernel), List.mem_of_getElem? (i := 993) (by decide +kernel), List.mem_of_getElem? (i := 994) (by decide +kernel)⟩
theorem lw_p49 : lw_okq (⟨"EscrowLandModel", "price", "(II)I"⟩, 28) := ⟨⟨by decide +kernel, by decide +kernel⟩, List.mem_of_getElem? (i := 772) (by decide +kernel), List.mem_of_getElem? (i := 997) (by decide +kernel), List.mem_of_getElem? (i := 998) (by decide +kernel)⟩
theorem lw_p50 : lw_okq (⟨"EscrowLandModel", "isAlike", "(I)Z"⟩, 28) := ⟨⟨by decide +kernel, by decide +kernel⟩, List.mem_of_getElem? (i := 772) (by decide +kernel), List.mem_of_getElem? (i := 1014) (by decide +kernel), List.mem_of_getElem? (i := 1015) (by decide +kernel)⟩
theorem lw_p51 : lw_okq (⟨"EscrowLandModel", "putAside", "()V"⟩, 28) := ⟨⟨by decide +kernel, by decide +kernel⟩, List.mem_of_getElem? (i := 772) (by decide +kernel), List.mem_of_getElem? (i := 1032) (by decide +kernel), List.mem_of_getElem? (i := 1033) (by decide +kernel)⟩
theorem lw_p52 : lw_okq (⟨"EscrowLandModel", "takeBack", "()V"⟩, 28) := ⟨⟨by decide +kernel, by decide +kernel⟩, List.mem_of_getElem? (i := 772) (by decide +kernel), List.mem_of_getElem? (i := 1036) (by decide +kernel), List.mem_of_getElem? (i := 1037) (by decide +kernel)⟩
theorem lw_p53 : lw_okq (⟨"EscrowLandModel", "nextDay", "(II)V"⟩, 28) := ⟨⟨by decide +kernel, by decide +kernel⟩, List.mem_of_getElem? (i := 772) (by decide +kernel), List.mem_of_getElem? (i := 1049) (by decide +kernel), List.mem_of_getElem? (i := 1050) (by decide +kernel)⟩
theorem lw_p54 : lw_okq (⟨"EscrowLandModel", "comes", "(III)V"⟩, 28) := ⟨⟨by decide +kernel, by decide +kernel⟩, List.mem_of_getElem? (i := 772) (by decide +kernel), List.mem_of_getElem? (i := 1053) (by decide +kernel), List.mem_of_getElem? (i := 1054) (by decide +kernel)⟩
theorem lw_p55 : lw_okq (⟨"EscrowLandModel", "offBy", "(I)I"⟩, 28) := ⟨⟨by decide +kernel, by decide +kernel⟩, List.mem_of_getElem? (i := 772) (by decide +kernel), List.mem_of_getElem? (i := 1062) (by decide +kernel), List.mem_of_getElem? (i := 1063) (by decide +kernel)⟩
theorem lw_p56 : lw_okq (⟨"EscrowLandModel", "isSeldom", "(III)Z"⟩, 28) := ⟨⟨by decide +kernel, by decide +kernel⟩, List.mem_of_getElem? (i := 772) (by decide +kernel), List.mem_of_getElem? (i := 1077) (by decide +kernel), List.mem_of_getElem? (i := 1078) (by decide +kernel)⟩
theorem lw_p57 : lw_okq (⟨"EscrowLandModel", "isTurn", "(I)Z"⟩, 28) := ⟨⟨by decide +kernel, by decide +kernel⟩, List.mem_of_getElem? (i := 772) (by decide +kernel), List.mem_of_getElem? (i := 1085) (by decide +kernel), List.mem_of_getElem? (i := 1086) (by decide +kernel)⟩
theorem lw_p58 : lw_okq (⟨"EscrowLandModel", "isAsNow", "()Z"⟩, 28) := ⟨⟨by decide +kernel, by decide +kernel⟩, List.mem_of_getElem? (i := 772) (by decide +kernel), List.mem_of_getElem? (i := 1089) (by decide +kernel), List.mem_of_getElem? (i := 1090) (by decide +kernel)⟩
theorem lw_p59 : lw_okq (⟨"EscrowLandModel", "lacks", "(III)I"⟩, 28) := ⟨⟨by decide +kernel, by decide +kernel⟩, List.mem_of_getElem? (i := 772) (by decide +kernel), List.mem_of_getElem? (i := 1098) (by decide +kernel), List.mem_of_getElem? (i := 1099) (by decide +kernel)⟩
theorem lw_p60 : lw_okq (⟨"EscrowLandModel", "isStealth", "(III)Z"⟩, 28) := ⟨⟨by decide +kernel, by decide +kernel⟩, List.mem_of_getElem? (i := 772) (by decide +kernel), List.mem_of_getElem? (i := 1102) (by decide +kernel), List.mem_of_getElem? (i := 1103) (by decide +kernel)⟩
theorem lw_p61 : lw_okq (⟨"EscrowLandModel", "sizeOf", "(I)I"⟩, 28) := ⟨⟨by decide +kernel, by decide +kernel⟩, List.mem_of_getElem? (i := 772) (by decide +kernel), List.mem_of_getElem? (i := 1156) (by decide +kernel), List.mem_of_getElem? (i := 1157) (by decide +kernel)⟩
theorem lw_p62 : lw_okq (⟨"EscrowLandModel", "begin", "(I)V"⟩, 28) := ⟨⟨by decide +kernel, by decide +kernel⟩, List.mem_of_getElem? (i := 772) (by decide +kernel), List.mem_of_getElem? (i := 1160) (by decide +kernel), List.mem_of_getElem? (i := 1161) (by decide +kernel)⟩
theorem lw_p63 : lw_okq (⟨"EscrowLandModel", "growingSize", "(I)I"⟩, 28) := ⟨⟨by decide +kernel, by decide +kernel⟩, List.mem_of_getElem? (i := 772) (by decide +kernel), List.mem_of_getElem? (i := 1164) (by decide +kernel), List.mem_of_getElem? (i := 1165) (by decide +kernel)⟩
def lw_privs_4 : List (MethodName × Nat) := [(⟨"EscrowLandModel", "isPeople", "(I)Z"⟩, 28), (⟨"EscrowLandModel", "price", "(II)I"⟩, 28), (⟨"EscrowLandModel", "isAlike", "(I)Z"⟩, 28), (⟨"EscrowLandModel", "putAside", "()V"⟩, 28), (⟨"EscrowLandModel", "takeBack", "()V"⟩, 28), (⟨"EscrowLandModel", "nextDay", "(II)V"⟩, 28), (⟨"EscrowLandModel", "comes", "(III)V"⟩, 28), (⟨"EscrowLandModel", "offBy", "(I)I"⟩, 28), (⟨"EscrowLandModel", "isSeldom", "(III)Z"⟩, 28), (⟨"EscrowLandModel", "isTurn", "(I)Z"⟩, 28), (⟨"EscrowLandModel", "isAsNow", "()Z"⟩, 28), (⟨"EscrowLandModel", "lacks", "(III)I"⟩, 28), (⟨"EscrowLandModel", "isStealth", "(III)Z"⟩, 28), (⟨"EscrowLandModel", "sizeOf", "(I)I"⟩, 28), (⟨"EscrowLandModel", "begin", "(I)V"⟩, 28), (⟨"EscrowLandModel", "growingSize", "(I)I"⟩, 28)]
theorem lw_r4 : ∀ q ∈ lw_privs_4, lw_okq q := List.forall_mem_cons.mpr ⟨lw_p48, List.forall_mem_cons.mpr ⟨lw_p49, List.forall_mem_cons.mpr ⟨lw_p50, List.forall_mem_cons.mpr ⟨lw_p51, List.forall_mem_cons.mpr ⟨lw_p52, List.forall_mem_cons.mpr ⟨lw_p53, List.forall_mem_cons.mpr ⟨lw_p54, List.forall_mem_cons.mpr ⟨lw_p55, List.forall_mem_cons.mpr ⟨lw_p56, List.forall_mem_cons.mpr ⟨lw_p57, List.forall_mem_cons.mpr ⟨lw_p58, List.forall_mem_cons.mpr ⟨lw_p59, List.forall_mem_cons.mpr ⟨lw_p60, List.forall_mem_cons.mpr ⟨lw_p61, List.forall_mem_cons.mpr ⟨lw_p62, List.forall_mem_cons.mpr ⟨lw_p63, fun _ h => absurd h List.not_mem_nil⟩⟩⟩⟩⟩⟩⟩⟩⟩⟩⟩⟩⟩⟩⟩⟩
theorem lw_p64 : lw_okq (⟨"EscrowLandModel", "lent", "(II)I"⟩, 28) := ⟨⟨by decide +kernel, by decide +kernel⟩, List.mem_of_getElem? (i := 772) (by decide +kernel), List.mem_of_getElem? (i := 1168) (by decide +kernel), List.mem_of_getElem? (i := 1169) (by decide +kernel)⟩
theorem lw_p65 : lw_okq (⟨"EscrowLandModel", "markOf", "(I)I"⟩, 28) := ⟨⟨by decide +kernel, by decide +kernel⟩, List.mem_of_getElem? (i := 772) (by decide +kernel), List.mem_of_getElem? (i := 1172) (by decide +kernel), List.mem_of_getElem? (i := 1173) (by decide +kernel)⟩
theorem lw_p66 : lw_okq (⟨"EscrowLandModel", "growingMark", "(I)I"⟩, 28) := ⟨⟨by decide +kernel, by decide +kernel⟩, List.mem_of_getElem? (i := 772) (by decide +kernel), List.mem_of_getElem? (i := 1176) (by decide +kernel), List.mem_of_getElem? (i := 1177) (by decide +kernel)⟩
theorem lw_p67 : lw_okq (⟨"EscrowLandModel", "sizeOfPerson", "(I)I"⟩, 28) := ⟨⟨by decide +kernel, by decide +kernel⟩, List.mem_of_getElem? (i := 772) (by decide +kernel), List.mem_of_getElem? (i := 1180) (by decide +kernel), List.mem_of_getElem? (i := 1181) (by decide +kernel)⟩
theorem lw_p68 : lw_okq (⟨"EscrowLandModel", "personSize", "(I)I"⟩, 28) := ⟨⟨by decide +kernel, by decide +kernel⟩, List.mem_of_getElem? (i := 772) (by decide +kernel), List.mem_of_getElem? (i := 1184) (by decide +kernel), List.mem_of_getElem? (i := 1185) (by decide +kernel)⟩
def lw_privs_5 : List (MethodName × Nat) := [(⟨"EscrowLandModel", "lent", "(II)I"⟩, 28), (⟨"EscrowLandModel", "markOf", "(I)I"⟩, 28), (⟨"EscrowLandModel", "growingMark", "(I)I"⟩, 28), (⟨"EscrowLandModel", "sizeOfPerson", "(I)I"⟩, 28), (⟨"EscrowLandModel", "personSize", "(I)I"⟩, 28)]
theorem lw_r5 : ∀ q ∈ lw_privs_5, lw_okq q := List.forall_mem_cons.mpr ⟨lw_p64, List.forall_mem_cons.mpr ⟨lw_p65, List.forall_mem_cons.mpr ⟨lw_p66, List.forall_mem_cons.mpr ⟨lw_p67, List.forall_mem_cons.mpr ⟨lw_p68, fun _ h => absurd h List.not_mem_nil⟩⟩⟩⟩⟩
def lw_privs : List (MethodName × Nat) := lw_privs_1 ++ (lw_privs_2 ++ (lw_privs_3 ++ (lw_privs_4 ++ (lw_privs_5))))
def lw_tbl : List Cond := k2_sels lw_privs ++ tables_1
theorem lw_privs_ok : ∀ q ∈ lw_privs, lw_okq q := by
  show ∀ q ∈ lw_privs_1 ++ (lw_privs_2 ++ (lw_privs_3 ++ (lw_privs_4 ++ (lw_privs_5)))), lw_okq q
  exact List.forall_mem_append.mpr ⟨lw_r1, List.forall_mem_append.mpr ⟨lw_r2, List.forall_mem_append.mpr ⟨lw_r3, List.forall_mem_append.mpr ⟨lw_r4, lw_r5⟩⟩⟩⟩
def RX0 : String := "EscrowLand$Acts"
def TX0 : u_T := fun k => match k with
  | 0 => ("EscrowLand$Acts", "kept", "[I", true)
  | 1 => ("EscrowLand$Acts", "many", "I", false)
  | _ => ("EscrowLand$Acts", "next", "I", false)
def tyX0 : Nat → FieldType := fun k => match k with
  | 0 => .array .int
  | 1 => .int
  | _ => .int
theorem nmX0 : ∀ a, a < 3 → ∀ b, b < 3 → a ≠ b → (TX0 a).2.1 ≠ (TX0 b).2.1 := by decide +kernel
theorem tyX0_ok : ∀ k, k < 3 → parseFieldDescriptor (TX0 k).2.2.1 = some (tyX0 k) := by decide +kernel
abbrev cX0_init : ByteArray := prog_2_method_1_code
def yX0_init : MethodName := ⟨RX0, "<init>", "()V"⟩
abbrev cX0_forget : ByteArray := prog_2_method_2_code
def yX0_forget : MethodName := ⟨RX0, "forget", "()V"⟩
abbrev cX0_keep : ByteArray := prog_2_method_3_code
def yX0_keep : MethodName := ⟨RX0, "keep", "(LEscrowLand$Land;)V"⟩
abbrev cX0_takeBack : ByteArray := prog_2_method_4_code
def yX0_takeBack : MethodName := ⟨RX0, "takeBack", "(LEscrowLand$Land;)I"⟩
def RX1 : String := "EscrowLand$Asks"
def TX1 : u_T := fun k => match k with
  | 0 => ("EscrowLand$Asks", "land", "LEscrowLand$Land;", true)
  | 1 => ("EscrowLand$Asks", "trace", "[I", true)
  | 2 => ("EscrowLand$Asks", "length", "I", false)
  | _ => ("EscrowLand$Asks", "one", "I", false)
def tyX1 : Nat → FieldType := fun k => match k with
  | 0 => .object "EscrowLand$Land"
  | 1 => .array .int
  | 2 => .int
  | _ => .int
theorem nmX1 : ∀ a, a < 4 → ∀ b, b < 4 → a ≠ b → (TX1 a).2.1 ≠ (TX1 b).2.1 := by decide +kernel
theorem tyX1_ok : ∀ k, k < 4 → parseFieldDescriptor (TX1 k).2.2.1 = some (tyX1 k) := by decide +kernel
abbrev cX1_init : ByteArray := prog_3_method_1_code
def yX1_init : MethodName := ⟨RX1, "<init>", "(LEscrowLand$Land;)V"⟩
abbrev cX1_isKindToo : ByteArray := prog_3_method_2_code
def yX1_isKindToo : MethodName := ⟨RX1, "isKindToo", "(II)Z"⟩
abbrev cX1_answer : ByteArray := prog_3_method_3_code
def yX1_answer : MethodName := ⟨RX1, "answer", "(II)I"⟩
abbrev cX1_traced : ByteArray := prog_3_method_4_code
def yX1_traced : MethodName := ⟨RX1, "traced", "(I)I"⟩
abbrev cX1_sizeAnew : ByteArray := prog_3_method_5_code
def yX1_sizeAnew : MethodName := ⟨RX1, "sizeAnew", "(I)I"⟩
abbrev cX1_markAnew : ByteArray := prog_3_method_6_code
def yX1_markAnew : MethodName := ⟨RX1, "markAnew", "(I)I"⟩
abbrev cX1_give : ByteArray := prog_3_method_7_code
def yX1_give : MethodName := ⟨RX1, "give", "(II)I"⟩
abbrev cX1_leave : ByteArray := prog_3_method_8_code
def yX1_leave : MethodName := ⟨RX1, "leave", "(I)V"⟩
def RX2 : String := "EscrowLand$Foretold"
def TX2 : u_T := fun k => match k with
  | 0 => ("EscrowLand$Foretold", "land", "LEscrowLand$Land;", true)
  | 1 => ("EscrowLand$Foretold", "is", "[I", true)
  | 2 => ("EscrowLand$Foretold", "day", "I", false)
  | 3 => ("EscrowLand$Foretold", "costSoFar", "[I", true)
  | 4 => ("EscrowLand$Foretold", "bitsSoFar", "[I", true)
  | 5 => ("EscrowLand$Foretold", "leastCost", "I", false)
  | 6 => ("EscrowLand$Foretold", "leastBits", "I", false)
  | 7 => ("EscrowLand$Foretold", "place", "[I", true)
  | 8 => ("EscrowLand$Foretold", "bestPlace", "[I", true)
  | 9 => ("EscrowLand$Foretold", "leastOff", "I", false)
  | _ => ("EscrowLand$Foretold", "ways", "[J", true)
def tyX2 : Nat → FieldType := fun k => match k with
  | 0 => .object "EscrowLand$Land"
  | 1 => .array .int
  | 2 => .int
  | 3 => .array .int
  | 4 => .array .int
  | 5 => .int
  | 6 => .int
  | 7 => .array .int
  | 8 => .array .int
  | 9 => .int
  | _ => .array .long
theorem nmX2 : ∀ a, a < 11 → ∀ b, b < 11 → a ≠ b → (TX2 a).2.1 ≠ (TX2 b).2.1 := by decide +kernel
theorem tyX2_ok : ∀ k, k < 11 → parseFieldDescriptor (TX2 k).2.2.1 = some (tyX2 k) := by decide +kernel
abbrev cX2_init : ByteArray := prog_4_method_1_code
def yX2_init : MethodName := ⟨RX2, "<init>", "(LEscrowLand$Land;)V"⟩
abbrev cX2_beginNow : ByteArray := prog_4_method_2_code
def yX2_beginNow : MethodName := ⟨RX2, "beginNow", "()V"⟩
abbrev cX2_passDay : ByteArray := prog_4_method_3_code
def yX2_passDay : MethodName := ⟨RX2, "passDay", "(I)V"⟩
abbrev cX2_allOff : ByteArray := prog_4_method_4_code
def yX2_allOff : MethodName := ⟨RX2, "allOff", "()I"⟩
abbrev cX2_isBehind : ByteArray := prog_4_method_5_code
def yX2_isBehind : MethodName := ⟨RX2, "isBehind", "(II)I"⟩
abbrev cX2_allOffBehind : ByteArray := prog_4_method_6_code
def yX2_allOffBehind : MethodName := ⟨RX2, "allOffBehind", "(I)I"⟩
abbrev cX2_firstLost : ByteArray := prog_4_method_7_code
def yX2_firstLost : MethodName := ⟨RX2, "firstLost", "(Z)I"⟩
abbrev cX2_firstUnlikePerson : ByteArray := prog_4_method_8_code
def yX2_firstUnlikePerson : MethodName := ⟨RX2, "firstUnlikePerson", "()I"⟩
abbrev cX2_planPutBacks : ByteArray := prog_4_method_9_code
def yX2_planPutBacks : MethodName := ⟨RX2, "planPutBacks", "(II)V"⟩
abbrev cX2_goOnFrom : ByteArray := prog_4_method_10_code
def yX2_goOnFrom : MethodName := ⟨RX2, "goOnFrom", "(III)V"⟩
abbrev cX2_planPlaces : ByteArray := prog_4_method_11_code
def yX2_planPlaces : MethodName := ⟨RX2, "planPlaces", "()V"⟩
abbrev cX2_placeFrom : ByteArray := prog_4_method_12_code
def yX2_placeFrom : MethodName := ⟨RX2, "placeFrom", "(III)V"⟩
abbrev cX2_keepPlacesIfBest : ByteArray := prog_4_method_13_code
def yX2_keepPlacesIfBest : MethodName := ⟨RX2, "keepPlacesIfBest", "(I)V"⟩
abbrev cX2_mostDaysUnseen : ByteArray := prog_4_method_14_code
def yX2_mostDaysUnseen : MethodName := ⟨RX2, "mostDaysUnseen", "(II)I"⟩
abbrev cX2_isNeverOffByMore : ByteArray := prog_4_method_15_code
def yX2_isNeverOffByMore : MethodName := ⟨RX2, "isNeverOffByMore", "(III)Z"⟩
abbrev cX2_firstReturn : ByteArray := prog_4_method_16_code
def yX2_firstReturn : MethodName := ⟨RX2, "firstReturn", "()I"⟩
abbrev cX2_isWholeRound : ByteArray := prog_4_method_17_code
def yX2_isWholeRound : MethodName := ⟨RX2, "isWholeRound", "(I)Z"⟩
abbrev cX2_isAllAsNow : ByteArray := prog_4_method_18_code
def yX2_isAllAsNow : MethodName := ⟨RX2, "isAllAsNow", "()Z"⟩
abbrev cX2_hasteBits : ByteArray := prog_4_method_19_code
def yX2_hasteBits : MethodName := ⟨RX2, "hasteBits", "(LEscrowLand$Rows;III)I"⟩
abbrev cX2_isToldIfHasty : ByteArray := prog_4_method_20_code
def yX2_isToldIfHasty : MethodName := ⟨RX2, "isToldIfHasty", "(ILEscrowLand$Rows;III)Z"⟩
abbrev cX2_kindBits : ByteArray := prog_4_method_21_code
def yX2_kindBits : MethodName := ⟨RX2, "kindBits", "(ILEscrowLand$Rows;III)I"⟩
abbrev cX2_isToldIfOf : ByteArray := prog_4_method_22_code
def yX2_isToldIfOf : MethodName := ⟨RX2, "isToldIfOf", "(IILEscrowLand$Rows;III)Z"⟩
abbrev cX2_mostOff : ByteArray := prog_4_method_23_code
def yX2_mostOff : MethodName := ⟨RX2, "mostOff", "(I)I"⟩
abbrev cX2_mostOffThen : ByteArray := prog_4_method_24_code
def yX2_mostOffThen : MethodName := ⟨RX2, "mostOffThen", "()I"⟩
abbrev cX2_fractionAlike : ByteArray := prog_4_method_25_code
def yX2_fractionAlike : MethodName := ⟨RX2, "fractionAlike", "(IIIZ)J"⟩
abbrev cX2_countWays : ByteArray := prog_4_method_26_code
def yX2_countWays : MethodName := ⟨RX2, "countWays", "(II)V"⟩
abbrev cX2_greatestDivisor : ByteArray := prog_4_method_27_code
def yX2_greatestDivisor : MethodName := ⟨RX2, "greatestDivisor", "(JJ)J"⟩
abbrev cX2_pricesOfLeaves : ByteArray := prog_4_method_28_code
def yX2_pricesOfLeaves : MethodName := ⟨RX2, "pricesOfLeaves", "(I)I"⟩
abbrev cX2_pricesOfFallen : ByteArray := prog_4_method_29_code
def yX2_pricesOfFallen : MethodName := ⟨RX2, "pricesOfFallen", "()I"⟩
abbrev cX2_costByDraws : ByteArray := prog_4_method_30_code
def yX2_costByDraws : MethodName := ⟨RX2, "costByDraws", "(II)I"⟩
abbrev cX2_putBackDrawn : ByteArray := prog_4_method_31_code
def yX2_putBackDrawn : MethodName := ⟨RX2, "putBackDrawn", "(J)I"⟩
def RX3 : String := "EscrowLand$Land"
def TX3 : u_T := fun k => match k with
  | 0 => ("EscrowLand$Land", "things", "I", false)
  | 1 => ("EscrowLand$Land", "may", "I", false)
  | 2 => ("EscrowLand$Land", "fee", "I", false)
  | 3 => ("EscrowLand$Land", "day", "I", false)
  | 4 => ("EscrowLand$Land", "cost", "I", false)
  | 5 => ("EscrowLand$Land", "kind", "[I", true)
  | 6 => ("EscrowLand$Land", "was", "[I", true)
  | 7 => ("EscrowLand$Land", "by", "[I", true)
  | 8 => ("EscrowLand$Land", "price", "[I", true)
  | 9 => ("EscrowLand$Land", "side", "[I", true)
  | _ => ("EscrowLand$Land", "is", "[I", true)
def tyX3 : Nat → FieldType := fun k => match k with
  | 0 => .int
  | 1 => .int
  | 2 => .int
  | 3 => .int
  | 4 => .int
  | 5 => .array .int
  | 6 => .array .int
  | 7 => .array .int
  | 8 => .array .int
  | 9 => .array .int
  | _ => .array .int
theorem nmX3 : ∀ a, a < 11 → ∀ b, b < 11 → a ≠ b → (TX3 a).2.1 ≠ (TX3 b).2.1 := by decide +kernel
theorem tyX3_ok : ∀ k, k < 11 → parseFieldDescriptor (TX3 k).2.2.1 = some (tyX3 k) := by decide +kernel
abbrev cX3_init : ByteArray := prog_5_method_1_code
def yX3_init : MethodName := ⟨RX3, "<init>", "()V"⟩
abbrev cX3_takeAll : ByteArray := prog_5_method_2_code
def yX3_takeAll : MethodName := ⟨RX3, "takeAll", "(LEscrowLand$Land;)V"⟩
abbrev cX3_beginAnew : ByteArray := prog_5_method_3_code
def yX3_beginAnew : MethodName := ⟨RX3, "beginAnew", "()V"⟩
abbrev cX3_has : ByteArray := prog_5_method_4_code
def yX3_has : MethodName := ⟨RX3, "has", "(I)Z"⟩
abbrev cX3_isPersonAt : ByteArray := prog_5_method_5_code
def yX3_isPersonAt : MethodName := ⟨RX3, "isPersonAt", "(I)Z"⟩
abbrev cX3_offIf : ByteArray := prog_5_method_6_code
def yX3_offIf : MethodName := ⟨RX3, "offIf", "(II)I"⟩
abbrev cX3_offOf : ByteArray := prog_5_method_7_code
def yX3_offOf : MethodName := ⟨RX3, "offOf", "(I)I"⟩
abbrev cX3_allOff : ByteArray := prog_5_method_8_code
def yX3_allOff : MethodName := ⟨RX3, "allOff", "()I"⟩
abbrev cX3_alikeBits : ByteArray := prog_5_method_9_code
def yX3_alikeBits : MethodName := ⟨RX3, "alikeBits", "()I"⟩
abbrev cX3_gainOf : ByteArray := prog_5_method_10_code
def yX3_gainOf : MethodName := ⟨RX3, "gainOf", "(I)I"⟩
abbrev cX3_costToPutBack : ByteArray := prog_5_method_11_code
def yX3_costToPutBack : MethodName := ⟨RX3, "costToPutBack", "(II)I"⟩
abbrev cX3_passDay : ByteArray := prog_5_method_12_code
def yX3_passDay : MethodName := ⟨RX3, "passDay", "()V"⟩
abbrev cX3_dayOn : ByteArray := prog_5_method_13_code
def yX3_dayOn : MethodName := ⟨RX3, "dayOn", "(III)I"⟩
abbrev cX3_dayOnAs : ByteArray := prog_5_method_14_code
def yX3_dayOnAs : MethodName := ⟨RX3, "dayOnAs", "(IIII)I"⟩
abbrev cX3_change : ByteArray := prog_5_method_15_code
def yX3_change : MethodName := ⟨RX3, "change", "(III)I"⟩
def RX4 : String := "EscrowLand$Rows"
def TX4 : u_T := fun k => match k with
  | 0 => ("EscrowLand$Rows", "lane", "[I", true)
  | 1 => ("EscrowLand$Rows", "size", "[I", true)
  | _ => ("EscrowLand$Rows", "items", "[I", true)
def tyX4 : Nat → FieldType := fun k => match k with
  | 0 => .array .int
  | 1 => .array .int
  | _ => .array .int
theorem nmX4 : ∀ a, a < 3 → ∀ b, b < 3 → a ≠ b → (TX4 a).2.1 ≠ (TX4 b).2.1 := by decide +kernel
theorem tyX4_ok : ∀ k, k < 3 → parseFieldDescriptor (TX4 k).2.2.1 = some (tyX4 k) := by decide +kernel
abbrev cX4_init : ByteArray := prog_6_method_1_code
def yX4_init : MethodName := ⟨RX4, "<init>", "()V"⟩
abbrev cX4_isMissing : ByteArray := prog_6_method_2_code
def yX4_isMissing : MethodName := ⟨RX4, "isMissing", "(I)Z"⟩
abbrev cX4_laneOf : ByteArray := prog_6_method_3_code
def yX4_laneOf : MethodName := ⟨RX4, "laneOf", "(I)I"⟩
abbrev cX4_howMany : ByteArray := prog_6_method_4_code
def yX4_howMany : MethodName := ⟨RX4, "howMany", "()I"⟩
abbrev cX4_make : ByteArray := prog_6_method_5_code
def yX4_make : MethodName := ⟨RX4, "make", "(III)V"⟩
abbrev cX4_remove : ByteArray := prog_6_method_6_code
def yX4_remove : MethodName := ⟨RX4, "remove", "(I)I"⟩
abbrev cX4_hasPlaces : ByteArray := prog_6_method_7_code
def yX4_hasPlaces : MethodName := ⟨RX4, "hasPlaces", "(III)Z"⟩
abbrev cX4_findingAt : ByteArray := prog_6_method_8_code
def yX4_findingAt : MethodName := ⟨RX4, "findingAt", "(III)I"⟩
abbrev cX4_read : ByteArray := prog_6_method_9_code
def yX4_read : MethodName := ⟨RX4, "read", "(II)I"⟩
abbrev cX4_write : ByteArray := prog_6_method_10_code
def yX4_write : MethodName := ⟨RX4, "write", "(III)I"⟩
abbrev cX4_move : ByteArray := prog_6_method_11_code
def yX4_move : MethodName := ⟨RX4, "move", "(IIIII)V"⟩
abbrev cX4_inLane : ByteArray := prog_6_method_12_code
def yX4_inLane : MethodName := ⟨RX4, "inLane", "(II)I"⟩
def RX5 : String := "EscrowLand$Tape"
def TX5 : u_T := fun k => match k with
  | 0 => ("EscrowLand$Tape", "bytes", "[I", true)
  | 1 => ("EscrowLand$Tape", "draft", "LEscrowLand$Land;", true)
  | 2 => ("EscrowLand$Tape", "length", "I", false)
  | 3 => ("EscrowLand$Tape", "latestFault", "I", false)
  | 4 => ("EscrowLand$Tape", "at", "I", false)
  | _ => ("EscrowLand$Tape", "faultPlace", "I", false)
def tyX5 : Nat → FieldType := fun k => match k with
  | 0 => .array .int
  | 1 => .object "EscrowLand$Land"
  | 2 => .int
  | 3 => .int
  | 4 => .int
  | _ => .int
theorem nmX5 : ∀ a, a < 6 → ∀ b, b < 6 → a ≠ b → (TX5 a).2.1 ≠ (TX5 b).2.1 := by decide +kernel
theorem tyX5_ok : ∀ k, k < 6 → parseFieldDescriptor (TX5 k).2.2.1 = some (tyX5 k) := by decide +kernel
abbrev cX5_init : ByteArray := prog_7_method_1_code
def yX5_init : MethodName := ⟨RX5, "<init>", "()V"⟩
abbrev cX5_isFull : ByteArray := prog_7_method_2_code
def yX5_isFull : MethodName := ⟨RX5, "isFull", "()Z"⟩
abbrev cX5_add : ByteArray := prog_7_method_3_code
def yX5_add : MethodName := ⟨RX5, "add", "(I)I"⟩
abbrev cX5_readInto : ByteArray := prog_7_method_4_code
def yX5_readInto : MethodName := ⟨RX5, "readInto", "(LEscrowLand$Land;)I"⟩
abbrev cX5_readLaw : ByteArray := prog_7_method_5_code
def yX5_readLaw : MethodName := ⟨RX5, "readLaw", "()V"⟩
abbrev cX5_readThings : ByteArray := prog_7_method_6_code
def yX5_readThings : MethodName := ⟨RX5, "readThings", "()V"⟩
abbrev cX5_readThing : ByteArray := prog_7_method_7_code
def yX5_readThing : MethodName := ⟨RX5, "readThing", "(I)V"⟩
abbrev cX5_goesOn : ByteArray := prog_7_method_8_code
def yX5_goesOn : MethodName := ⟨RX5, "goesOn", "()Z"⟩
abbrev cX5_next : ByteArray := prog_7_method_9_code
def yX5_next : MethodName := ⟨RX5, "next", "()I"⟩
abbrev cX5_fail : ByteArray := prog_7_method_10_code
def yX5_fail : MethodName := ⟨RX5, "fail", "(I)V"⟩
abbrev cX5_readSign : ByteArray := prog_7_method_11_code
def yX5_readSign : MethodName := ⟨RX5, "readSign", "(I)V"⟩
abbrev cX5_readSort : ByteArray := prog_7_method_12_code
def yX5_readSort : MethodName := ⟨RX5, "readSort", "()I"⟩
abbrev cX5_readNumber : ByteArray := prog_7_method_13_code
def yX5_readNumber : MethodName := ⟨RX5, "readNumber", "(II)I"⟩
abbrev cX5_isFigureAt : ByteArray := prog_7_method_14_code
def yX5_isFigureAt : MethodName := ⟨RX5, "isFigureAt", "(I)Z"⟩
abbrev cX5_kindOfSort : ByteArray := prog_7_method_15_code
def yX5_kindOfSort : MethodName := ⟨RX5, "kindOfSort", "(I)I"⟩
def RX6 : String := "EscrowLand"
def TX6 : u_T := fun k => match k with
  | 0 => ("EscrowLand", "rows", "LEscrowLand$Rows;", true)
  | 1 => ("EscrowLand", "tape", "LEscrowLand$Tape;", true)
  | 2 => ("EscrowLand", "land", "LEscrowLand$Land;", true)
  | 3 => ("EscrowLand", "firstImage", "LEscrowLand$Land;", true)
  | 4 => ("EscrowLand", "secondImage", "LEscrowLand$Land;", true)
  | 5 => ("EscrowLand", "acts", "LEscrowLand$Acts;", true)
  | 6 => ("EscrowLand", "foretold", "LEscrowLand$Foretold;", true)
  | 7 => ("EscrowLand", "asks", "LEscrowLand$Asks;", true)
  | _ => ("EscrowLand", "finding", "I", false)
def tyX6 : Nat → FieldType := fun k => match k with
  | 0 => .object "EscrowLand$Rows"
  | 1 => .object "EscrowLand$Tape"
  | 2 => .object "EscrowLand$Land"
  | 3 => .object "EscrowLand$Land"
  | 4 => .object "EscrowLand$Land"
  | 5 => .object "EscrowLand$Acts"
  | 6 => .object "EscrowLand$Foretold"
  | 7 => .object "EscrowLand$Asks"
  | _ => .int
theorem nmX6 : ∀ a, a < 9 → ∀ b, b < 9 → a ≠ b → (TX6 a).2.1 ≠ (TX6 b).2.1 := by decide +kernel
theorem tyX6_ok : ∀ k, k < 9 → parseFieldDescriptor (TX6 k).2.2.1 = some (tyX6 k) := by decide +kernel
abbrev cX6_init : ByteArray := prog_1_method_1_code
def yX6_init : MethodName := ⟨RX6, "<init>", "()V"⟩
abbrev cX6_row : ByteArray := prog_1_method_2_code
def yX6_row : MethodName := ⟨RX6, "row", "(III)I"⟩
abbrev cX6_set : ByteArray := prog_1_method_3_code
def yX6_set : MethodName := ⟨RX6, "set", "(III)I"⟩
abbrev cX6_copy : ByteArray := prog_1_method_4_code
def yX6_copy : MethodName := ⟨RX6, "copy", "(IIIII)I"⟩
abbrev cX6_drop : ByteArray := prog_1_method_5_code
def yX6_drop : MethodName := ⟨RX6, "drop", "(I)I"⟩
abbrev cX6_feed : ByteArray := prog_1_method_6_code
def yX6_feed : MethodName := ⟨RX6, "feed", "(I)I"⟩
abbrev cX6_land : ByteArray := prog_1_method_7_code
def yX6_land : MethodName := ⟨RX6, "land", "()I"⟩
abbrev cX6_fault : ByteArray := prog_1_method_8_code
def yX6_fault : MethodName := ⟨RX6, "fault", "()I"⟩
abbrev cX6_undo : ByteArray := prog_1_method_9_code
def yX6_undo : MethodName := ⟨RX6, "undo", "()I"⟩
abbrev cX6_days : ByteArray := prog_1_method_10_code
def yX6_days : MethodName := ⟨RX6, "days", "(I)I"⟩
abbrev cX6_putBack : ByteArray := prog_1_method_11_code
def yX6_putBack : MethodName := ⟨RX6, "putBack", "(I)I"⟩
abbrev cX6_send : ByteArray := prog_1_method_12_code
def yX6_send : MethodName := ⟨RX6, "send", "(II)I"⟩
abbrev cX6_allow : ByteArray := prog_1_method_13_code
def yX6_allow : MethodName := ⟨RX6, "allow", "(I)I"⟩
abbrev cX6_thing : ByteArray := prog_1_method_14_code
def yX6_thing : MethodName := ⟨RX6, "thing", "(II)I"⟩
abbrev cX6_holds : ByteArray := prog_1_method_15_code
def yX6_holds : MethodName := ⟨RX6, "holds", "(I)I"⟩
abbrev cX6_ahead : ByteArray := prog_1_method_16_code
def yX6_ahead : MethodName := ⟨RX6, "ahead", "(II)I"⟩
abbrev cX6_offAhead : ByteArray := prog_1_method_17_code
def yX6_offAhead : MethodName := ⟨RX6, "offAhead", "(I)I"⟩
abbrev cX6_lost : ByteArray := prog_1_method_18_code
def yX6_lost : MethodName := ⟨RX6, "lost", "(I)I"⟩
abbrev cX6_cheapest : ByteArray := prog_1_method_19_code
def yX6_cheapest : MethodName := ⟨RX6, "cheapest", "(III)I"⟩
abbrev cX6_match : ByteArray := prog_1_method_20_code
def yX6_match : MethodName := ⟨RX6, "match", "(I)I"⟩
abbrev cX6_gain : ByteArray := prog_1_method_21_code
def yX6_gain : MethodName := ⟨RX6, "gain", "(I)I"⟩
abbrev cX6_seldom : ByteArray := prog_1_method_22_code
def yX6_seldom : MethodName := ⟨RX6, "seldom", "(II)I"⟩
abbrev cX6_round : ByteArray := prog_1_method_23_code
def yX6_round : MethodName := ⟨RX6, "round", "()I"⟩
abbrev cX6_stealth : ByteArray := prog_1_method_24_code
def yX6_stealth : MethodName := ⟨RX6, "stealth", "(III)I"⟩
abbrev cX6_who : ByteArray := prog_1_method_25_code
def yX6_who : MethodName := ⟨RX6, "who", "(IIII)I"⟩
abbrev cX6_leastMay : ByteArray := prog_1_method_26_code
def yX6_leastMay : MethodName := ⟨RX6, "leastMay", "(I)I"⟩
abbrev cX6_odds : ByteArray := prog_1_method_27_code
def yX6_odds : MethodName := ⟨RX6, "odds", "(IIII)J"⟩
abbrev cX6_store : ByteArray := prog_1_method_28_code
def yX6_store : MethodName := ⟨RX6, "store", "(I)I"⟩
abbrev cX6_drawn : ByteArray := prog_1_method_29_code
def yX6_drawn : MethodName := ⟨RX6, "drawn", "(III)I"⟩
abbrev cX6_image : ByteArray := prog_1_method_30_code
def yX6_image : MethodName := ⟨RX6, "image", "(I)I"⟩
abbrev cX6_restore : ByteArray := prog_1_method_31_code
def yX6_restore : MethodName := ⟨RX6, "restore", "(I)I"⟩
abbrev cX6_kind : ByteArray := prog_1_method_32_code
def yX6_kind : MethodName := ⟨RX6, "kind", "(I)I"⟩
abbrev cX6_as : ByteArray := prog_1_method_33_code
def yX6_as : MethodName := ⟨RX6, "as", "(II)I"⟩
abbrev cX6_ask : ByteArray := prog_1_method_34_code
def yX6_ask : MethodName := ⟨RX6, "ask", "(II)I"⟩
abbrev cX6_trace : ByteArray := prog_1_method_35_code
def yX6_trace : MethodName := ⟨RX6, "trace", "(I)I"⟩
abbrev cX6_count : ByteArray := prog_1_method_36_code
def yX6_count : MethodName := ⟨RX6, "count", "(I)I"⟩
abbrev cX6_status : ByteArray := prog_1_method_37_code
def yX6_status : MethodName := ⟨RX6, "status", "()I"⟩
abbrev cX6_found : ByteArray := prog_1_method_38_code
def yX6_found : MethodName := ⟨RX6, "found", "(I)I"⟩
abbrev cX6_foundNothing : ByteArray := prog_1_method_39_code
def yX6_foundNothing : MethodName := ⟨RX6, "foundNothing", "(I)I"⟩
abbrev cX6_imageNumbered : ByteArray := prog_1_method_40_code
def yX6_imageNumbered : MethodName := ⟨RX6, "imageNumbered", "(I)LEscrowLand$Land;"⟩
abbrev cX6_isWithin : ByteArray := prog_1_method_41_code
def yX6_isWithin : MethodName := ⟨RX6, "isWithin", "(III)Z"⟩
abbrev cX6_isRow : ByteArray := prog_1_method_42_code
def yX6_isRow : MethodName := ⟨RX6, "isRow", "(I)Z"⟩
def RX7 : String := "EscrowLandModel"
def TX7 : u_T := fun k => match k with
  | 0 => ("EscrowLandModel", "lanes", "[I", true)
  | 1 => ("EscrowLandModel", "sizes", "[I", true)
  | 2 => ("EscrowLandModel", "items", "[I", true)
  | 3 => ("EscrowLandModel", "status", "I", false)
  | 4 => ("EscrowLandModel", "isThere", "Z", false)
  | 5 => ("EscrowLandModel", "st", "[I", true)
  | 6 => ("EscrowLandModel", "moved", "[I", true)
  | 7 => ("EscrowLandModel", "tape", "[I", true)
  | 8 => ("EscrowLandModel", "bytes", "I", false)
  | 9 => ("EscrowLandModel", "latest", "I", false)
  | 10 => ("EscrowLandModel", "place", "I", false)
  | 11 => ("EscrowLandModel", "token", "I", false)
  | 12 => ("EscrowLandModel", "value", "I", false)
  | 13 => ("EscrowLandModel", "begins", "I", false)
  | 14 => ("EscrowLandModel", "wrong", "I", false)
  | 15 => ("EscrowLandModel", "read", "[I", true)
  | 16 => ("EscrowLandModel", "acts", "[I", true)
  | 17 => ("EscrowLandModel", "actMany", "I", false)
  | 18 => ("EscrowLandModel", "aside", "[I", true)
  | 19 => ("EscrowLandModel", "costBy", "[I", true)
  | 20 => ("EscrowLandModel", "daysBy", "[I", true)
  | 21 => ("EscrowLandModel", "costThen", "[I", true)
  | 22 => ("EscrowLandModel", "daysThen", "[I", true)
  | 23 => ("EscrowLandModel", "places", "[I", true)
  | 24 => ("EscrowLandModel", "isKept", "[Z", true)
  | 25 => ("EscrowLandModel", "kept", "[I", true)
  | 26 => ("EscrowLandModel", "trace", "[I", true)
  | _ => ("EscrowLandModel", "traced", "I", false)
def tyX7 : Nat → FieldType := fun k => match k with
  | 0 => .array .int
  | 1 => .array .int
  | 2 => .array .int
  | 3 => .int
  | 4 => .boolean
  | 5 => .array .int
  | 6 => .array .int
  | 7 => .array .int
  | 8 => .int
  | 9 => .int
  | 10 => .int
  | 11 => .int
  | 12 => .int
  | 13 => .int
  | 14 => .int
  | 15 => .array .int
  | 16 => .array .int
  | 17 => .int
  | 18 => .array .int
  | 19 => .array .int
  | 20 => .array .int
  | 21 => .array .int
  | 22 => .array .int
  | 23 => .array .int
  | 24 => .array .boolean
  | 25 => .array .int
  | 26 => .array .int
  | _ => .int
theorem nmX7 : ∀ a, a < 28 → ∀ b, b < 28 → a ≠ b → (TX7 a).2.1 ≠ (TX7 b).2.1 := by decide +kernel
theorem tyX7_ok : ∀ k, k < 28 → parseFieldDescriptor (TX7 k).2.2.1 = some (tyX7 k) := by decide +kernel
abbrev cX7_init : ByteArray := prog_9_method_1_code
def yX7_init : MethodName := ⟨RX7, "<init>", "()V"⟩
abbrev cX7_in : ByteArray := prog_9_method_2_code
def yX7_in : MethodName := ⟨RX7, "in", "(JJJ)Z"⟩
abbrev cX7_has : ByteArray := prog_9_method_3_code
def yX7_has : MethodName := ⟨RX7, "has", "(II)Z"⟩
abbrev cX7_find : ByteArray := prog_9_method_4_code
def yX7_find : MethodName := ⟨RX7, "find", "(I)I"⟩
abbrev cX7_well : ByteArray := prog_9_method_5_code
def yX7_well : MethodName := ⟨RX7, "well", "(I)I"⟩
abbrev cX7_isRow : ByteArray := prog_9_method_6_code
def yX7_isRow : MethodName := ⟨RX7, "isRow", "(I)Z"⟩
abbrev cX7_row : ByteArray := prog_9_method_7_code
def yX7_row : MethodName := ⟨RX7, "row", "(III)I"⟩
abbrev cX7_asLane : ByteArray := prog_9_method_8_code
def yX7_asLane : MethodName := ⟨RX7, "asLane", "(II)I"⟩
abbrev cX7_set : ByteArray := prog_9_method_9_code
def yX7_set : MethodName := ⟨RX7, "set", "(III)I"⟩
abbrev cX7_copy : ByteArray := prog_9_method_10_code
def yX7_copy : MethodName := ⟨RX7, "copy", "(IIIII)I"⟩
abbrev cX7_drop : ByteArray := prog_9_method_11_code
def yX7_drop : MethodName := ⟨RX7, "drop", "(I)I"⟩
abbrev cX7_feed : ByteArray := prog_9_method_12_code
def yX7_feed : MethodName := ⟨RX7, "feed", "(I)I"⟩
abbrev cX7_nextToken : ByteArray := prog_9_method_13_code
def yX7_nextToken : MethodName := ⟨RX7, "nextToken", "()V"⟩
abbrev cX7_faults : ByteArray := prog_9_method_14_code
def yX7_faults : MethodName := ⟨RX7, "faults", "(I)Z"⟩
abbrev cX7_isLetter : ByteArray := prog_9_method_15_code
def yX7_isLetter : MethodName := ⟨RX7, "isLetter", "(I)Z"⟩
abbrev cX7_takes : ByteArray := prog_9_method_16_code
def yX7_takes : MethodName := ⟨RX7, "takes", "(I)Z"⟩
abbrev cX7_takesNumber : ByteArray := prog_9_method_17_code
def yX7_takesNumber : MethodName := ⟨RX7, "takesNumber", "(IIII)Z"⟩
abbrev cX7_readThing : ByteArray := prog_9_method_18_code
def yX7_readThing : MethodName := ⟨RX7, "readThing", "(I)Z"⟩
abbrev cX7_readLand : ByteArray := prog_9_method_19_code
def yX7_readLand : MethodName := ⟨RX7, "readLand", "()Z"⟩
abbrev cX7_land : ByteArray := prog_9_method_20_code
def yX7_land : MethodName := ⟨RX7, "land", "()I"⟩
abbrev cX7_fault : ByteArray := prog_9_method_21_code
def yX7_fault : MethodName := ⟨RX7, "fault", "()I"⟩
abbrev cX7_isThing : ByteArray := prog_9_method_22_code
def yX7_isThing : MethodName := ⟨RX7, "isThing", "(I)Z"⟩
abbrev cX7_isPeople : ByteArray := prog_9_method_23_code
def yX7_isPeople : MethodName := ⟨RX7, "isPeople", "(I)Z"⟩
abbrev cX7_bounded : ByteArray := prog_9_method_24_code
def yX7_bounded : MethodName := ⟨RX7, "bounded", "(I)I"⟩
abbrev cX7_changed : ByteArray := prog_9_method_25_code
def yX7_changed : MethodName := ⟨RX7, "changed", "(III)I"⟩
abbrev cX7_oneDay : ByteArray := prog_9_method_26_code
def yX7_oneDay : MethodName := ⟨RX7, "oneDay", "()V"⟩
abbrev cX7_differ : ByteArray := prog_9_method_27_code
def yX7_differ : MethodName := ⟨RX7, "differ", "(II)I"⟩
abbrev cX7_off : ByteArray := prog_9_method_28_code
def yX7_off : MethodName := ⟨RX7, "off", "(I)I"⟩
abbrev cX7_isAlike : ByteArray := prog_9_method_29_code
def yX7_isAlike : MethodName := ⟨RX7, "isAlike", "(I)Z"⟩
abbrev cX7_allOff : ByteArray := prog_9_method_30_code
def yX7_allOff : MethodName := ⟨RX7, "allOff", "()I"⟩
abbrev cX7_price : ByteArray := prog_9_method_31_code
def yX7_price : MethodName := ⟨RX7, "price", "(II)I"⟩
abbrev cX7_note : ByteArray := prog_9_method_32_code
def yX7_note : MethodName := ⟨RX7, "note", "()V"⟩
abbrev cX7_undo : ByteArray := prog_9_method_33_code
def yX7_undo : MethodName := ⟨RX7, "undo", "()I"⟩
abbrev cX7_days : ByteArray := prog_9_method_34_code
def yX7_days : MethodName := ⟨RX7, "days", "(I)I"⟩
abbrev cX7_putBack : ByteArray := prog_9_method_35_code
def yX7_putBack : MethodName := ⟨RX7, "putBack", "(I)I"⟩
abbrev cX7_send : ByteArray := prog_9_method_36_code
def yX7_send : MethodName := ⟨RX7, "send", "(II)I"⟩
abbrev cX7_allow : ByteArray := prog_9_method_37_code
def yX7_allow : MethodName := ⟨RX7, "allow", "(I)I"⟩
abbrev cX7_thing : ByteArray := prog_9_method_38_code
def yX7_thing : MethodName := ⟨RX7, "thing", "(II)I"⟩
abbrev cX7_holds : ByteArray := prog_9_method_39_code
def yX7_holds : MethodName := ⟨RX7, "holds", "(I)I"⟩
abbrev cX7_putAside : ByteArray := prog_9_method_40_code
def yX7_putAside : MethodName := ⟨RX7, "putAside", "()V"⟩
abbrev cX7_takeBack : ByteArray := prog_9_method_41_code
def yX7_takeBack : MethodName := ⟨RX7, "takeBack", "()V"⟩
abbrev cX7_ahead : ByteArray := prog_9_method_42_code
def yX7_ahead : MethodName := ⟨RX7, "ahead", "(II)I"⟩
abbrev cX7_offAhead : ByteArray := prog_9_method_43_code
def yX7_offAhead : MethodName := ⟨RX7, "offAhead", "(I)I"⟩
abbrev cX7_lost : ByteArray := prog_9_method_44_code
def yX7_lost : MethodName := ⟨RX7, "lost", "(I)I"⟩
abbrev cX7_comes : ByteArray := prog_9_method_45_code
def yX7_comes : MethodName := ⟨RX7, "comes", "(III)V"⟩
abbrev cX7_nextDay : ByteArray := prog_9_method_46_code
def yX7_nextDay : MethodName := ⟨RX7, "nextDay", "(II)V"⟩
abbrev cX7_cheapest : ByteArray := prog_9_method_47_code
def yX7_cheapest : MethodName := ⟨RX7, "cheapest", "(III)I"⟩
abbrev cX7_offBy : ByteArray := prog_9_method_48_code
def yX7_offBy : MethodName := ⟨RX7, "offBy", "(I)I"⟩
abbrev cX7_match : ByteArray := prog_9_method_49_code
def yX7_match : MethodName := ⟨RX7, "match", "(I)I"⟩
abbrev cX7_gain : ByteArray := prog_9_method_50_code
def yX7_gain : MethodName := ⟨RX7, "gain", "(I)I"⟩
abbrev cX7_isSeldom : ByteArray := prog_9_method_51_code
def yX7_isSeldom : MethodName := ⟨RX7, "isSeldom", "(III)Z"⟩
abbrev cX7_seldom : ByteArray := prog_9_method_52_code
def yX7_seldom : MethodName := ⟨RX7, "seldom", "(II)I"⟩
abbrev cX7_isAsNow : ByteArray := prog_9_method_53_code
def yX7_isAsNow : MethodName := ⟨RX7, "isAsNow", "()Z"⟩
abbrev cX7_isTurn : ByteArray := prog_9_method_54_code
def yX7_isTurn : MethodName := ⟨RX7, "isTurn", "(I)Z"⟩
abbrev cX7_round : ByteArray := prog_9_method_55_code
def yX7_round : MethodName := ⟨RX7, "round", "()I"⟩
abbrev cX7_lacks : ByteArray := prog_9_method_56_code
def yX7_lacks : MethodName := ⟨RX7, "lacks", "(III)I"⟩
abbrev cX7_isStealth : ByteArray := prog_9_method_57_code
def yX7_isStealth : MethodName := ⟨RX7, "isStealth", "(III)Z"⟩
abbrev cX7_stealth : ByteArray := prog_9_method_58_code
def yX7_stealth : MethodName := ⟨RX7, "stealth", "(III)I"⟩
abbrev cX7_who : ByteArray := prog_9_method_59_code
def yX7_who : MethodName := ⟨RX7, "who", "(IIII)I"⟩
abbrev cX7_leastMay : ByteArray := prog_9_method_60_code
def yX7_leastMay : MethodName := ⟨RX7, "leastMay", "(I)I"⟩
abbrev cX7_odds : ByteArray := prog_9_method_61_code
def yX7_odds : MethodName := ⟨RX7, "odds", "(IIII)J"⟩
abbrev cX7_store : ByteArray := prog_9_method_62_code
def yX7_store : MethodName := ⟨RX7, "store", "(I)I"⟩
abbrev cX7_drawn : ByteArray := prog_9_method_63_code
def yX7_drawn : MethodName := ⟨RX7, "drawn", "(III)I"⟩
abbrev cX7_image : ByteArray := prog_9_method_64_code
def yX7_image : MethodName := ⟨RX7, "image", "(I)I"⟩
abbrev cX7_restore : ByteArray := prog_9_method_65_code
def yX7_restore : MethodName := ⟨RX7, "restore", "(I)I"⟩
abbrev cX7_kind : ByteArray := prog_9_method_66_code
def yX7_kind : MethodName := ⟨RX7, "kind", "(I)I"⟩
abbrev cX7_isKind : ByteArray := prog_9_method_67_code
def yX7_isKind : MethodName := ⟨RX7, "isKind", "(II)Z"⟩
abbrev cX7_as : ByteArray := prog_9_method_68_code
def yX7_as : MethodName := ⟨RX7, "as", "(II)I"⟩
abbrev cX7_begin : ByteArray := prog_9_method_69_code
def yX7_begin : MethodName := ⟨RX7, "begin", "(I)V"⟩
abbrev cX7_lent : ByteArray := prog_9_method_70_code
def yX7_lent : MethodName := ⟨RX7, "lent", "(II)I"⟩
abbrev cX7_growingMark : ByteArray := prog_9_method_71_code
def yX7_growingMark : MethodName := ⟨RX7, "growingMark", "(I)I"⟩
abbrev cX7_personSize : ByteArray := prog_9_method_72_code
def yX7_personSize : MethodName := ⟨RX7, "personSize", "(I)I"⟩
abbrev cX7_sizeOfPerson : ByteArray := prog_9_method_73_code
def yX7_sizeOfPerson : MethodName := ⟨RX7, "sizeOfPerson", "(I)I"⟩
abbrev cX7_markOf : ByteArray := prog_9_method_74_code
def yX7_markOf : MethodName := ⟨RX7, "markOf", "(I)I"⟩
abbrev cX7_growingSize : ByteArray := prog_9_method_75_code
def yX7_growingSize : MethodName := ⟨RX7, "growingSize", "(I)I"⟩
abbrev cX7_sizeOf : ByteArray := prog_9_method_76_code
def yX7_sizeOf : MethodName := ⟨RX7, "sizeOf", "(I)I"⟩
abbrev cX7_ask : ByteArray := prog_9_method_77_code
def yX7_ask : MethodName := ⟨RX7, "ask", "(II)I"⟩
abbrev cX7_trace : ByteArray := prog_9_method_78_code
def yX7_trace : MethodName := ⟨RX7, "trace", "(I)I"⟩
abbrev cX7_count : ByteArray := prog_9_method_79_code
def yX7_count : MethodName := ⟨RX7, "count", "(I)I"⟩
abbrev cX7_status : ByteArray := prog_9_method_80_code
def yX7_status : MethodName := ⟨RX7, "status", "()I"⟩
def RL : String := "EscrowLandLaw"
abbrev cL_law : ByteArray := code
def yL_law : MethodName := ⟨RL, "law", "([I)Z"⟩
/-- the words that stay true as the tables warm -/
def gw_tbl : List Cond := lw_tbl.filter goodWord
def isNest : Cond → Bool
  | .fieldLinkNest .. => true
  | .methodLinkNest .. => true
  | _ => false
def nw_tbl : List Cond := lw_tbl.filter isNest
theorem gw_ok {w : Cond} (h : w ∈ gw_tbl) : goodWord w = true := (List.mem_filter.mp h).2
theorem gw_lw {w : Cond} (h : w ∈ gw_tbl) : w ∈ lw_tbl := (List.mem_filter.mp h).1
theorem nw_lw {w : Cond} (h : w ∈ nw_tbl) : w ∈ lw_tbl := (List.mem_filter.mp h).1
theorem nw_is {w : Cond} (h : w ∈ nw_tbl) : isNest w = true := (List.mem_filter.mp h).2
theorem gw_mk {w : Cond} (i : Nat) (h : tables_1[i]? = some w) (g : goodWord w = true) : w ∈ gw_tbl := List.mem_filter.mpr ⟨List.mem_append_right _ (List.mem_of_getElem? h), g⟩
theorem gw_mkS {w : Cond} (i : Nat) (h : (k2_sels lw_privs)[i]? = some w) (g : goodWord w = true) : w ∈ gw_tbl := List.mem_filter.mpr ⟨List.mem_append_left _ (List.mem_of_getElem? h), g⟩
theorem nw_mk {w : Cond} (i : Nat) (h : tables_1[i]? = some w) (g : isNest w = true) : w ∈ nw_tbl := List.mem_filter.mpr ⟨List.mem_append_right _ (List.mem_of_getElem? h), g⟩
theorem gw_mk1 {w : Cond} (i : Nat) (h : tables_1_1[i]? = some w) (g : goodWord w = true) : w ∈ gw_tbl := by
  have h : w ∈ tables_1_1 := List.mem_of_getElem? h
  have h : w ∈ tables_1_1 ++ (tables_1_2 ++ (tables_1_3 ++ (tables_1_4 ++ tables_1_5))) := List.mem_append_left _ h
  exact List.mem_filter.mpr ⟨List.mem_append_right _ h, g⟩
theorem gw_mk2 {w : Cond} (i : Nat) (h : tables_1_2[i]? = some w) (g : goodWord w = true) : w ∈ gw_tbl := by
  have h : w ∈ tables_1_2 := List.mem_of_getElem? h
  have h : w ∈ tables_1_1 ++ (tables_1_2 ++ (tables_1_3 ++ (tables_1_4 ++ tables_1_5))) := List.mem_append_right _ (List.mem_append_left _ h)
  exact List.mem_filter.mpr ⟨List.mem_append_right _ h, g⟩
theorem gw_mk3 {w : Cond} (i : Nat) (h : tables_1_3[i]? = some w) (g : goodWord w = true) : w ∈ gw_tbl := by
  have h : w ∈ tables_1_3 := List.mem_of_getElem? h
  have h : w ∈ tables_1_1 ++ (tables_1_2 ++ (tables_1_3 ++ (tables_1_4 ++ tables_1_5))) := List.mem_append_right _ (List.mem_append_right _ (List.mem_append_left _ h))
  exact List.mem_filter.mpr ⟨List.mem_append_right _ h, g⟩
theorem gw_mk4 {w : Cond} (i : Nat) (h : tables_1_4[i]? = some w) (g : goodWord w = true) : w ∈ gw_tbl := by
  have h : w ∈ tables_1_4 := List.mem_of_getElem? h
  have h : w ∈ tables_1_1 ++ (tables_1_2 ++ (tables_1_3 ++ (tables_1_4 ++ tables_1_5))) := List.mem_append_right _ (List.mem_append_right _ (List.mem_append_right _ (List.mem_append_left _ h)))
  exact List.mem_filter.mpr ⟨List.mem_append_right _ h, g⟩
theorem gw_mk5 {w : Cond} (i : Nat) (h : tables_1_5[i]? = some w) (g : goodWord w = true) : w ∈ gw_tbl := by
  have h : w ∈ tables_1_5 := List.mem_of_getElem? h
  have h : w ∈ tables_1_1 ++ (tables_1_2 ++ (tables_1_3 ++ (tables_1_4 ++ tables_1_5))) := List.mem_append_right _ (List.mem_append_right _ (List.mem_append_right _ (List.mem_append_right _ h)))
  exact List.mem_filter.mpr ⟨List.mem_append_right _ h, g⟩
theorem t_0 : Cond.initialized RL ∈ gw_tbl := gw_mk 0 (by decide +kernel) (by decide +kernel)
theorem t_1 : Cond.initialized RX6 ∈ gw_tbl := gw_mk 1 (by decide +kernel) (by decide +kernel)
theorem t_2 : Cond.initialized RX4 ∈ gw_tbl := gw_mk 2 (by decide +kernel) (by decide +kernel)
theorem t_3 : Cond.initialized RX5 ∈ gw_tbl := gw_mk 3 (by decide +kernel) (by decide +kernel)
theorem t_4 : Cond.initialized RX3 ∈ gw_tbl := gw_mk 4 (by decide +kernel) (by decide +kernel)
theorem t_5 : Cond.initialized RX0 ∈ gw_tbl := gw_mk 5 (by decide +kernel) (by decide +kernel)
theorem t_6 : Cond.initialized RX2 ∈ gw_tbl := gw_mk 6 (by decide +kernel) (by decide +kernel)
theorem t_7 : Cond.initialized RX1 ∈ gw_tbl := gw_mk 7 (by decide +kernel) (by decide +kernel)
theorem t_8 : Cond.initialized RX7 ∈ gw_tbl := gw_mk 8 (by decide +kernel) (by decide +kernel)
theorem t_9 : Cond.initialized "java/lang/System" ∈ gw_tbl := gw_mk 9 (by decide +kernel) (by decide +kernel)
theorem t_10 : Cond.initialized "java/lang/Math" ∈ gw_tbl := gw_mk 10 (by decide +kernel) (by decide +kernel)
theorem t_11 : Cond.classLink RL 7 RX6 ∈ gw_tbl := gw_mk 11 (by decide +kernel) (by decide +kernel)
theorem t_12 : Cond.instantiable RX6 9 ∈ gw_tbl := gw_mk 12 (by decide +kernel) (by decide +kernel)
theorem t_13 : Cond.methodLink RL 9 yX6_init ∈ gw_tbl := gw_mk 13 (by decide +kernel) (by decide +kernel)
theorem t_14 : Cond.instanceMethod yX6_init ∈ gw_tbl := gw_mk 14 (by decide +kernel) (by decide +kernel)
set_option maxRecDepth 20000 in
theorem t_15 : Cond.code yX6_init cX6_init 1 none ∈ gw_tbl := gw_mk1 15 rfl rfl
theorem t_16 : Cond.methodLink RX6 1 objectInit ∈ gw_tbl := gw_mk 16 (by decide +kernel) (by decide +kernel)
theorem t_17 : Cond.instanceMethod objectInit ∈ gw_tbl := gw_mk 17 (by decide +kernel) (by decide +kernel)
theorem t_18 : Cond.code objectInit ⟨#[0xb1]⟩ 1 none ∈ gw_tbl := gw_mk 18 (by decide +kernel) (by decide +kernel)
theorem t_19 : Cond.classLink RX6 7 RX4 ∈ gw_tbl := gw_mk 19 (by decide +kernel) (by decide +kernel)
theorem t_20 : Cond.instantiable RX4 3 ∈ gw_tbl := gw_mk 20 (by decide +kernel) (by decide +kernel)
theorem t_21 : Cond.methodLink RX6 9 yX4_init ∈ gw_tbl := gw_mk 21 (by decide +kernel) (by decide +kernel)
theorem t_22 : Cond.instanceMethod yX4_init ∈ gw_tbl := gw_mk 22 (by decide +kernel) (by decide +kernel)
set_option maxRecDepth 20000 in
theorem t_23 : Cond.code yX4_init cX4_init 2 none ∈ gw_tbl := gw_mk1 23 rfl rfl
theorem t_24 : Cond.methodLink RX4 3 objectInit ∈ gw_tbl := gw_mk 24 (by decide +kernel) (by decide +kernel)
theorem t_25 : Cond.fieldLink RX4 9 RX4 (TX4 0).2.1 (TX4 0).2.2.1 ∈ gw_tbl := gw_mk 25 (by decide +kernel) (by decide +kernel)
theorem t_26 : Cond.fieldLink RX4 15 RX4 (TX4 1).2.1 (TX4 1).2.2.1 ∈ gw_tbl := gw_mk 26 (by decide +kernel) (by decide +kernel)
theorem t_27 : Cond.fieldLink RX4 18 RX4 (TX4 2).2.1 (TX4 2).2.2.1 ∈ gw_tbl := gw_mk 27 (by decide +kernel) (by decide +kernel)
theorem t_35 : Cond.arrayClass .int ∈ gw_tbl := gw_mk 35 (by decide +kernel) (by decide +kernel)
theorem t_36 : Cond.classLink RX6 16 RX5 ∈ gw_tbl := gw_mk 36 (by decide +kernel) (by decide +kernel)
theorem t_37 : Cond.instantiable RX5 6 ∈ gw_tbl := gw_mk 37 (by decide +kernel) (by decide +kernel)
theorem t_38 : Cond.methodLinkNest RX6 18 yX5_init RX6 ∈ nw_tbl := nw_mk 38 (by decide +kernel) (by decide +kernel)
theorem t_39 : Cond.instanceMethod yX5_init ∈ gw_tbl := gw_mk 39 (by decide +kernel) (by decide +kernel)
set_option maxRecDepth 20000 in
theorem t_40 : Cond.code yX5_init cX5_init 1 none ∈ gw_tbl := gw_mk1 40 rfl rfl
theorem t_41 : Cond.methodLink RX5 3 objectInit ∈ gw_tbl := gw_mk 41 (by decide +kernel) (by decide +kernel)
theorem t_42 : Cond.classLink RX5 15 RX3 ∈ gw_tbl := gw_mk 42 (by decide +kernel) (by decide +kernel)
theorem t_43 : Cond.instantiable RX3 11 ∈ gw_tbl := gw_mk 43 (by decide +kernel) (by decide +kernel)
theorem t_44 : Cond.methodLinkNest RX5 17 yX3_init RX6 ∈ nw_tbl := nw_mk 44 (by decide +kernel) (by decide +kernel)
theorem t_45 : Cond.instanceMethod yX3_init ∈ gw_tbl := gw_mk 45 (by decide +kernel) (by decide +kernel)
set_option maxRecDepth 20000 in
theorem t_46 : Cond.code yX3_init cX3_init 1 none ∈ gw_tbl := gw_mk1 46 rfl rfl
theorem t_47 : Cond.methodLink RX3 3 objectInit ∈ gw_tbl := gw_mk 47 (by decide +kernel) (by decide +kernel)
theorem t_48 : Cond.fieldLink RX3 9 RX3 (TX3 0).2.1 (TX3 0).2.2.1 ∈ gw_tbl := gw_mk 48 (by decide +kernel) (by decide +kernel)
theorem t_49 : Cond.fieldLinkNest RX2 51 RX3 (TX3 0).2.1 (TX3 0).2.2.1 RX6 ∈ nw_tbl := nw_mk 49 (by decide +kernel) (by decide +kernel)
theorem t_50 : Cond.fieldLinkNest RX5 66 RX3 (TX3 0).2.1 (TX3 0).2.2.1 RX6 ∈ nw_tbl := nw_mk 50 (by decide +kernel) (by decide +kernel)
theorem t_51 : Cond.fieldLinkNest RX6 123 RX3 (TX3 0).2.1 (TX3 0).2.2.1 RX6 ∈ nw_tbl := nw_mk 51 (by decide +kernel) (by decide +kernel)
theorem t_52 : Cond.fieldLink RX3 15 RX3 (TX3 1).2.1 (TX3 1).2.2.1 ∈ gw_tbl := gw_mk 52 (by decide +kernel) (by decide +kernel)
theorem t_53 : Cond.fieldLinkNest RX0 30 RX3 (TX3 1).2.1 (TX3 1).2.2.1 RX6 ∈ nw_tbl := nw_mk 53 (by decide +kernel) (by decide +kernel)
theorem t_54 : Cond.fieldLinkNest RX5 57 RX3 (TX3 1).2.1 (TX3 1).2.2.1 RX6 ∈ nw_tbl := nw_mk 54 (by decide +kernel) (by decide +kernel)
theorem t_55 : Cond.fieldLinkNest RX2 82 RX3 (TX3 1).2.1 (TX3 1).2.2.1 RX6 ∈ nw_tbl := nw_mk 55 (by decide +kernel) (by decide +kernel)
theorem t_56 : Cond.fieldLinkNest RX6 175 RX3 (TX3 1).2.1 (TX3 1).2.2.1 RX6 ∈ nw_tbl := nw_mk 56 (by decide +kernel) (by decide +kernel)
theorem t_57 : Cond.fieldLink RX3 18 RX3 (TX3 2).2.1 (TX3 2).2.2.1 ∈ gw_tbl := gw_mk 57 (by decide +kernel) (by decide +kernel)
theorem t_58 : Cond.fieldLinkNest RX5 60 RX3 (TX3 2).2.1 (TX3 2).2.2.1 RX6 ∈ nw_tbl := nw_mk 58 (by decide +kernel) (by decide +kernel)
theorem t_59 : Cond.fieldLinkNest RX6 172 RX3 (TX3 2).2.1 (TX3 2).2.2.1 RX6 ∈ nw_tbl := nw_mk 59 (by decide +kernel) (by decide +kernel)
theorem t_60 : Cond.fieldLink RX3 21 RX3 (TX3 3).2.1 (TX3 3).2.2.1 ∈ gw_tbl := gw_mk 60 (by decide +kernel) (by decide +kernel)
theorem t_61 : Cond.fieldLinkNest RX2 48 RX3 (TX3 3).2.1 (TX3 3).2.2.1 RX6 ∈ nw_tbl := nw_mk 61 (by decide +kernel) (by decide +kernel)
theorem t_62 : Cond.fieldLinkNest RX0 22 RX3 (TX3 3).2.1 (TX3 3).2.2.1 RX6 ∈ nw_tbl := nw_mk 62 (by decide +kernel) (by decide +kernel)
theorem t_63 : Cond.fieldLinkNest RX6 136 RX3 (TX3 3).2.1 (TX3 3).2.2.1 RX6 ∈ nw_tbl := nw_mk 63 (by decide +kernel) (by decide +kernel)
theorem t_64 : Cond.fieldLink RX3 24 RX3 (TX3 4).2.1 (TX3 4).2.2.1 ∈ gw_tbl := gw_mk 64 (by decide +kernel) (by decide +kernel)
theorem t_65 : Cond.fieldLinkNest RX0 27 RX3 (TX3 4).2.1 (TX3 4).2.2.1 RX6 ∈ nw_tbl := nw_mk 65 (by decide +kernel) (by decide +kernel)
theorem t_66 : Cond.fieldLinkNest RX6 169 RX3 (TX3 4).2.1 (TX3 4).2.2.1 RX6 ∈ nw_tbl := nw_mk 66 (by decide +kernel) (by decide +kernel)
theorem t_67 : Cond.fieldLink RX3 27 RX3 (TX3 5).2.1 (TX3 5).2.2.1 ∈ gw_tbl := gw_mk 67 (by decide +kernel) (by decide +kernel)
theorem t_68 : Cond.fieldLinkNest RX1 41 RX3 (TX3 5).2.1 (TX3 5).2.2.1 RX6 ∈ nw_tbl := nw_mk 68 (by decide +kernel) (by decide +kernel)
theorem t_69 : Cond.fieldLinkNest RX5 84 RX3 (TX3 5).2.1 (TX3 5).2.2.1 RX6 ∈ nw_tbl := nw_mk 69 (by decide +kernel) (by decide +kernel)
theorem t_70 : Cond.fieldLinkNest RX6 241 RX3 (TX3 5).2.1 (TX3 5).2.2.1 RX6 ∈ nw_tbl := nw_mk 70 (by decide +kernel) (by decide +kernel)
theorem t_71 : Cond.fieldLinkNest RX2 154 RX3 (TX3 5).2.1 (TX3 5).2.2.1 RX6 ∈ nw_tbl := nw_mk 71 (by decide +kernel) (by decide +kernel)
theorem t_72 : Cond.fieldLink RX3 31 RX3 (TX3 6).2.1 (TX3 6).2.2.1 ∈ gw_tbl := gw_mk 72 (by decide +kernel) (by decide +kernel)
theorem t_73 : Cond.fieldLinkNest RX5 90 RX3 (TX3 6).2.1 (TX3 6).2.2.1 RX6 ∈ nw_tbl := nw_mk 73 (by decide +kernel) (by decide +kernel)
theorem t_74 : Cond.fieldLinkNest RX2 90 RX3 (TX3 6).2.1 (TX3 6).2.2.1 RX6 ∈ nw_tbl := nw_mk 74 (by decide +kernel) (by decide +kernel)
theorem t_75 : Cond.fieldLinkNest RX6 166 RX3 (TX3 6).2.1 (TX3 6).2.2.1 RX6 ∈ nw_tbl := nw_mk 75 (by decide +kernel) (by decide +kernel)
theorem t_76 : Cond.fieldLink RX3 34 RX3 (TX3 7).2.1 (TX3 7).2.2.1 ∈ gw_tbl := gw_mk 76 (by decide +kernel) (by decide +kernel)
theorem t_77 : Cond.fieldLinkNest RX5 93 RX3 (TX3 7).2.1 (TX3 7).2.2.1 RX6 ∈ nw_tbl := nw_mk 77 (by decide +kernel) (by decide +kernel)
theorem t_78 : Cond.fieldLinkNest RX1 60 RX3 (TX3 7).2.1 (TX3 7).2.2.1 RX6 ∈ nw_tbl := nw_mk 78 (by decide +kernel) (by decide +kernel)
theorem t_79 : Cond.fieldLinkNest RX6 178 RX3 (TX3 7).2.1 (TX3 7).2.2.1 RX6 ∈ nw_tbl := nw_mk 79 (by decide +kernel) (by decide +kernel)
theorem t_80 : Cond.fieldLinkNest RX2 113 RX3 (TX3 7).2.1 (TX3 7).2.2.1 RX6 ∈ nw_tbl := nw_mk 80 (by decide +kernel) (by decide +kernel)
theorem t_81 : Cond.fieldLink RX3 37 RX3 (TX3 8).2.1 (TX3 8).2.2.1 ∈ gw_tbl := gw_mk 81 (by decide +kernel) (by decide +kernel)
theorem t_82 : Cond.fieldLinkNest RX5 96 RX3 (TX3 8).2.1 (TX3 8).2.2.1 RX6 ∈ nw_tbl := nw_mk 82 (by decide +kernel) (by decide +kernel)
theorem t_83 : Cond.fieldLinkNest RX6 181 RX3 (TX3 8).2.1 (TX3 8).2.2.1 RX6 ∈ nw_tbl := nw_mk 83 (by decide +kernel) (by decide +kernel)
theorem t_84 : Cond.fieldLinkNest RX2 157 RX3 (TX3 8).2.1 (TX3 8).2.2.1 RX6 ∈ nw_tbl := nw_mk 84 (by decide +kernel) (by decide +kernel)
theorem t_85 : Cond.fieldLink RX3 40 RX3 (TX3 9).2.1 (TX3 9).2.2.1 ∈ gw_tbl := gw_mk 85 (by decide +kernel) (by decide +kernel)
theorem t_86 : Cond.fieldLinkNest RX5 99 RX3 (TX3 9).2.1 (TX3 9).2.2.1 RX6 ∈ nw_tbl := nw_mk 86 (by decide +kernel) (by decide +kernel)
theorem t_87 : Cond.fieldLinkNest RX6 184 RX3 (TX3 9).2.1 (TX3 9).2.2.1 RX6 ∈ nw_tbl := nw_mk 87 (by decide +kernel) (by decide +kernel)
theorem t_88 : Cond.fieldLink RX3 43 RX3 (TX3 10).2.1 (TX3 10).2.2.1 ∈ gw_tbl := gw_mk 88 (by decide +kernel) (by decide +kernel)
theorem t_89 : Cond.fieldLinkNest RX2 54 RX3 (TX3 10).2.1 (TX3 10).2.2.1 RX6 ∈ nw_tbl := nw_mk 89 (by decide +kernel) (by decide +kernel)
theorem t_90 : Cond.fieldLinkNest RX0 33 RX3 (TX3 10).2.1 (TX3 10).2.2.1 RX6 ∈ nw_tbl := nw_mk 90 (by decide +kernel) (by decide +kernel)
theorem t_91 : Cond.fieldLinkNest RX1 63 RX3 (TX3 10).2.1 (TX3 10).2.2.1 RX6 ∈ nw_tbl := nw_mk 91 (by decide +kernel) (by decide +kernel)
theorem t_92 : Cond.fieldLinkNest RX6 158 RX3 (TX3 10).2.1 (TX3 10).2.2.1 RX6 ∈ nw_tbl := nw_mk 92 (by decide +kernel) (by decide +kernel)
theorem t_116 : Cond.constant RX5 32 (-1000000) ∈ gw_tbl := gw_mk 116 (by decide +kernel) (by decide +kernel)
theorem t_117 : Cond.fieldLink RX5 9 RX5 (TX5 0).2.1 (TX5 0).2.2.1 ∈ gw_tbl := gw_mk 117 (by decide +kernel) (by decide +kernel)
theorem t_118 : Cond.fieldLink RX5 18 RX5 (TX5 1).2.1 (TX5 1).2.2.1 ∈ gw_tbl := gw_mk 118 (by decide +kernel) (by decide +kernel)
theorem t_119 : Cond.fieldLink RX5 22 RX5 (TX5 2).2.1 (TX5 2).2.2.1 ∈ gw_tbl := gw_mk 119 (by decide +kernel) (by decide +kernel)
theorem t_120 : Cond.fieldLinkNest RX6 278 RX5 (TX5 2).2.1 (TX5 2).2.2.1 RX6 ∈ nw_tbl := nw_mk 120 (by decide +kernel) (by decide +kernel)
theorem t_121 : Cond.fieldLink RX5 26 RX5 (TX5 3).2.1 (TX5 3).2.2.1 ∈ gw_tbl := gw_mk 121 (by decide +kernel) (by decide +kernel)
theorem t_122 : Cond.fieldLinkNest RX6 126 RX5 (TX5 3).2.1 (TX5 3).2.2.1 RX6 ∈ nw_tbl := nw_mk 122 (by decide +kernel) (by decide +kernel)
theorem t_123 : Cond.fieldLink RX5 29 RX5 (TX5 4).2.1 (TX5 4).2.2.1 ∈ gw_tbl := gw_mk 123 (by decide +kernel) (by decide +kernel)
theorem t_124 : Cond.fieldLink RX5 33 RX5 (TX5 5).2.1 (TX5 5).2.2.1 ∈ gw_tbl := gw_mk 124 (by decide +kernel) (by decide +kernel)
theorem t_138 : Cond.classLink RX6 23 RX3 ∈ gw_tbl := gw_mk 138 (by decide +kernel) (by decide +kernel)
theorem t_139 : Cond.methodLinkNest RX6 25 yX3_init RX6 ∈ nw_tbl := nw_mk 139 (by decide +kernel) (by decide +kernel)
theorem t_140 : Cond.classLink RX6 36 RX0 ∈ gw_tbl := gw_mk 140 (by decide +kernel) (by decide +kernel)
theorem t_141 : Cond.instantiable RX0 3 ∈ gw_tbl := gw_mk 141 (by decide +kernel) (by decide +kernel)
theorem t_142 : Cond.methodLinkNest RX6 38 yX0_init RX6 ∈ nw_tbl := nw_mk 142 (by decide +kernel) (by decide +kernel)
theorem t_143 : Cond.instanceMethod yX0_init ∈ gw_tbl := gw_mk 143 (by decide +kernel) (by decide +kernel)
set_option maxRecDepth 20000 in
theorem t_144 : Cond.code yX0_init cX0_init 1 none ∈ gw_tbl := gw_mk1 144 rfl rfl
theorem t_145 : Cond.methodLink RX0 3 objectInit ∈ gw_tbl := gw_mk 145 (by decide +kernel) (by decide +kernel)
theorem t_146 : Cond.fieldLink RX0 11 RX0 (TX0 0).2.1 (TX0 0).2.2.1 ∈ gw_tbl := gw_mk 146 (by decide +kernel) (by decide +kernel)
theorem t_147 : Cond.fieldLink RX0 15 RX0 (TX0 1).2.1 (TX0 1).2.2.1 ∈ gw_tbl := gw_mk 147 (by decide +kernel) (by decide +kernel)
theorem t_148 : Cond.fieldLinkNest RX6 129 RX0 (TX0 1).2.1 (TX0 1).2.2.1 RX6 ∈ nw_tbl := nw_mk 148 (by decide +kernel) (by decide +kernel)
theorem t_149 : Cond.fieldLink RX0 19 RX0 (TX0 2).2.1 (TX0 2).2.2.1 ∈ gw_tbl := gw_mk 149 (by decide +kernel) (by decide +kernel)
theorem t_157 : Cond.classLink RX6 43 RX2 ∈ gw_tbl := gw_mk 157 (by decide +kernel) (by decide +kernel)
theorem t_158 : Cond.instantiable RX2 11 ∈ gw_tbl := gw_mk 158 (by decide +kernel) (by decide +kernel)
theorem t_159 : Cond.methodLink RX6 45 yX2_init ∈ gw_tbl := gw_mk 159 (by decide +kernel) (by decide +kernel)
theorem t_160 : Cond.instanceMethod yX2_init ∈ gw_tbl := gw_mk 160 (by decide +kernel) (by decide +kernel)
set_option maxRecDepth 20000 in
theorem t_161 : Cond.code yX2_init cX2_init 2 none ∈ gw_tbl := gw_mk1 161 rfl rfl
theorem t_162 : Cond.methodLink RX2 3 objectInit ∈ gw_tbl := gw_mk 162 (by decide +kernel) (by decide +kernel)
theorem t_163 : Cond.fieldLink RX2 44 RX2 (TX2 0).2.1 (TX2 0).2.2.1 ∈ gw_tbl := gw_mk 163 (by decide +kernel) (by decide +kernel)
theorem t_164 : Cond.fieldLink RX2 9 RX2 (TX2 1).2.1 (TX2 1).2.2.1 ∈ gw_tbl := gw_mk 164 (by decide +kernel) (by decide +kernel)
theorem t_165 : Cond.fieldLink RX2 15 RX2 (TX2 2).2.1 (TX2 2).2.2.1 ∈ gw_tbl := gw_mk 165 (by decide +kernel) (by decide +kernel)
theorem t_166 : Cond.fieldLink RX2 19 RX2 (TX2 3).2.1 (TX2 3).2.2.1 ∈ gw_tbl := gw_mk 166 (by decide +kernel) (by decide +kernel)
theorem t_167 : Cond.fieldLink RX2 22 RX2 (TX2 4).2.1 (TX2 4).2.2.1 ∈ gw_tbl := gw_mk 167 (by decide +kernel) (by decide +kernel)
theorem t_168 : Cond.fieldLink RX2 25 RX2 (TX2 5).2.1 (TX2 5).2.2.1 ∈ gw_tbl := gw_mk 168 (by decide +kernel) (by decide +kernel)
theorem t_169 : Cond.fieldLinkNest RX6 204 RX2 (TX2 5).2.1 (TX2 5).2.2.1 RX6 ∈ nw_tbl := nw_mk 169 (by decide +kernel) (by decide +kernel)
theorem t_170 : Cond.fieldLink RX2 28 RX2 (TX2 6).2.1 (TX2 6).2.2.1 ∈ gw_tbl := gw_mk 170 (by decide +kernel) (by decide +kernel)
theorem t_171 : Cond.fieldLinkNest RX6 207 RX2 (TX2 6).2.1 (TX2 6).2.2.1 RX6 ∈ nw_tbl := nw_mk 171 (by decide +kernel) (by decide +kernel)
theorem t_172 : Cond.fieldLink RX2 31 RX2 (TX2 7).2.1 (TX2 7).2.2.1 ∈ gw_tbl := gw_mk 172 (by decide +kernel) (by decide +kernel)
theorem t_173 : Cond.fieldLink RX2 34 RX2 (TX2 8).2.1 (TX2 8).2.2.1 ∈ gw_tbl := gw_mk 173 (by decide +kernel) (by decide +kernel)
theorem t_174 : Cond.fieldLinkNest RX6 216 RX2 (TX2 8).2.1 (TX2 8).2.2.1 RX6 ∈ nw_tbl := nw_mk 174 (by decide +kernel) (by decide +kernel)
theorem t_175 : Cond.fieldLink RX2 37 RX2 (TX2 9).2.1 (TX2 9).2.2.1 ∈ gw_tbl := gw_mk 175 (by decide +kernel) (by decide +kernel)
theorem t_176 : Cond.fieldLinkNest RX6 213 RX2 (TX2 9).2.1 (TX2 9).2.2.1 RX6 ∈ nw_tbl := nw_mk 176 (by decide +kernel) (by decide +kernel)
theorem t_177 : Cond.fieldLink RX2 40 RX2 (TX2 10).2.1 (TX2 10).2.2.1 ∈ gw_tbl := gw_mk 177 (by decide +kernel) (by decide +kernel)
theorem t_201 : Cond.arrayClass .long ∈ gw_tbl := gw_mk 201 (by decide +kernel) (by decide +kernel)
theorem t_202 : Cond.classLink RX6 52 RX1 ∈ gw_tbl := gw_mk 202 (by decide +kernel) (by decide +kernel)
theorem t_203 : Cond.instantiable RX1 4 ∈ gw_tbl := gw_mk 203 (by decide +kernel) (by decide +kernel)
theorem t_204 : Cond.methodLink RX6 54 yX1_init ∈ gw_tbl := gw_mk 204 (by decide +kernel) (by decide +kernel)
theorem t_205 : Cond.instanceMethod yX1_init ∈ gw_tbl := gw_mk 205 (by decide +kernel) (by decide +kernel)
set_option maxRecDepth 20000 in
theorem t_206 : Cond.code yX1_init cX1_init 2 none ∈ gw_tbl := gw_mk1 206 rfl rfl
theorem t_207 : Cond.methodLink RX1 3 objectInit ∈ gw_tbl := gw_mk 207 (by decide +kernel) (by decide +kernel)
theorem t_208 : Cond.fieldLink RX1 22 RX1 (TX1 0).2.1 (TX1 0).2.2.1 ∈ gw_tbl := gw_mk 208 (by decide +kernel) (by decide +kernel)
theorem t_209 : Cond.fieldLink RX1 11 RX1 (TX1 1).2.1 (TX1 1).2.2.1 ∈ gw_tbl := gw_mk 209 (by decide +kernel) (by decide +kernel)
theorem t_210 : Cond.fieldLink RX1 15 RX1 (TX1 2).2.1 (TX1 2).2.2.1 ∈ gw_tbl := gw_mk 210 (by decide +kernel) (by decide +kernel)
theorem t_211 : Cond.fieldLink RX1 19 RX1 (TX1 3).2.1 (TX1 3).2.2.1 ∈ gw_tbl := gw_mk 211 (by decide +kernel) (by decide +kernel)
theorem t_221 : Cond.fieldLink RX6 10 RX6 (TX6 0).2.1 (TX6 0).2.2.1 ∈ gw_tbl := gw_mk 221 (by decide +kernel) (by decide +kernel)
theorem t_222 : Cond.fieldLink RX6 19 RX6 (TX6 1).2.1 (TX6 1).2.2.1 ∈ gw_tbl := gw_mk 222 (by decide +kernel) (by decide +kernel)
theorem t_223 : Cond.fieldLink RX6 26 RX6 (TX6 2).2.1 (TX6 2).2.2.1 ∈ gw_tbl := gw_mk 223 (by decide +kernel) (by decide +kernel)
theorem t_224 : Cond.fieldLink RX6 30 RX6 (TX6 3).2.1 (TX6 3).2.2.1 ∈ gw_tbl := gw_mk 224 (by decide +kernel) (by decide +kernel)
theorem t_225 : Cond.fieldLink RX6 33 RX6 (TX6 4).2.1 (TX6 4).2.2.1 ∈ gw_tbl := gw_mk 225 (by decide +kernel) (by decide +kernel)
theorem t_226 : Cond.fieldLink RX6 39 RX6 (TX6 5).2.1 (TX6 5).2.2.1 ∈ gw_tbl := gw_mk 226 (by decide +kernel) (by decide +kernel)
theorem t_227 : Cond.fieldLink RX6 48 RX6 (TX6 6).2.1 (TX6 6).2.2.1 ∈ gw_tbl := gw_mk 227 (by decide +kernel) (by decide +kernel)
theorem t_228 : Cond.fieldLink RX6 55 RX6 (TX6 7).2.1 (TX6 7).2.2.1 ∈ gw_tbl := gw_mk 228 (by decide +kernel) (by decide +kernel)
theorem t_229 : Cond.fieldLink RX6 59 RX6 (TX6 8).2.1 (TX6 8).2.2.1 ∈ gw_tbl := gw_mk 229 (by decide +kernel) (by decide +kernel)
theorem t_249 : Cond.methodLink RL 13 yX6_row ∈ gw_tbl := gw_mk 249 (by decide +kernel) (by decide +kernel)
theorem t_250 : Cond.instanceMethod yX6_row ∈ gw_tbl := gw_mk 250 (by decide +kernel) (by decide +kernel)
theorem t_251 : Cond.selects RX6 yX6_row yX6_row ∈ gw_tbl := gw_mk 251 (by decide +kernel) (by decide +kernel)
set_option maxRecDepth 20000 in
theorem t_252 : Cond.code yX6_row cX6_row 4 (some .int) ∈ gw_tbl := gw_mk2 12 rfl rfl
theorem t_253 : Cond.methodLink RX6 63 yX6_isRow ∈ gw_tbl := gw_mk 253 (by decide +kernel) (by decide +kernel)
theorem t_254 : Cond.static yX6_isRow ∈ gw_tbl := gw_mk 254 (by decide +kernel) (by decide +kernel)
set_option maxRecDepth 20000 in
theorem t_255 : Cond.code yX6_isRow cX6_isRow 1 (some .boolean) ∈ gw_tbl := gw_mk2 15 rfl rfl
theorem t_256 : Cond.methodLink RX6 67 yX6_isWithin ∈ gw_tbl := gw_mk 256 (by decide +kernel) (by decide +kernel)
theorem t_257 : Cond.static yX6_isWithin ∈ gw_tbl := gw_mk 257 (by decide +kernel) (by decide +kernel)
set_option maxRecDepth 20000 in
theorem t_258 : Cond.code yX6_isWithin cX6_isWithin 3 (some .boolean) ∈ gw_tbl := gw_mk2 18 rfl rfl
theorem t_259 : Cond.constant RX6 71 (-1000001) ∈ gw_tbl := gw_mk 259 (by decide +kernel) (by decide +kernel)
theorem t_260 : Cond.methodLink RX6 72 yX6_found ∈ gw_tbl := gw_mk 260 (by decide +kernel) (by decide +kernel)
theorem t_262 : Cond.instanceMethod yX6_found ∈ gw_tbl := gw_mk 262 (by decide +kernel) (by decide +kernel)
set_option maxRecDepth 20000 in
theorem t_263 : Cond.code yX6_found cX6_found 2 (some .int) ∈ gw_tbl := gw_mk2 23 rfl rfl
theorem t_264 : Cond.constant RX6 281 (-1000010) ∈ gw_tbl := gw_mk 264 (by decide +kernel) (by decide +kernel)
theorem t_265 : Cond.methodLink RX6 76 yX4_make ∈ gw_tbl := gw_mk 265 (by decide +kernel) (by decide +kernel)
theorem t_266 : Cond.instanceMethod yX4_make ∈ gw_tbl := gw_mk 266 (by decide +kernel) (by decide +kernel)
theorem t_267 : Cond.selects RX4 yX4_make yX4_make ∈ gw_tbl := gw_mk 267 (by decide +kernel) (by decide +kernel)
set_option maxRecDepth 20000 in
theorem t_268 : Cond.code yX4_make cX4_make 5 none ∈ gw_tbl := gw_mk2 28 rfl rfl
theorem t_269 : Cond.methodLink RX6 80 yX6_foundNothing ∈ gw_tbl := gw_mk 269 (by decide +kernel) (by decide +kernel)
theorem t_271 : Cond.instanceMethod yX6_foundNothing ∈ gw_tbl := gw_mk 271 (by decide +kernel) (by decide +kernel)
set_option maxRecDepth 20000 in
theorem t_272 : Cond.code yX6_foundNothing cX6_foundNothing 2 (some .int) ∈ gw_tbl := gw_mk2 32 rfl rfl
theorem t_273 : Cond.methodLink RL 18 yX6_set ∈ gw_tbl := gw_mk 273 (by decide +kernel) (by decide +kernel)
theorem t_274 : Cond.instanceMethod yX6_set ∈ gw_tbl := gw_mk 274 (by decide +kernel) (by decide +kernel)
theorem t_275 : Cond.selects RX6 yX6_set yX6_set ∈ gw_tbl := gw_mk 275 (by decide +kernel) (by decide +kernel)
set_option maxRecDepth 20000 in
theorem t_276 : Cond.code yX6_set cX6_set 5 (some .int) ∈ gw_tbl := gw_mk2 36 rfl rfl
theorem t_277 : Cond.methodLink RX6 83 yX4_findingAt ∈ gw_tbl := gw_mk 277 (by decide +kernel) (by decide +kernel)
theorem t_278 : Cond.instanceMethod yX4_findingAt ∈ gw_tbl := gw_mk 278 (by decide +kernel) (by decide +kernel)
theorem t_279 : Cond.selects RX4 yX4_findingAt yX4_findingAt ∈ gw_tbl := gw_mk 279 (by decide +kernel) (by decide +kernel)
set_option maxRecDepth 20000 in
theorem t_280 : Cond.code yX4_findingAt cX4_findingAt 4 (some .int) ∈ gw_tbl := gw_mk2 40 rfl rfl
theorem t_281 : Cond.methodLink RX4 21 yX4_isMissing ∈ gw_tbl := gw_mk 281 (by decide +kernel) (by decide +kernel)
theorem t_282 : Cond.instanceMethod yX4_isMissing ∈ gw_tbl := gw_mk 282 (by decide +kernel) (by decide +kernel)
theorem t_283 : Cond.selects RX4 yX4_isMissing yX4_isMissing ∈ gw_tbl := gw_mk 283 (by decide +kernel) (by decide +kernel)
set_option maxRecDepth 20000 in
theorem t_284 : Cond.code yX4_isMissing cX4_isMissing 2 (some .boolean) ∈ gw_tbl := gw_mk2 44 rfl rfl
theorem t_285 : Cond.methodLink RX4 25 yX4_hasPlaces ∈ gw_tbl := gw_mk 285 (by decide +kernel) (by decide +kernel)
theorem t_286 : Cond.instanceMethod yX4_hasPlaces ∈ gw_tbl := gw_mk 286 (by decide +kernel) (by decide +kernel)
theorem t_287 : Cond.selects RX4 yX4_hasPlaces yX4_hasPlaces ∈ gw_tbl := gw_mk 287 (by decide +kernel) (by decide +kernel)
set_option maxRecDepth 20000 in
theorem t_288 : Cond.code yX4_hasPlaces cX4_hasPlaces 4 (some .boolean) ∈ gw_tbl := gw_mk2 48 rfl rfl
theorem t_289 : Cond.methodLink RX6 87 yX4_write ∈ gw_tbl := gw_mk 289 (by decide +kernel) (by decide +kernel)
theorem t_290 : Cond.instanceMethod yX4_write ∈ gw_tbl := gw_mk 290 (by decide +kernel) (by decide +kernel)
theorem t_291 : Cond.selects RX4 yX4_write yX4_write ∈ gw_tbl := gw_mk 291 (by decide +kernel) (by decide +kernel)
set_option maxRecDepth 20000 in
theorem t_292 : Cond.code yX4_write cX4_write 5 (some .int) ∈ gw_tbl := gw_mk2 52 rfl rfl
theorem t_293 : Cond.methodLink RX4 29 yX4_inLane ∈ gw_tbl := gw_mk 293 (by decide +kernel) (by decide +kernel)
theorem t_294 : Cond.static yX4_inLane ∈ gw_tbl := gw_mk 294 (by decide +kernel) (by decide +kernel)
set_option maxRecDepth 20000 in
theorem t_295 : Cond.code yX4_inLane cX4_inLane 2 (some .int) ∈ gw_tbl := gw_mk2 55 rfl rfl
theorem t_296 : Cond.methodLink RL 22 yX6_copy ∈ gw_tbl := gw_mk 296 (by decide +kernel) (by decide +kernel)
theorem t_297 : Cond.instanceMethod yX6_copy ∈ gw_tbl := gw_mk 297 (by decide +kernel) (by decide +kernel)
theorem t_298 : Cond.selects RX6 yX6_copy yX6_copy ∈ gw_tbl := gw_mk 298 (by decide +kernel) (by decide +kernel)
set_option maxRecDepth 20000 in
theorem t_299 : Cond.code yX6_copy cX6_copy 6 (some .int) ∈ gw_tbl := gw_mk2 59 rfl rfl
theorem t_300 : Cond.methodLink RX6 90 yX4_isMissing ∈ gw_tbl := gw_mk 300 (by decide +kernel) (by decide +kernel)
theorem t_301 : Cond.methodLink RX6 93 yX4_laneOf ∈ gw_tbl := gw_mk 301 (by decide +kernel) (by decide +kernel)
theorem t_302 : Cond.instanceMethod yX4_laneOf ∈ gw_tbl := gw_mk 302 (by decide +kernel) (by decide +kernel)
theorem t_303 : Cond.selects RX4 yX4_laneOf yX4_laneOf ∈ gw_tbl := gw_mk 303 (by decide +kernel) (by decide +kernel)
set_option maxRecDepth 20000 in
theorem t_304 : Cond.code yX4_laneOf cX4_laneOf 2 (some .int) ∈ gw_tbl := gw_mk2 64 rfl rfl
theorem t_305 : Cond.methodLink RX6 96 yX4_hasPlaces ∈ gw_tbl := gw_mk 305 (by decide +kernel) (by decide +kernel)
theorem t_306 : Cond.methodLink RX6 99 yX4_move ∈ gw_tbl := gw_mk 306 (by decide +kernel) (by decide +kernel)
theorem t_307 : Cond.instanceMethod yX4_move ∈ gw_tbl := gw_mk 307 (by decide +kernel) (by decide +kernel)
theorem t_308 : Cond.selects RX4 yX4_move yX4_move ∈ gw_tbl := gw_mk 308 (by decide +kernel) (by decide +kernel)
set_option maxRecDepth 20000 in
theorem t_309 : Cond.code yX4_move cX4_move 6 none ∈ gw_tbl := gw_mk2 69 rfl rfl
theorem t_310 : Cond.methodLink RX4 33 arraycopyName ∈ gw_tbl := gw_mk 310 (by decide +kernel) (by decide +kernel)
theorem t_311 : Cond.static arraycopyName ∈ gw_tbl := gw_mk 311 (by decide +kernel) (by decide +kernel)
theorem t_312 : Cond.native arraycopyName ∈ gw_tbl := gw_mk 312 (by decide +kernel) (by decide +kernel)
theorem t_313 : Cond.methodLink RL 27 yX6_drop ∈ gw_tbl := gw_mk 313 (by decide +kernel) (by decide +kernel)
theorem t_314 : Cond.instanceMethod yX6_drop ∈ gw_tbl := gw_mk 314 (by decide +kernel) (by decide +kernel)
theorem t_315 : Cond.selects RX6 yX6_drop yX6_drop ∈ gw_tbl := gw_mk 315 (by decide +kernel) (by decide +kernel)
set_option maxRecDepth 20000 in
theorem t_316 : Cond.code yX6_drop cX6_drop 2 (some .int) ∈ gw_tbl := gw_mk2 76 rfl rfl
theorem t_317 : Cond.methodLink RX6 103 yX4_remove ∈ gw_tbl := gw_mk 317 (by decide +kernel) (by decide +kernel)
theorem t_318 : Cond.instanceMethod yX4_remove ∈ gw_tbl := gw_mk 318 (by decide +kernel) (by decide +kernel)
theorem t_319 : Cond.selects RX4 yX4_remove yX4_remove ∈ gw_tbl := gw_mk 319 (by decide +kernel) (by decide +kernel)
set_option maxRecDepth 20000 in
theorem t_320 : Cond.code yX4_remove cX4_remove 3 (some .int) ∈ gw_tbl := gw_mk2 80 rfl rfl
theorem t_321 : Cond.methodLink RL 32 yX6_feed ∈ gw_tbl := gw_mk 321 (by decide +kernel) (by decide +kernel)
theorem t_322 : Cond.instanceMethod yX6_feed ∈ gw_tbl := gw_mk 322 (by decide +kernel) (by decide +kernel)
theorem t_323 : Cond.selects RX6 yX6_feed yX6_feed ∈ gw_tbl := gw_mk 323 (by decide +kernel) (by decide +kernel)
set_option maxRecDepth 20000 in
theorem t_324 : Cond.code yX6_feed cX6_feed 2 (some .int) ∈ gw_tbl := gw_mk2 84 rfl rfl
theorem t_325 : Cond.methodLink RX6 106 yX5_isFull ∈ gw_tbl := gw_mk 325 (by decide +kernel) (by decide +kernel)
theorem t_326 : Cond.instanceMethod yX5_isFull ∈ gw_tbl := gw_mk 326 (by decide +kernel) (by decide +kernel)
theorem t_327 : Cond.selects RX5 yX5_isFull yX5_isFull ∈ gw_tbl := gw_mk 327 (by decide +kernel) (by decide +kernel)
set_option maxRecDepth 20000 in
theorem t_328 : Cond.code yX5_isFull cX5_isFull 1 (some .boolean) ∈ gw_tbl := gw_mk2 88 rfl rfl
theorem t_329 : Cond.constant RX6 110 (-1000003) ∈ gw_tbl := gw_mk 329 (by decide +kernel) (by decide +kernel)
theorem t_330 : Cond.methodLink RX6 111 yX5_add ∈ gw_tbl := gw_mk 330 (by decide +kernel) (by decide +kernel)
theorem t_331 : Cond.instanceMethod yX5_add ∈ gw_tbl := gw_mk 331 (by decide +kernel) (by decide +kernel)
theorem t_332 : Cond.selects RX5 yX5_add yX5_add ∈ gw_tbl := gw_mk 332 (by decide +kernel) (by decide +kernel)
set_option maxRecDepth 20000 in
theorem t_333 : Cond.code yX5_add cX5_add 2 (some .int) ∈ gw_tbl := gw_mk2 93 rfl rfl
theorem t_334 : Cond.methodLink RL 36 yX6_land ∈ gw_tbl := gw_mk 334 (by decide +kernel) (by decide +kernel)
theorem t_335 : Cond.instanceMethod yX6_land ∈ gw_tbl := gw_mk 335 (by decide +kernel) (by decide +kernel)
theorem t_336 : Cond.selects RX6 yX6_land yX6_land ∈ gw_tbl := gw_mk 336 (by decide +kernel) (by decide +kernel)
set_option maxRecDepth 20000 in
theorem t_337 : Cond.code yX6_land cX6_land 2 (some .int) ∈ gw_tbl := gw_mk2 97 rfl rfl
theorem t_338 : Cond.methodLink RX6 114 yX5_readInto ∈ gw_tbl := gw_mk 338 (by decide +kernel) (by decide +kernel)
theorem t_339 : Cond.instanceMethod yX5_readInto ∈ gw_tbl := gw_mk 339 (by decide +kernel) (by decide +kernel)
theorem t_340 : Cond.selects RX5 yX5_readInto yX5_readInto ∈ gw_tbl := gw_mk 340 (by decide +kernel) (by decide +kernel)
set_option maxRecDepth 20000 in
theorem t_341 : Cond.code yX5_readInto cX5_readInto 2 (some .int) ∈ gw_tbl := gw_mk2 101 rfl rfl
theorem t_342 : Cond.methodLink RX5 36 yX5_readLaw ∈ gw_tbl := gw_mk 342 (by decide +kernel) (by decide +kernel)
theorem t_344 : Cond.instanceMethod yX5_readLaw ∈ gw_tbl := gw_mk 344 (by decide +kernel) (by decide +kernel)
set_option maxRecDepth 20000 in
theorem t_345 : Cond.code yX5_readLaw cX5_readLaw 1 none ∈ gw_tbl := gw_mk2 105 rfl rfl
theorem t_346 : Cond.methodLink RX5 49 yX5_readSign ∈ gw_tbl := gw_mk 346 (by decide +kernel) (by decide +kernel)
theorem t_348 : Cond.instanceMethod yX5_readSign ∈ gw_tbl := gw_mk 348 (by decide +kernel) (by decide +kernel)
set_option maxRecDepth 20000 in
theorem t_349 : Cond.code yX5_readSign cX5_readSign 2 none ∈ gw_tbl := gw_mk2 109 rfl rfl
theorem t_350 : Cond.methodLink RX5 73 yX5_next ∈ gw_tbl := gw_mk 350 (by decide +kernel) (by decide +kernel)
theorem t_352 : Cond.instanceMethod yX5_next ∈ gw_tbl := gw_mk 352 (by decide +kernel) (by decide +kernel)
set_option maxRecDepth 20000 in
theorem t_353 : Cond.code yX5_next cX5_next 1 (some .int) ∈ gw_tbl := gw_mk2 113 rfl rfl
theorem t_354 : Cond.methodLink RX5 81 yX5_fail ∈ gw_tbl := gw_mk 354 (by decide +kernel) (by decide +kernel)
theorem t_356 : Cond.instanceMethod yX5_fail ∈ gw_tbl := gw_mk 356 (by decide +kernel) (by decide +kernel)
set_option maxRecDepth 20000 in
theorem t_357 : Cond.code yX5_fail cX5_fail 2 none ∈ gw_tbl := gw_mk2 117 rfl rfl
theorem t_358 : Cond.methodLink RX5 53 yX5_readNumber ∈ gw_tbl := gw_mk 358 (by decide +kernel) (by decide +kernel)
theorem t_360 : Cond.instanceMethod yX5_readNumber ∈ gw_tbl := gw_mk 360 (by decide +kernel) (by decide +kernel)
set_option maxRecDepth 20000 in
theorem t_361 : Cond.code yX5_readNumber cX5_readNumber 5 (some .int) ∈ gw_tbl := gw_mk2 121 rfl rfl
theorem t_362 : Cond.methodLink RX5 102 yX5_isFigureAt ∈ gw_tbl := gw_mk 362 (by decide +kernel) (by decide +kernel)
theorem t_364 : Cond.instanceMethod yX5_isFigureAt ∈ gw_tbl := gw_mk 364 (by decide +kernel) (by decide +kernel)
set_option maxRecDepth 20000 in
theorem t_365 : Cond.code yX5_isFigureAt cX5_isFigureAt 2 (some .boolean) ∈ gw_tbl := gw_mk2 125 rfl rfl
theorem t_366 : Cond.methodLinkNest RX5 106 yX6_isWithin RX6 ∈ nw_tbl := nw_mk 366 (by decide +kernel) (by decide +kernel)
theorem t_367 : Cond.methodLink RX5 39 yX5_readThings ∈ gw_tbl := gw_mk 367 (by decide +kernel) (by decide +kernel)
theorem t_369 : Cond.instanceMethod yX5_readThings ∈ gw_tbl := gw_mk 369 (by decide +kernel) (by decide +kernel)
set_option maxRecDepth 20000 in
theorem t_370 : Cond.code yX5_readThings cX5_readThings 1 none ∈ gw_tbl := gw_mk2 130 rfl rfl
theorem t_371 : Cond.methodLink RX5 63 yX5_readThing ∈ gw_tbl := gw_mk 371 (by decide +kernel) (by decide +kernel)
theorem t_373 : Cond.instanceMethod yX5_readThing ∈ gw_tbl := gw_mk 373 (by decide +kernel) (by decide +kernel)
set_option maxRecDepth 20000 in
theorem t_374 : Cond.code yX5_readThing cX5_readThing 2 none ∈ gw_tbl := gw_mk2 134 rfl rfl
theorem t_375 : Cond.methodLink RX5 87 yX5_readSort ∈ gw_tbl := gw_mk 375 (by decide +kernel) (by decide +kernel)
theorem t_377 : Cond.instanceMethod yX5_readSort ∈ gw_tbl := gw_mk 377 (by decide +kernel) (by decide +kernel)
set_option maxRecDepth 20000 in
theorem t_378 : Cond.code yX5_readSort cX5_readSort 2 (some .int) ∈ gw_tbl := gw_mk2 138 rfl rfl
theorem t_379 : Cond.methodLink RX5 77 yX5_kindOfSort ∈ gw_tbl := gw_mk 379 (by decide +kernel) (by decide +kernel)
theorem t_380 : Cond.static yX5_kindOfSort ∈ gw_tbl := gw_mk 380 (by decide +kernel) (by decide +kernel)
set_option maxRecDepth 20000 in
theorem t_381 : Cond.code yX5_kindOfSort cX5_kindOfSort 1 (some .int) ∈ gw_tbl := gw_mk2 141 rfl rfl
theorem t_382 : Cond.methodLink RX5 69 yX5_goesOn ∈ gw_tbl := gw_mk 382 (by decide +kernel) (by decide +kernel)
theorem t_384 : Cond.instanceMethod yX5_goesOn ∈ gw_tbl := gw_mk 384 (by decide +kernel) (by decide +kernel)
set_option maxRecDepth 20000 in
theorem t_385 : Cond.code yX5_goesOn cX5_goesOn 1 (some .boolean) ∈ gw_tbl := gw_mk2 145 rfl rfl
theorem t_386 : Cond.methodLink RX5 42 yX3_beginAnew ∈ gw_tbl := gw_mk 386 (by decide +kernel) (by decide +kernel)
theorem t_387 : Cond.instanceMethod yX3_beginAnew ∈ gw_tbl := gw_mk 387 (by decide +kernel) (by decide +kernel)
theorem t_388 : Cond.selects RX3 yX3_beginAnew yX3_beginAnew ∈ gw_tbl := gw_mk 388 (by decide +kernel) (by decide +kernel)
set_option maxRecDepth 20000 in
theorem t_389 : Cond.code yX3_beginAnew cX3_beginAnew 2 none ∈ gw_tbl := gw_mk2 149 rfl rfl
theorem t_390 : Cond.methodLink RX5 45 yX3_takeAll ∈ gw_tbl := gw_mk 390 (by decide +kernel) (by decide +kernel)
theorem t_391 : Cond.instanceMethod yX3_takeAll ∈ gw_tbl := gw_mk 391 (by decide +kernel) (by decide +kernel)
theorem t_392 : Cond.selects RX3 yX3_takeAll yX3_takeAll ∈ gw_tbl := gw_mk 392 (by decide +kernel) (by decide +kernel)
set_option maxRecDepth 20000 in
theorem t_393 : Cond.code yX3_takeAll cX3_takeAll 3 none ∈ gw_tbl := gw_mk2 153 rfl rfl
theorem t_394 : Cond.constant RX6 118 (-1000000) ∈ gw_tbl := gw_mk 394 (by decide +kernel) (by decide +kernel)
theorem t_395 : Cond.constant RX6 119 (-1000100) ∈ gw_tbl := gw_mk 395 (by decide +kernel) (by decide +kernel)
theorem t_396 : Cond.methodLink RX6 120 yX0_forget ∈ gw_tbl := gw_mk 396 (by decide +kernel) (by decide +kernel)
theorem t_397 : Cond.instanceMethod yX0_forget ∈ gw_tbl := gw_mk 397 (by decide +kernel) (by decide +kernel)
theorem t_398 : Cond.selects RX0 yX0_forget yX0_forget ∈ gw_tbl := gw_mk 398 (by decide +kernel) (by decide +kernel)
set_option maxRecDepth 20000 in
theorem t_399 : Cond.code yX0_forget cX0_forget 1 none ∈ gw_tbl := gw_mk2 159 rfl rfl
theorem t_400 : Cond.methodLink RL 41 yX6_fault ∈ gw_tbl := gw_mk 400 (by decide +kernel) (by decide +kernel)
theorem t_401 : Cond.instanceMethod yX6_fault ∈ gw_tbl := gw_mk 401 (by decide +kernel) (by decide +kernel)
theorem t_402 : Cond.selects RX6 yX6_fault yX6_fault ∈ gw_tbl := gw_mk 402 (by decide +kernel) (by decide +kernel)
set_option maxRecDepth 20000 in
theorem t_403 : Cond.code yX6_fault cX6_fault 1 (some .int) ∈ gw_tbl := gw_mk2 163 rfl rfl
theorem t_404 : Cond.methodLink RL 45 yX6_undo ∈ gw_tbl := gw_mk 404 (by decide +kernel) (by decide +kernel)
theorem t_405 : Cond.instanceMethod yX6_undo ∈ gw_tbl := gw_mk 405 (by decide +kernel) (by decide +kernel)
theorem t_406 : Cond.selects RX6 yX6_undo yX6_undo ∈ gw_tbl := gw_mk 406 (by decide +kernel) (by decide +kernel)
set_option maxRecDepth 20000 in
theorem t_407 : Cond.code yX6_undo cX6_undo 1 (some .int) ∈ gw_tbl := gw_mk2 167 rfl rfl
theorem t_408 : Cond.constant RX6 132 (-1000002) ∈ gw_tbl := gw_mk 408 (by decide +kernel) (by decide +kernel)
theorem t_409 : Cond.methodLink RX6 133 yX0_takeBack ∈ gw_tbl := gw_mk 409 (by decide +kernel) (by decide +kernel)
theorem t_410 : Cond.instanceMethod yX0_takeBack ∈ gw_tbl := gw_mk 410 (by decide +kernel) (by decide +kernel)
theorem t_411 : Cond.selects RX0 yX0_takeBack yX0_takeBack ∈ gw_tbl := gw_mk 411 (by decide +kernel) (by decide +kernel)
set_option maxRecDepth 20000 in
theorem t_412 : Cond.code yX0_takeBack cX0_takeBack 4 (some .int) ∈ gw_tbl := gw_mk2 172 rfl rfl
theorem t_413 : Cond.methodLink RL 49 yX6_days ∈ gw_tbl := gw_mk 413 (by decide +kernel) (by decide +kernel)
theorem t_414 : Cond.instanceMethod yX6_days ∈ gw_tbl := gw_mk 414 (by decide +kernel) (by decide +kernel)
theorem t_415 : Cond.selects RX6 yX6_days yX6_days ∈ gw_tbl := gw_mk 415 (by decide +kernel) (by decide +kernel)
set_option maxRecDepth 20000 in
theorem t_416 : Cond.code yX6_days cX6_days 3 (some .int) ∈ gw_tbl := gw_mk2 176 rfl rfl
theorem t_417 : Cond.methodLink RX6 139 yX0_keep ∈ gw_tbl := gw_mk 417 (by decide +kernel) (by decide +kernel)
theorem t_418 : Cond.instanceMethod yX0_keep ∈ gw_tbl := gw_mk 418 (by decide +kernel) (by decide +kernel)
theorem t_419 : Cond.selects RX0 yX0_keep yX0_keep ∈ gw_tbl := gw_mk 419 (by decide +kernel) (by decide +kernel)
set_option maxRecDepth 20000 in
theorem t_420 : Cond.code yX0_keep cX0_keep 4 none ∈ gw_tbl := gw_mk2 180 rfl rfl
theorem t_421 : Cond.methodLink RX0 36 Lib.Math.min.name ∈ gw_tbl := gw_mk 421 (by decide +kernel) (by decide +kernel)
theorem t_422 : Cond.static Lib.Math.min.name ∈ gw_tbl := gw_mk 422 (by decide +kernel) (by decide +kernel)
theorem t_423 : Cond.code Lib.Math.min.name Lib.Math.min.code 2 (some .int) ∈ gw_tbl := gw_mk 423 (by decide +kernel) (by decide +kernel)
theorem t_424 : Cond.methodLink RX6 142 yX3_passDay ∈ gw_tbl := gw_mk 424 (by decide +kernel) (by decide +kernel)
theorem t_425 : Cond.instanceMethod yX3_passDay ∈ gw_tbl := gw_mk 425 (by decide +kernel) (by decide +kernel)
theorem t_426 : Cond.selects RX3 yX3_passDay yX3_passDay ∈ gw_tbl := gw_mk 426 (by decide +kernel) (by decide +kernel)
set_option maxRecDepth 20000 in
theorem t_427 : Cond.code yX3_passDay cX3_passDay 2 none ∈ gw_tbl := gw_mk2 187 rfl rfl
theorem t_428 : Cond.methodLink RX3 63 yX3_dayOn ∈ gw_tbl := gw_mk 428 (by decide +kernel) (by decide +kernel)
theorem t_429 : Cond.instanceMethod yX3_dayOn ∈ gw_tbl := gw_mk 429 (by decide +kernel) (by decide +kernel)
theorem t_430 : Cond.selects RX3 yX3_dayOn yX3_dayOn ∈ gw_tbl := gw_mk 430 (by decide +kernel) (by decide +kernel)
set_option maxRecDepth 20000 in
theorem t_431 : Cond.code yX3_dayOn cX3_dayOn 4 (some .int) ∈ gw_tbl := gw_mk2 191 rfl rfl
theorem t_432 : Cond.methodLink RX3 67 yX3_dayOnAs ∈ gw_tbl := gw_mk 432 (by decide +kernel) (by decide +kernel)
theorem t_433 : Cond.instanceMethod yX3_dayOnAs ∈ gw_tbl := gw_mk 433 (by decide +kernel) (by decide +kernel)
theorem t_434 : Cond.selects RX3 yX3_dayOnAs yX3_dayOnAs ∈ gw_tbl := gw_mk 434 (by decide +kernel) (by decide +kernel)
set_option maxRecDepth 20000 in
theorem t_435 : Cond.code yX3_dayOnAs cX3_dayOnAs 5 (some .int) ∈ gw_tbl := gw_mk2 195 rfl rfl
theorem t_436 : Cond.methodLink RX3 71 yX3_change ∈ gw_tbl := gw_mk 436 (by decide +kernel) (by decide +kernel)
theorem t_437 : Cond.static yX3_change ∈ gw_tbl := gw_mk 437 (by decide +kernel) (by decide +kernel)
set_option maxRecDepth 20000 in
theorem t_438 : Cond.code yX3_change cX3_change 4 (some .int) ∈ gw_tbl := gw_mk2 198 rfl rfl
theorem t_439 : Cond.methodLink RX3 74 Lib.Math.min.name ∈ gw_tbl := gw_mk 439 (by decide +kernel) (by decide +kernel)
theorem t_440 : Cond.methodLink RX3 77 Lib.Math.max.name ∈ gw_tbl := gw_mk 440 (by decide +kernel) (by decide +kernel)
theorem t_441 : Cond.static Lib.Math.max.name ∈ gw_tbl := gw_mk 441 (by decide +kernel) (by decide +kernel)
theorem t_442 : Cond.code Lib.Math.max.name Lib.Math.max.code 2 (some .int) ∈ gw_tbl := gw_mk 442 (by decide +kernel) (by decide +kernel)
theorem t_443 : Cond.methodLink RX6 145 yX3_allOff ∈ gw_tbl := gw_mk 443 (by decide +kernel) (by decide +kernel)
theorem t_444 : Cond.instanceMethod yX3_allOff ∈ gw_tbl := gw_mk 444 (by decide +kernel) (by decide +kernel)
theorem t_445 : Cond.selects RX3 yX3_allOff yX3_allOff ∈ gw_tbl := gw_mk 445 (by decide +kernel) (by decide +kernel)
set_option maxRecDepth 20000 in
theorem t_446 : Cond.code yX3_allOff cX3_allOff 3 (some .int) ∈ gw_tbl := gw_mk2 206 rfl rfl
theorem t_447 : Cond.methodLink RX3 60 yX3_offOf ∈ gw_tbl := gw_mk 447 (by decide +kernel) (by decide +kernel)
theorem t_448 : Cond.instanceMethod yX3_offOf ∈ gw_tbl := gw_mk 448 (by decide +kernel) (by decide +kernel)
theorem t_449 : Cond.selects RX3 yX3_offOf yX3_offOf ∈ gw_tbl := gw_mk 449 (by decide +kernel) (by decide +kernel)
set_option maxRecDepth 20000 in
theorem t_450 : Cond.code yX3_offOf cX3_offOf 2 (some .int) ∈ gw_tbl := gw_mk2 210 rfl rfl
theorem t_451 : Cond.methodLink RX3 56 yX3_offIf ∈ gw_tbl := gw_mk 451 (by decide +kernel) (by decide +kernel)
theorem t_452 : Cond.instanceMethod yX3_offIf ∈ gw_tbl := gw_mk 452 (by decide +kernel) (by decide +kernel)
theorem t_453 : Cond.selects RX3 yX3_offIf yX3_offIf ∈ gw_tbl := gw_mk 453 (by decide +kernel) (by decide +kernel)
set_option maxRecDepth 20000 in
theorem t_454 : Cond.code yX3_offIf cX3_offIf 3 (some .int) ∈ gw_tbl := gw_mk2 214 rfl rfl
theorem t_455 : Cond.methodLink RX3 50 Lib.Math.abs.name ∈ gw_tbl := gw_mk 455 (by decide +kernel) (by decide +kernel)
theorem t_456 : Cond.static Lib.Math.abs.name ∈ gw_tbl := gw_mk 456 (by decide +kernel) (by decide +kernel)
theorem t_457 : Cond.code Lib.Math.abs.name Lib.Math.abs.code 1 (some .int) ∈ gw_tbl := gw_mk 457 (by decide +kernel) (by decide +kernel)
theorem t_458 : Cond.methodLink RL 53 yX6_putBack ∈ gw_tbl := gw_mk 458 (by decide +kernel) (by decide +kernel)
theorem t_459 : Cond.instanceMethod yX6_putBack ∈ gw_tbl := gw_mk 459 (by decide +kernel) (by decide +kernel)
theorem t_460 : Cond.selects RX6 yX6_putBack yX6_putBack ∈ gw_tbl := gw_mk 460 (by decide +kernel) (by decide +kernel)
set_option maxRecDepth 20000 in
theorem t_461 : Cond.code yX6_putBack cX6_putBack 3 (some .int) ∈ gw_tbl := gw_mk2 221 rfl rfl
theorem t_462 : Cond.methodLink RX6 149 yX3_has ∈ gw_tbl := gw_mk 462 (by decide +kernel) (by decide +kernel)
theorem t_463 : Cond.instanceMethod yX3_has ∈ gw_tbl := gw_mk 463 (by decide +kernel) (by decide +kernel)
theorem t_464 : Cond.selects RX3 yX3_has yX3_has ∈ gw_tbl := gw_mk 464 (by decide +kernel) (by decide +kernel)
set_option maxRecDepth 20000 in
theorem t_465 : Cond.code yX3_has cX3_has 2 (some .boolean) ∈ gw_tbl := gw_mk2 225 rfl rfl
theorem t_466 : Cond.methodLinkNest RX3 46 yX6_isWithin RX6 ∈ nw_tbl := nw_mk 466 (by decide +kernel) (by decide +kernel)
theorem t_467 : Cond.methodLink RX6 152 yX3_isPersonAt ∈ gw_tbl := gw_mk 467 (by decide +kernel) (by decide +kernel)
theorem t_468 : Cond.instanceMethod yX3_isPersonAt ∈ gw_tbl := gw_mk 468 (by decide +kernel) (by decide +kernel)
theorem t_469 : Cond.selects RX3 yX3_isPersonAt yX3_isPersonAt ∈ gw_tbl := gw_mk 469 (by decide +kernel) (by decide +kernel)
set_option maxRecDepth 20000 in
theorem t_470 : Cond.code yX3_isPersonAt cX3_isPersonAt 2 (some .boolean) ∈ gw_tbl := gw_mk2 230 rfl rfl
theorem t_471 : Cond.methodLink RX6 155 yX3_offOf ∈ gw_tbl := gw_mk 471 (by decide +kernel) (by decide +kernel)
theorem t_472 : Cond.methodLink RX6 162 yX3_costToPutBack ∈ gw_tbl := gw_mk 472 (by decide +kernel) (by decide +kernel)
theorem t_473 : Cond.instanceMethod yX3_costToPutBack ∈ gw_tbl := gw_mk 473 (by decide +kernel) (by decide +kernel)
theorem t_474 : Cond.selects RX3 yX3_costToPutBack yX3_costToPutBack ∈ gw_tbl := gw_mk 474 (by decide +kernel) (by decide +kernel)
set_option maxRecDepth 20000 in
theorem t_475 : Cond.code yX3_costToPutBack cX3_costToPutBack 3 (some .int) ∈ gw_tbl := gw_mk2 235 rfl rfl
theorem t_476 : Cond.methodLink RL 57 yX6_send ∈ gw_tbl := gw_mk 476 (by decide +kernel) (by decide +kernel)
theorem t_477 : Cond.instanceMethod yX6_send ∈ gw_tbl := gw_mk 477 (by decide +kernel) (by decide +kernel)
theorem t_478 : Cond.selects RX6 yX6_send yX6_send ∈ gw_tbl := gw_mk 478 (by decide +kernel) (by decide +kernel)
set_option maxRecDepth 20000 in
theorem t_479 : Cond.code yX6_send cX6_send 4 (some .int) ∈ gw_tbl := gw_mk2 239 rfl rfl
theorem t_480 : Cond.methodLink RL 62 yX6_allow ∈ gw_tbl := gw_mk 480 (by decide +kernel) (by decide +kernel)
theorem t_481 : Cond.instanceMethod yX6_allow ∈ gw_tbl := gw_mk 481 (by decide +kernel) (by decide +kernel)
theorem t_482 : Cond.selects RX6 yX6_allow yX6_allow ∈ gw_tbl := gw_mk 482 (by decide +kernel) (by decide +kernel)
set_option maxRecDepth 20000 in
theorem t_483 : Cond.code yX6_allow cX6_allow 3 (some .int) ∈ gw_tbl := gw_mk3 3 rfl rfl
theorem t_484 : Cond.methodLink RL 66 yX6_thing ∈ gw_tbl := gw_mk 484 (by decide +kernel) (by decide +kernel)
theorem t_485 : Cond.instanceMethod yX6_thing ∈ gw_tbl := gw_mk 485 (by decide +kernel) (by decide +kernel)
theorem t_486 : Cond.selects RX6 yX6_thing yX6_thing ∈ gw_tbl := gw_mk 486 (by decide +kernel) (by decide +kernel)
set_option maxRecDepth 20000 in
theorem t_487 : Cond.code yX6_thing cX6_thing 3 (some .int) ∈ gw_tbl := gw_mk3 7 rfl rfl
theorem t_488 : Cond.methodLink RL 70 yX6_holds ∈ gw_tbl := gw_mk 488 (by decide +kernel) (by decide +kernel)
theorem t_489 : Cond.instanceMethod yX6_holds ∈ gw_tbl := gw_mk 489 (by decide +kernel) (by decide +kernel)
theorem t_490 : Cond.selects RX6 yX6_holds yX6_holds ∈ gw_tbl := gw_mk 490 (by decide +kernel) (by decide +kernel)
set_option maxRecDepth 20000 in
theorem t_491 : Cond.code yX6_holds cX6_holds 2 (some .int) ∈ gw_tbl := gw_mk3 11 rfl rfl
theorem t_492 : Cond.methodLink RX6 187 yX3_alikeBits ∈ gw_tbl := gw_mk 492 (by decide +kernel) (by decide +kernel)
theorem t_493 : Cond.instanceMethod yX3_alikeBits ∈ gw_tbl := gw_mk 493 (by decide +kernel) (by decide +kernel)
theorem t_494 : Cond.selects RX3 yX3_alikeBits yX3_alikeBits ∈ gw_tbl := gw_mk 494 (by decide +kernel) (by decide +kernel)
set_option maxRecDepth 20000 in
theorem t_495 : Cond.code yX3_alikeBits cX3_alikeBits 3 (some .int) ∈ gw_tbl := gw_mk3 15 rfl rfl
theorem t_496 : Cond.methodLink RL 74 yX6_ahead ∈ gw_tbl := gw_mk 496 (by decide +kernel) (by decide +kernel)
theorem t_497 : Cond.instanceMethod yX6_ahead ∈ gw_tbl := gw_mk 497 (by decide +kernel) (by decide +kernel)
theorem t_498 : Cond.selects RX6 yX6_ahead yX6_ahead ∈ gw_tbl := gw_mk 498 (by decide +kernel) (by decide +kernel)
set_option maxRecDepth 20000 in
theorem t_499 : Cond.code yX6_ahead cX6_ahead 3 (some .int) ∈ gw_tbl := gw_mk3 19 rfl rfl
theorem t_500 : Cond.methodLink RX6 190 yX2_isBehind ∈ gw_tbl := gw_mk 500 (by decide +kernel) (by decide +kernel)
theorem t_501 : Cond.instanceMethod yX2_isBehind ∈ gw_tbl := gw_mk 501 (by decide +kernel) (by decide +kernel)
theorem t_502 : Cond.selects RX2 yX2_isBehind yX2_isBehind ∈ gw_tbl := gw_mk 502 (by decide +kernel) (by decide +kernel)
set_option maxRecDepth 20000 in
theorem t_503 : Cond.code yX2_isBehind cX2_isBehind 5 (some .int) ∈ gw_tbl := gw_mk3 23 rfl rfl
theorem t_504 : Cond.methodLink RX2 55 yX3_dayOn ∈ gw_tbl := gw_mk 504 (by decide +kernel) (by decide +kernel)
theorem t_505 : Cond.methodLink RL 78 yX6_offAhead ∈ gw_tbl := gw_mk 505 (by decide +kernel) (by decide +kernel)
theorem t_506 : Cond.instanceMethod yX6_offAhead ∈ gw_tbl := gw_mk 506 (by decide +kernel) (by decide +kernel)
theorem t_507 : Cond.selects RX6 yX6_offAhead yX6_offAhead ∈ gw_tbl := gw_mk 507 (by decide +kernel) (by decide +kernel)
set_option maxRecDepth 20000 in
theorem t_508 : Cond.code yX6_offAhead cX6_offAhead 2 (some .int) ∈ gw_tbl := gw_mk3 28 rfl rfl
theorem t_509 : Cond.methodLink RX6 193 yX2_allOffBehind ∈ gw_tbl := gw_mk 509 (by decide +kernel) (by decide +kernel)
theorem t_510 : Cond.instanceMethod yX2_allOffBehind ∈ gw_tbl := gw_mk 510 (by decide +kernel) (by decide +kernel)
theorem t_511 : Cond.selects RX2 yX2_allOffBehind yX2_allOffBehind ∈ gw_tbl := gw_mk 511 (by decide +kernel) (by decide +kernel)
set_option maxRecDepth 20000 in
theorem t_512 : Cond.code yX2_allOffBehind cX2_allOffBehind 3 (some .int) ∈ gw_tbl := gw_mk3 32 rfl rfl
theorem t_513 : Cond.methodLink RX2 63 yX2_beginNow ∈ gw_tbl := gw_mk 513 (by decide +kernel) (by decide +kernel)
theorem t_515 : Cond.instanceMethod yX2_beginNow ∈ gw_tbl := gw_mk 515 (by decide +kernel) (by decide +kernel)
set_option maxRecDepth 20000 in
theorem t_516 : Cond.code yX2_beginNow cX2_beginNow 2 none ∈ gw_tbl := gw_mk3 36 rfl rfl
theorem t_517 : Cond.methodLink RX2 66 yX2_passDay ∈ gw_tbl := gw_mk 517 (by decide +kernel) (by decide +kernel)
theorem t_519 : Cond.instanceMethod yX2_passDay ∈ gw_tbl := gw_mk 519 (by decide +kernel) (by decide +kernel)
set_option maxRecDepth 20000 in
theorem t_520 : Cond.code yX2_passDay cX2_passDay 3 none ∈ gw_tbl := gw_mk3 40 rfl rfl
theorem t_521 : Cond.methodLink RX2 70 yX2_allOff ∈ gw_tbl := gw_mk 521 (by decide +kernel) (by decide +kernel)
theorem t_522 : Cond.instanceMethod yX2_allOff ∈ gw_tbl := gw_mk 522 (by decide +kernel) (by decide +kernel)
theorem t_523 : Cond.selects RX2 yX2_allOff yX2_allOff ∈ gw_tbl := gw_mk 523 (by decide +kernel) (by decide +kernel)
set_option maxRecDepth 20000 in
theorem t_524 : Cond.code yX2_allOff cX2_allOff 3 (some .int) ∈ gw_tbl := gw_mk3 44 rfl rfl
theorem t_525 : Cond.methodLink RX2 59 yX3_offIf ∈ gw_tbl := gw_mk 525 (by decide +kernel) (by decide +kernel)
theorem t_526 : Cond.methodLink RL 82 yX6_lost ∈ gw_tbl := gw_mk 526 (by decide +kernel) (by decide +kernel)
theorem t_527 : Cond.instanceMethod yX6_lost ∈ gw_tbl := gw_mk 527 (by decide +kernel) (by decide +kernel)
theorem t_528 : Cond.selects RX6 yX6_lost yX6_lost ∈ gw_tbl := gw_mk 528 (by decide +kernel) (by decide +kernel)
set_option maxRecDepth 20000 in
theorem t_529 : Cond.code yX6_lost cX6_lost 2 (some .int) ∈ gw_tbl := gw_mk3 49 rfl rfl
theorem t_530 : Cond.methodLink RX6 196 yX2_firstLost ∈ gw_tbl := gw_mk 530 (by decide +kernel) (by decide +kernel)
theorem t_531 : Cond.instanceMethod yX2_firstLost ∈ gw_tbl := gw_mk 531 (by decide +kernel) (by decide +kernel)
theorem t_532 : Cond.selects RX2 yX2_firstLost yX2_firstLost ∈ gw_tbl := gw_mk 532 (by decide +kernel) (by decide +kernel)
set_option maxRecDepth 20000 in
theorem t_533 : Cond.code yX2_firstLost cX2_firstLost 4 (some .int) ∈ gw_tbl := gw_mk3 53 rfl rfl
theorem t_534 : Cond.methodLink RX2 74 yX2_firstUnlikePerson ∈ gw_tbl := gw_mk 534 (by decide +kernel) (by decide +kernel)
theorem t_536 : Cond.instanceMethod yX2_firstUnlikePerson ∈ gw_tbl := gw_mk 536 (by decide +kernel) (by decide +kernel)
set_option maxRecDepth 20000 in
theorem t_537 : Cond.code yX2_firstUnlikePerson cX2_firstUnlikePerson 2 (some .int) ∈ gw_tbl := gw_mk3 57 rfl rfl
theorem t_538 : Cond.methodLink RX2 78 yX3_isPersonAt ∈ gw_tbl := gw_mk 538 (by decide +kernel) (by decide +kernel)
theorem t_539 : Cond.constant RX2 77 (-1000000) ∈ gw_tbl := gw_mk 539 (by decide +kernel) (by decide +kernel)
theorem t_540 : Cond.methodLink RL 86 yX6_cheapest ∈ gw_tbl := gw_mk 540 (by decide +kernel) (by decide +kernel)
theorem t_541 : Cond.instanceMethod yX6_cheapest ∈ gw_tbl := gw_mk 541 (by decide +kernel) (by decide +kernel)
theorem t_542 : Cond.selects RX6 yX6_cheapest yX6_cheapest ∈ gw_tbl := gw_mk 542 (by decide +kernel) (by decide +kernel)
set_option maxRecDepth 20000 in
theorem t_543 : Cond.code yX6_cheapest cX6_cheapest 4 (some .int) ∈ gw_tbl := gw_mk3 63 rfl rfl
theorem t_544 : Cond.methodLink RX6 200 yX2_planPutBacks ∈ gw_tbl := gw_mk 544 (by decide +kernel) (by decide +kernel)
theorem t_545 : Cond.instanceMethod yX2_planPutBacks ∈ gw_tbl := gw_mk 545 (by decide +kernel) (by decide +kernel)
theorem t_546 : Cond.selects RX2 yX2_planPutBacks yX2_planPutBacks ∈ gw_tbl := gw_mk 546 (by decide +kernel) (by decide +kernel)
set_option maxRecDepth 20000 in
theorem t_547 : Cond.code yX2_planPutBacks cX2_planPutBacks 4 none ∈ gw_tbl := gw_mk3 67 rfl rfl
theorem t_548 : Cond.constant RX2 85 (1000000000) ∈ gw_tbl := gw_mk 548 (by decide +kernel) (by decide +kernel)
theorem t_549 : Cond.methodLink RX2 86 yX2_goOnFrom ∈ gw_tbl := gw_mk 549 (by decide +kernel) (by decide +kernel)
theorem t_551 : Cond.instanceMethod yX2_goOnFrom ∈ gw_tbl := gw_mk 551 (by decide +kernel) (by decide +kernel)
set_option maxRecDepth 20000 in
theorem t_552 : Cond.code yX2_goOnFrom cX2_goOnFrom 7 none ∈ gw_tbl := gw_mk3 72 rfl rfl
theorem t_553 : Cond.methodLink RX2 93 yX3_costToPutBack ∈ gw_tbl := gw_mk 553 (by decide +kernel) (by decide +kernel)
theorem t_554 : Cond.methodLink RL 90 yX6_match ∈ gw_tbl := gw_mk 554 (by decide +kernel) (by decide +kernel)
theorem t_555 : Cond.instanceMethod yX6_match ∈ gw_tbl := gw_mk 555 (by decide +kernel) (by decide +kernel)
theorem t_556 : Cond.selects RX6 yX6_match yX6_match ∈ gw_tbl := gw_mk 556 (by decide +kernel) (by decide +kernel)
set_option maxRecDepth 20000 in
theorem t_557 : Cond.code yX6_match cX6_match 2 (some .int) ∈ gw_tbl := gw_mk3 77 rfl rfl
theorem t_558 : Cond.methodLink RX6 210 yX2_planPlaces ∈ gw_tbl := gw_mk 558 (by decide +kernel) (by decide +kernel)
theorem t_559 : Cond.instanceMethod yX2_planPlaces ∈ gw_tbl := gw_mk 559 (by decide +kernel) (by decide +kernel)
theorem t_560 : Cond.selects RX2 yX2_planPlaces yX2_planPlaces ∈ gw_tbl := gw_mk 560 (by decide +kernel) (by decide +kernel)
set_option maxRecDepth 20000 in
theorem t_561 : Cond.code yX2_planPlaces cX2_planPlaces 1 none ∈ gw_tbl := gw_mk3 81 rfl rfl
theorem t_562 : Cond.methodLink RX2 96 yX2_placeFrom ∈ gw_tbl := gw_mk 562 (by decide +kernel) (by decide +kernel)
theorem t_564 : Cond.instanceMethod yX2_placeFrom ∈ gw_tbl := gw_mk 564 (by decide +kernel) (by decide +kernel)
set_option maxRecDepth 20000 in
theorem t_565 : Cond.code yX2_placeFrom cX2_placeFrom 5 none ∈ gw_tbl := gw_mk3 85 rfl rfl
theorem t_566 : Cond.methodLink RX2 99 yX2_keepPlacesIfBest ∈ gw_tbl := gw_mk 566 (by decide +kernel) (by decide +kernel)
theorem t_568 : Cond.instanceMethod yX2_keepPlacesIfBest ∈ gw_tbl := gw_mk 568 (by decide +kernel) (by decide +kernel)
set_option maxRecDepth 20000 in
theorem t_569 : Cond.code yX2_keepPlacesIfBest cX2_keepPlacesIfBest 3 none ∈ gw_tbl := gw_mk3 89 rfl rfl
theorem t_570 : Cond.methodLink RL 94 yX6_gain ∈ gw_tbl := gw_mk 570 (by decide +kernel) (by decide +kernel)
theorem t_571 : Cond.instanceMethod yX6_gain ∈ gw_tbl := gw_mk 571 (by decide +kernel) (by decide +kernel)
theorem t_572 : Cond.selects RX6 yX6_gain yX6_gain ∈ gw_tbl := gw_mk 572 (by decide +kernel) (by decide +kernel)
set_option maxRecDepth 20000 in
theorem t_573 : Cond.code yX6_gain cX6_gain 2 (some .int) ∈ gw_tbl := gw_mk3 93 rfl rfl
theorem t_574 : Cond.methodLink RX6 219 yX3_gainOf ∈ gw_tbl := gw_mk 574 (by decide +kernel) (by decide +kernel)
theorem t_575 : Cond.instanceMethod yX3_gainOf ∈ gw_tbl := gw_mk 575 (by decide +kernel) (by decide +kernel)
theorem t_576 : Cond.selects RX3 yX3_gainOf yX3_gainOf ∈ gw_tbl := gw_mk 576 (by decide +kernel) (by decide +kernel)
set_option maxRecDepth 20000 in
theorem t_577 : Cond.code yX3_gainOf cX3_gainOf 4 (some .int) ∈ gw_tbl := gw_mk3 97 rfl rfl
theorem t_578 : Cond.methodLink RL 98 yX6_seldom ∈ gw_tbl := gw_mk 578 (by decide +kernel) (by decide +kernel)
theorem t_579 : Cond.instanceMethod yX6_seldom ∈ gw_tbl := gw_mk 579 (by decide +kernel) (by decide +kernel)
theorem t_580 : Cond.selects RX6 yX6_seldom yX6_seldom ∈ gw_tbl := gw_mk 580 (by decide +kernel) (by decide +kernel)
set_option maxRecDepth 20000 in
theorem t_581 : Cond.code yX6_seldom cX6_seldom 3 (some .int) ∈ gw_tbl := gw_mk3 101 rfl rfl
theorem t_582 : Cond.methodLink RX6 222 yX2_mostDaysUnseen ∈ gw_tbl := gw_mk 582 (by decide +kernel) (by decide +kernel)
theorem t_583 : Cond.instanceMethod yX2_mostDaysUnseen ∈ gw_tbl := gw_mk 583 (by decide +kernel) (by decide +kernel)
theorem t_584 : Cond.selects RX2 yX2_mostDaysUnseen yX2_mostDaysUnseen ∈ gw_tbl := gw_mk 584 (by decide +kernel) (by decide +kernel)
set_option maxRecDepth 20000 in
theorem t_585 : Cond.code yX2_mostDaysUnseen cX2_mostDaysUnseen 4 (some .int) ∈ gw_tbl := gw_mk3 105 rfl rfl
theorem t_586 : Cond.methodLink RX2 102 yX2_isNeverOffByMore ∈ gw_tbl := gw_mk 586 (by decide +kernel) (by decide +kernel)
theorem t_588 : Cond.instanceMethod yX2_isNeverOffByMore ∈ gw_tbl := gw_mk 588 (by decide +kernel) (by decide +kernel)
set_option maxRecDepth 20000 in
theorem t_589 : Cond.code yX2_isNeverOffByMore cX2_isNeverOffByMore 7 (some .boolean) ∈ gw_tbl := gw_mk3 109 rfl rfl
theorem t_590 : Cond.methodLink RL 102 yX6_round ∈ gw_tbl := gw_mk 590 (by decide +kernel) (by decide +kernel)
theorem t_591 : Cond.instanceMethod yX6_round ∈ gw_tbl := gw_mk 591 (by decide +kernel) (by decide +kernel)
theorem t_592 : Cond.selects RX6 yX6_round yX6_round ∈ gw_tbl := gw_mk 592 (by decide +kernel) (by decide +kernel)
set_option maxRecDepth 20000 in
theorem t_593 : Cond.code yX6_round cX6_round 1 (some .int) ∈ gw_tbl := gw_mk3 113 rfl rfl
theorem t_594 : Cond.methodLink RX6 225 yX2_firstReturn ∈ gw_tbl := gw_mk 594 (by decide +kernel) (by decide +kernel)
theorem t_595 : Cond.instanceMethod yX2_firstReturn ∈ gw_tbl := gw_mk 595 (by decide +kernel) (by decide +kernel)
theorem t_596 : Cond.selects RX2 yX2_firstReturn yX2_firstReturn ∈ gw_tbl := gw_mk 596 (by decide +kernel) (by decide +kernel)
set_option maxRecDepth 20000 in
theorem t_597 : Cond.code yX2_firstReturn cX2_firstReturn 2 (some .int) ∈ gw_tbl := gw_mk3 117 rfl rfl
theorem t_598 : Cond.methodLink RX2 106 yX2_isWholeRound ∈ gw_tbl := gw_mk 598 (by decide +kernel) (by decide +kernel)
theorem t_600 : Cond.instanceMethod yX2_isWholeRound ∈ gw_tbl := gw_mk 600 (by decide +kernel) (by decide +kernel)
set_option maxRecDepth 20000 in
theorem t_601 : Cond.code yX2_isWholeRound cX2_isWholeRound 4 (some .boolean) ∈ gw_tbl := gw_mk3 121 rfl rfl
theorem t_602 : Cond.methodLink RX2 109 yX2_isAllAsNow ∈ gw_tbl := gw_mk 602 (by decide +kernel) (by decide +kernel)
theorem t_604 : Cond.instanceMethod yX2_isAllAsNow ∈ gw_tbl := gw_mk 604 (by decide +kernel) (by decide +kernel)
set_option maxRecDepth 20000 in
theorem t_605 : Cond.code yX2_isAllAsNow cX2_isAllAsNow 2 (some .boolean) ∈ gw_tbl := gw_mk3 125 rfl rfl
theorem t_606 : Cond.methodLink RL 106 yX6_stealth ∈ gw_tbl := gw_mk 606 (by decide +kernel) (by decide +kernel)
theorem t_607 : Cond.instanceMethod yX6_stealth ∈ gw_tbl := gw_mk 607 (by decide +kernel) (by decide +kernel)
theorem t_608 : Cond.selects RX6 yX6_stealth yX6_stealth ∈ gw_tbl := gw_mk 608 (by decide +kernel) (by decide +kernel)
set_option maxRecDepth 20000 in
theorem t_609 : Cond.code yX6_stealth cX6_stealth 5 (some .int) ∈ gw_tbl := gw_mk3 129 rfl rfl
theorem t_610 : Cond.methodLink RX6 228 yX2_hasteBits ∈ gw_tbl := gw_mk 610 (by decide +kernel) (by decide +kernel)
theorem t_611 : Cond.instanceMethod yX2_hasteBits ∈ gw_tbl := gw_mk 611 (by decide +kernel) (by decide +kernel)
theorem t_612 : Cond.selects RX2 yX2_hasteBits yX2_hasteBits ∈ gw_tbl := gw_mk 612 (by decide +kernel) (by decide +kernel)
set_option maxRecDepth 20000 in
theorem t_613 : Cond.code yX2_hasteBits cX2_hasteBits 7 (some .int) ∈ gw_tbl := gw_mk3 133 rfl rfl
theorem t_614 : Cond.methodLink RX2 116 yX2_isToldIfHasty ∈ gw_tbl := gw_mk 614 (by decide +kernel) (by decide +kernel)
theorem t_616 : Cond.instanceMethod yX2_isToldIfHasty ∈ gw_tbl := gw_mk 616 (by decide +kernel) (by decide +kernel)
set_option maxRecDepth 20000 in
theorem t_617 : Cond.code yX2_isToldIfHasty cX2_isToldIfHasty 7 (some .boolean) ∈ gw_tbl := gw_mk3 137 rfl rfl
theorem t_618 : Cond.methodLink RX2 120 yX4_read ∈ gw_tbl := gw_mk 618 (by decide +kernel) (by decide +kernel)
theorem t_619 : Cond.instanceMethod yX4_read ∈ gw_tbl := gw_mk 619 (by decide +kernel) (by decide +kernel)
theorem t_620 : Cond.selects RX4 yX4_read yX4_read ∈ gw_tbl := gw_mk 620 (by decide +kernel) (by decide +kernel)
set_option maxRecDepth 20000 in
theorem t_621 : Cond.code yX4_read cX4_read 3 (some .int) ∈ gw_tbl := gw_mk3 141 rfl rfl
theorem t_622 : Cond.methodLink RL 110 yX6_who ∈ gw_tbl := gw_mk 622 (by decide +kernel) (by decide +kernel)
theorem t_623 : Cond.instanceMethod yX6_who ∈ gw_tbl := gw_mk 623 (by decide +kernel) (by decide +kernel)
theorem t_624 : Cond.selects RX6 yX6_who yX6_who ∈ gw_tbl := gw_mk 624 (by decide +kernel) (by decide +kernel)
set_option maxRecDepth 20000 in
theorem t_625 : Cond.code yX6_who cX6_who 6 (some .int) ∈ gw_tbl := gw_mk3 145 rfl rfl
theorem t_626 : Cond.methodLink RX6 232 yX2_kindBits ∈ gw_tbl := gw_mk 626 (by decide +kernel) (by decide +kernel)
theorem t_627 : Cond.instanceMethod yX2_kindBits ∈ gw_tbl := gw_mk 627 (by decide +kernel) (by decide +kernel)
theorem t_628 : Cond.selects RX2 yX2_kindBits yX2_kindBits ∈ gw_tbl := gw_mk 628 (by decide +kernel) (by decide +kernel)
set_option maxRecDepth 20000 in
theorem t_629 : Cond.code yX2_kindBits cX2_kindBits 8 (some .int) ∈ gw_tbl := gw_mk3 149 rfl rfl
theorem t_630 : Cond.methodLink RX2 125 yX2_isToldIfOf ∈ gw_tbl := gw_mk 630 (by decide +kernel) (by decide +kernel)
theorem t_632 : Cond.instanceMethod yX2_isToldIfOf ∈ gw_tbl := gw_mk 632 (by decide +kernel) (by decide +kernel)
set_option maxRecDepth 20000 in
theorem t_633 : Cond.code yX2_isToldIfOf cX2_isToldIfOf 9 (some .boolean) ∈ gw_tbl := gw_mk3 153 rfl rfl
theorem t_634 : Cond.methodLink RX2 129 yX3_dayOnAs ∈ gw_tbl := gw_mk 634 (by decide +kernel) (by decide +kernel)
theorem t_635 : Cond.methodLink RL 115 yX6_leastMay ∈ gw_tbl := gw_mk 635 (by decide +kernel) (by decide +kernel)
theorem t_636 : Cond.instanceMethod yX6_leastMay ∈ gw_tbl := gw_mk 636 (by decide +kernel) (by decide +kernel)
theorem t_637 : Cond.selects RX6 yX6_leastMay yX6_leastMay ∈ gw_tbl := gw_mk 637 (by decide +kernel) (by decide +kernel)
set_option maxRecDepth 20000 in
theorem t_638 : Cond.code yX6_leastMay cX6_leastMay 2 (some .int) ∈ gw_tbl := gw_mk3 158 rfl rfl
theorem t_639 : Cond.methodLink RX6 236 yX2_mostOff ∈ gw_tbl := gw_mk 639 (by decide +kernel) (by decide +kernel)
theorem t_640 : Cond.instanceMethod yX2_mostOff ∈ gw_tbl := gw_mk 640 (by decide +kernel) (by decide +kernel)
theorem t_641 : Cond.selects RX2 yX2_mostOff yX2_mostOff ∈ gw_tbl := gw_mk 641 (by decide +kernel) (by decide +kernel)
set_option maxRecDepth 20000 in
theorem t_642 : Cond.code yX2_mostOff cX2_mostOff 4 (some .int) ∈ gw_tbl := gw_mk3 162 rfl rfl
theorem t_643 : Cond.methodLink RX2 133 yX2_mostOffThen ∈ gw_tbl := gw_mk 643 (by decide +kernel) (by decide +kernel)
theorem t_645 : Cond.instanceMethod yX2_mostOffThen ∈ gw_tbl := gw_mk 645 (by decide +kernel) (by decide +kernel)
set_option maxRecDepth 20000 in
theorem t_646 : Cond.code yX2_mostOffThen cX2_mostOffThen 3 (some .int) ∈ gw_tbl := gw_mk3 166 rfl rfl
theorem t_647 : Cond.methodLink RX2 136 Lib.Math.max.name ∈ gw_tbl := gw_mk 647 (by decide +kernel) (by decide +kernel)
theorem t_648 : Cond.methodLink RL 119 yX6_odds ∈ gw_tbl := gw_mk 648 (by decide +kernel) (by decide +kernel)
theorem t_649 : Cond.instanceMethod yX6_odds ∈ gw_tbl := gw_mk 649 (by decide +kernel) (by decide +kernel)
theorem t_650 : Cond.selects RX6 yX6_odds yX6_odds ∈ gw_tbl := gw_mk 650 (by decide +kernel) (by decide +kernel)
set_option maxRecDepth 20000 in
theorem t_651 : Cond.code yX6_odds cX6_odds 5 (some .long) ∈ gw_tbl := gw_mk3 171 rfl rfl
theorem t_652 : Cond.constantLong RX6 239 (-1000001) ∈ gw_tbl := gw_mk 652 (by decide +kernel) (by decide +kernel)
theorem t_653 : Cond.constantLong RX6 244 (-1000002) ∈ gw_tbl := gw_mk 653 (by decide +kernel) (by decide +kernel)
theorem t_654 : Cond.methodLink RX6 246 yX2_fractionAlike ∈ gw_tbl := gw_mk 654 (by decide +kernel) (by decide +kernel)
theorem t_655 : Cond.instanceMethod yX2_fractionAlike ∈ gw_tbl := gw_mk 655 (by decide +kernel) (by decide +kernel)
theorem t_656 : Cond.selects RX2 yX2_fractionAlike yX2_fractionAlike ∈ gw_tbl := gw_mk 656 (by decide +kernel) (by decide +kernel)
set_option maxRecDepth 20000 in
theorem t_657 : Cond.code yX2_fractionAlike cX2_fractionAlike 12 (some .long) ∈ gw_tbl := gw_mk3 177 rfl rfl
theorem t_658 : Cond.methodLink RX2 141 yX2_countWays ∈ gw_tbl := gw_mk 658 (by decide +kernel) (by decide +kernel)
theorem t_660 : Cond.instanceMethod yX2_countWays ∈ gw_tbl := gw_mk 660 (by decide +kernel) (by decide +kernel)
set_option maxRecDepth 20000 in
theorem t_661 : Cond.code yX2_countWays cX2_countWays 5 none ∈ gw_tbl := gw_mk3 181 rfl rfl
theorem t_662 : Cond.methodLink RX2 145 yX2_greatestDivisor ∈ gw_tbl := gw_mk 662 (by decide +kernel) (by decide +kernel)
theorem t_663 : Cond.static yX2_greatestDivisor ∈ gw_tbl := gw_mk 663 (by decide +kernel) (by decide +kernel)
set_option maxRecDepth 20000 in
theorem t_664 : Cond.code yX2_greatestDivisor cX2_greatestDivisor 11 (some .long) ∈ gw_tbl := gw_mk3 184 rfl rfl
theorem t_665 : Cond.constantLong RX2 149 (-1000000) ∈ gw_tbl := gw_mk 665 (by decide +kernel) (by decide +kernel)
theorem t_666 : Cond.methodLink RL 124 yX6_store ∈ gw_tbl := gw_mk 666 (by decide +kernel) (by decide +kernel)
theorem t_667 : Cond.instanceMethod yX6_store ∈ gw_tbl := gw_mk 667 (by decide +kernel) (by decide +kernel)
theorem t_668 : Cond.selects RX6 yX6_store yX6_store ∈ gw_tbl := gw_mk 668 (by decide +kernel) (by decide +kernel)
set_option maxRecDepth 20000 in
theorem t_669 : Cond.code yX6_store cX6_store 2 (some .int) ∈ gw_tbl := gw_mk3 189 rfl rfl
theorem t_670 : Cond.methodLink RX6 250 yX2_pricesOfLeaves ∈ gw_tbl := gw_mk 670 (by decide +kernel) (by decide +kernel)
theorem t_671 : Cond.instanceMethod yX2_pricesOfLeaves ∈ gw_tbl := gw_mk 671 (by decide +kernel) (by decide +kernel)
theorem t_672 : Cond.selects RX2 yX2_pricesOfLeaves yX2_pricesOfLeaves ∈ gw_tbl := gw_mk 672 (by decide +kernel) (by decide +kernel)
set_option maxRecDepth 20000 in
theorem t_673 : Cond.code yX2_pricesOfLeaves cX2_pricesOfLeaves 4 (some .int) ∈ gw_tbl := gw_mk3 193 rfl rfl
theorem t_674 : Cond.methodLink RX2 151 yX2_pricesOfFallen ∈ gw_tbl := gw_mk 674 (by decide +kernel) (by decide +kernel)
theorem t_676 : Cond.instanceMethod yX2_pricesOfFallen ∈ gw_tbl := gw_mk 676 (by decide +kernel) (by decide +kernel)
set_option maxRecDepth 20000 in
theorem t_677 : Cond.code yX2_pricesOfFallen cX2_pricesOfFallen 4 (some .int) ∈ gw_tbl := gw_mk3 197 rfl rfl
theorem t_678 : Cond.methodLink RL 128 yX6_drawn ∈ gw_tbl := gw_mk 678 (by decide +kernel) (by decide +kernel)
theorem t_679 : Cond.instanceMethod yX6_drawn ∈ gw_tbl := gw_mk 679 (by decide +kernel) (by decide +kernel)
theorem t_680 : Cond.selects RX6 yX6_drawn yX6_drawn ∈ gw_tbl := gw_mk 680 (by decide +kernel) (by decide +kernel)
set_option maxRecDepth 20000 in
theorem t_681 : Cond.code yX6_drawn cX6_drawn 5 (some .int) ∈ gw_tbl := gw_mk3 201 rfl rfl
theorem t_682 : Cond.constant RX6 253 (999999) ∈ gw_tbl := gw_mk 682 (by decide +kernel) (by decide +kernel)
theorem t_683 : Cond.methodLink RX6 254 yX2_costByDraws ∈ gw_tbl := gw_mk 683 (by decide +kernel) (by decide +kernel)
theorem t_684 : Cond.instanceMethod yX2_costByDraws ∈ gw_tbl := gw_mk 684 (by decide +kernel) (by decide +kernel)
theorem t_685 : Cond.selects RX2 yX2_costByDraws yX2_costByDraws ∈ gw_tbl := gw_mk 685 (by decide +kernel) (by decide +kernel)
set_option maxRecDepth 20000 in
theorem t_686 : Cond.code yX2_costByDraws cX2_costByDraws 7 (some .int) ∈ gw_tbl := gw_mk3 206 rfl rfl
theorem t_687 : Cond.constantLong RX2 160 (16807) ∈ gw_tbl := gw_mk 687 (by decide +kernel) (by decide +kernel)
theorem t_688 : Cond.constantLong RX2 162 (2147483647) ∈ gw_tbl := gw_mk 688 (by decide +kernel) (by decide +kernel)
theorem t_689 : Cond.methodLink RX2 164 yX2_putBackDrawn ∈ gw_tbl := gw_mk 689 (by decide +kernel) (by decide +kernel)
theorem t_691 : Cond.instanceMethod yX2_putBackDrawn ∈ gw_tbl := gw_mk 691 (by decide +kernel) (by decide +kernel)
set_option maxRecDepth 20000 in
theorem t_692 : Cond.code yX2_putBackDrawn cX2_putBackDrawn 5 (some .int) ∈ gw_tbl := gw_mk3 212 rfl rfl
theorem t_693 : Cond.methodLink RX2 168 yX3_has ∈ gw_tbl := gw_mk 693 (by decide +kernel) (by decide +kernel)
theorem t_694 : Cond.methodLink RX6 257 yX2_allOff ∈ gw_tbl := gw_mk 694 (by decide +kernel) (by decide +kernel)
theorem t_695 : Cond.methodLink RL 132 yX6_image ∈ gw_tbl := gw_mk 695 (by decide +kernel) (by decide +kernel)
theorem t_696 : Cond.instanceMethod yX6_image ∈ gw_tbl := gw_mk 696 (by decide +kernel) (by decide +kernel)
theorem t_697 : Cond.selects RX6 yX6_image yX6_image ∈ gw_tbl := gw_mk 697 (by decide +kernel) (by decide +kernel)
set_option maxRecDepth 20000 in
theorem t_698 : Cond.code yX6_image cX6_image 2 (some .int) ∈ gw_tbl := gw_mk3 218 rfl rfl
theorem t_699 : Cond.methodLink RX6 258 yX6_imageNumbered ∈ gw_tbl := gw_mk 699 (by decide +kernel) (by decide +kernel)
theorem t_701 : Cond.instanceMethod yX6_imageNumbered ∈ gw_tbl := gw_mk 701 (by decide +kernel) (by decide +kernel)
set_option maxRecDepth 20000 in
theorem t_702 : Cond.code yX6_imageNumbered cX6_imageNumbered 2 (some (.object "EscrowLand$Land")) ∈ gw_tbl := gw_mk3 222 rfl rfl
theorem t_703 : Cond.methodLink RX6 262 yX3_takeAll ∈ gw_tbl := gw_mk 703 (by decide +kernel) (by decide +kernel)
theorem t_704 : Cond.methodLink RL 136 yX6_restore ∈ gw_tbl := gw_mk 704 (by decide +kernel) (by decide +kernel)
theorem t_705 : Cond.instanceMethod yX6_restore ∈ gw_tbl := gw_mk 705 (by decide +kernel) (by decide +kernel)
theorem t_706 : Cond.selects RX6 yX6_restore yX6_restore ∈ gw_tbl := gw_mk 706 (by decide +kernel) (by decide +kernel)
set_option maxRecDepth 20000 in
theorem t_707 : Cond.code yX6_restore cX6_restore 2 (some .int) ∈ gw_tbl := gw_mk3 227 rfl rfl
theorem t_708 : Cond.methodLink RL 140 yX6_kind ∈ gw_tbl := gw_mk 708 (by decide +kernel) (by decide +kernel)
theorem t_709 : Cond.instanceMethod yX6_kind ∈ gw_tbl := gw_mk 709 (by decide +kernel) (by decide +kernel)
theorem t_710 : Cond.selects RX6 yX6_kind yX6_kind ∈ gw_tbl := gw_mk 710 (by decide +kernel) (by decide +kernel)
set_option maxRecDepth 20000 in
theorem t_711 : Cond.code yX6_kind cX6_kind 2 (some .int) ∈ gw_tbl := gw_mk3 231 rfl rfl
theorem t_712 : Cond.methodLink RL 144 yX6_as ∈ gw_tbl := gw_mk 712 (by decide +kernel) (by decide +kernel)
theorem t_713 : Cond.instanceMethod yX6_as ∈ gw_tbl := gw_mk 713 (by decide +kernel) (by decide +kernel)
theorem t_714 : Cond.selects RX6 yX6_as yX6_as ∈ gw_tbl := gw_mk 714 (by decide +kernel) (by decide +kernel)
set_option maxRecDepth 20000 in
theorem t_715 : Cond.code yX6_as cX6_as 3 (some .int) ∈ gw_tbl := gw_mk3 235 rfl rfl
theorem t_716 : Cond.methodLink RX6 265 yX1_isKindToo ∈ gw_tbl := gw_mk 716 (by decide +kernel) (by decide +kernel)
theorem t_717 : Cond.static yX1_isKindToo ∈ gw_tbl := gw_mk 717 (by decide +kernel) (by decide +kernel)
set_option maxRecDepth 20000 in
theorem t_718 : Cond.code yX1_isKindToo cX1_isKindToo 2 (some .boolean) ∈ gw_tbl := gw_mk3 238 rfl rfl
theorem t_719 : Cond.methodLinkNest RX1 26 yX6_isWithin RX6 ∈ nw_tbl := nw_mk 719 (by decide +kernel) (by decide +kernel)
theorem t_720 : Cond.fieldLink RX1 30 RX1 "KINDS_TOO" "[I" ∈ gw_tbl := gw_mk 720 (by decide +kernel) (by decide +kernel)
theorem t_721 : Cond.laysStatic RX1 "KINDS_TOO" "[I" ∈ lw_tbl := List.mem_append_right _ (List.mem_of_getElem? (i := 721) (by decide +kernel))
theorem t_722 : Cond.methodLink RL 148 yX6_ask ∈ gw_tbl := gw_mk 722 (by decide +kernel) (by decide +kernel)
theorem t_723 : Cond.instanceMethod yX6_ask ∈ gw_tbl := gw_mk 723 (by decide +kernel) (by decide +kernel)
theorem t_724 : Cond.selects RX6 yX6_ask yX6_ask ∈ gw_tbl := gw_mk 724 (by decide +kernel) (by decide +kernel)
set_option maxRecDepth 20000 in
theorem t_725 : Cond.code yX6_ask cX6_ask 3 (some .int) ∈ gw_tbl := gw_mk4 5 rfl rfl
theorem t_726 : Cond.methodLink RX6 269 yX1_answer ∈ gw_tbl := gw_mk 726 (by decide +kernel) (by decide +kernel)
theorem t_727 : Cond.instanceMethod yX1_answer ∈ gw_tbl := gw_mk 727 (by decide +kernel) (by decide +kernel)
theorem t_728 : Cond.selects RX1 yX1_answer yX1_answer ∈ gw_tbl := gw_mk 728 (by decide +kernel) (by decide +kernel)
set_option maxRecDepth 20000 in
theorem t_729 : Cond.code yX1_answer cX1_answer 3 (some .int) ∈ gw_tbl := gw_mk4 9 rfl rfl
theorem t_730 : Cond.methodLink RX1 33 yX1_sizeAnew ∈ gw_tbl := gw_mk 730 (by decide +kernel) (by decide +kernel)
theorem t_732 : Cond.instanceMethod yX1_sizeAnew ∈ gw_tbl := gw_mk 732 (by decide +kernel) (by decide +kernel)
set_option maxRecDepth 20000 in
theorem t_733 : Cond.code yX1_sizeAnew cX1_sizeAnew 3 (some .int) ∈ gw_tbl := gw_mk4 13 rfl rfl
theorem t_734 : Cond.fieldLink RX1 46 RX1 "SIZE_BODY" "[I" ∈ gw_tbl := gw_mk 734 (by decide +kernel) (by decide +kernel)
theorem t_735 : Cond.laysStatic RX1 "SIZE_BODY" "[I" ∈ lw_tbl := List.mem_append_right _ (List.mem_of_getElem? (i := 735) (by decide +kernel))
theorem t_736 : Cond.methodLink RX1 49 yX1_give ∈ gw_tbl := gw_mk 736 (by decide +kernel) (by decide +kernel)
theorem t_738 : Cond.instanceMethod yX1_give ∈ gw_tbl := gw_mk 738 (by decide +kernel) (by decide +kernel)
set_option maxRecDepth 20000 in
theorem t_739 : Cond.code yX1_give cX1_give 4 (some .int) ∈ gw_tbl := gw_mk4 19 rfl rfl
theorem t_740 : Cond.methodLink RX1 56 yX1_leave ∈ gw_tbl := gw_mk 740 (by decide +kernel) (by decide +kernel)
theorem t_742 : Cond.instanceMethod yX1_leave ∈ gw_tbl := gw_mk 742 (by decide +kernel) (by decide +kernel)
set_option maxRecDepth 20000 in
theorem t_743 : Cond.code yX1_leave cX1_leave 2 none ∈ gw_tbl := gw_mk4 23 rfl rfl
theorem t_744 : Cond.methodLink RX1 37 yX1_markAnew ∈ gw_tbl := gw_mk 744 (by decide +kernel) (by decide +kernel)
theorem t_746 : Cond.instanceMethod yX1_markAnew ∈ gw_tbl := gw_mk 746 (by decide +kernel) (by decide +kernel)
set_option maxRecDepth 20000 in
theorem t_747 : Cond.code yX1_markAnew cX1_markAnew 3 (some .int) ∈ gw_tbl := gw_mk4 27 rfl rfl
theorem t_748 : Cond.fieldLink RX1 53 RX1 "MARK_BODY" "[I" ∈ gw_tbl := gw_mk 748 (by decide +kernel) (by decide +kernel)
theorem t_749 : Cond.laysStatic RX1 "MARK_BODY" "[I" ∈ lw_tbl := List.mem_append_right _ (List.mem_of_getElem? (i := 749) (by decide +kernel))
theorem t_750 : Cond.methodLink RL 152 yX6_trace ∈ gw_tbl := gw_mk 750 (by decide +kernel) (by decide +kernel)
theorem t_751 : Cond.instanceMethod yX6_trace ∈ gw_tbl := gw_mk 751 (by decide +kernel) (by decide +kernel)
theorem t_752 : Cond.selects RX6 yX6_trace yX6_trace ∈ gw_tbl := gw_mk 752 (by decide +kernel) (by decide +kernel)
set_option maxRecDepth 20000 in
theorem t_753 : Cond.code yX6_trace cX6_trace 2 (some .int) ∈ gw_tbl := gw_mk4 33 rfl rfl
theorem t_754 : Cond.methodLink RX6 272 yX1_traced ∈ gw_tbl := gw_mk 754 (by decide +kernel) (by decide +kernel)
theorem t_755 : Cond.instanceMethod yX1_traced ∈ gw_tbl := gw_mk 755 (by decide +kernel) (by decide +kernel)
theorem t_756 : Cond.selects RX1 yX1_traced yX1_traced ∈ gw_tbl := gw_mk 756 (by decide +kernel) (by decide +kernel)
set_option maxRecDepth 20000 in
theorem t_757 : Cond.code yX1_traced cX1_traced 2 (some .int) ∈ gw_tbl := gw_mk4 37 rfl rfl
theorem t_758 : Cond.constant RX1 40 (-1000000) ∈ gw_tbl := gw_mk 758 (by decide +kernel) (by decide +kernel)
theorem t_759 : Cond.methodLink RL 156 yX6_count ∈ gw_tbl := gw_mk 759 (by decide +kernel) (by decide +kernel)
theorem t_760 : Cond.instanceMethod yX6_count ∈ gw_tbl := gw_mk 760 (by decide +kernel) (by decide +kernel)
theorem t_761 : Cond.selects RX6 yX6_count yX6_count ∈ gw_tbl := gw_mk 761 (by decide +kernel) (by decide +kernel)
set_option maxRecDepth 20000 in
theorem t_762 : Cond.code yX6_count cX6_count 2 (some .int) ∈ gw_tbl := gw_mk4 42 rfl rfl
theorem t_763 : Cond.methodLink RX6 275 yX4_howMany ∈ gw_tbl := gw_mk 763 (by decide +kernel) (by decide +kernel)
theorem t_764 : Cond.instanceMethod yX4_howMany ∈ gw_tbl := gw_mk 764 (by decide +kernel) (by decide +kernel)
theorem t_765 : Cond.selects RX4 yX4_howMany yX4_howMany ∈ gw_tbl := gw_mk 765 (by decide +kernel) (by decide +kernel)
set_option maxRecDepth 20000 in
theorem t_766 : Cond.code yX4_howMany cX4_howMany 3 (some .int) ∈ gw_tbl := gw_mk4 46 rfl rfl
theorem t_767 : Cond.methodLink RL 160 yX6_status ∈ gw_tbl := gw_mk 767 (by decide +kernel) (by decide +kernel)
theorem t_768 : Cond.instanceMethod yX6_status ∈ gw_tbl := gw_mk 768 (by decide +kernel) (by decide +kernel)
theorem t_769 : Cond.selects RX6 yX6_status yX6_status ∈ gw_tbl := gw_mk 769 (by decide +kernel) (by decide +kernel)
set_option maxRecDepth 20000 in
theorem t_770 : Cond.code yX6_status cX6_status 1 (some .int) ∈ gw_tbl := gw_mk4 50 rfl rfl
theorem t_771 : Cond.classLink RL 10 RX7 ∈ gw_tbl := gw_mk 771 (by decide +kernel) (by decide +kernel)
theorem t_772 : Cond.instantiable RX7 28 ∈ gw_tbl := gw_mk 772 (by decide +kernel) (by decide +kernel)
theorem t_773 : Cond.methodLink RL 12 yX7_init ∈ gw_tbl := gw_mk 773 (by decide +kernel) (by decide +kernel)
theorem t_774 : Cond.instanceMethod yX7_init ∈ gw_tbl := gw_mk 774 (by decide +kernel) (by decide +kernel)
set_option maxRecDepth 20000 in
theorem t_775 : Cond.code yX7_init cX7_init 2 none ∈ gw_tbl := gw_mk4 55 rfl rfl
theorem t_776 : Cond.methodLink RX7 1 objectInit ∈ gw_tbl := gw_mk 776 (by decide +kernel) (by decide +kernel)
theorem t_777 : Cond.fieldLink RX7 7 RX7 (TX7 0).2.1 (TX7 0).2.2.1 ∈ gw_tbl := gw_mk 777 (by decide +kernel) (by decide +kernel)
theorem t_778 : Cond.fieldLink RX7 13 RX7 (TX7 1).2.1 (TX7 1).2.2.1 ∈ gw_tbl := gw_mk 778 (by decide +kernel) (by decide +kernel)
theorem t_779 : Cond.fieldLink RX7 16 RX7 (TX7 2).2.1 (TX7 2).2.2.1 ∈ gw_tbl := gw_mk 779 (by decide +kernel) (by decide +kernel)
theorem t_780 : Cond.fieldLink RX7 62 RX7 (TX7 3).2.1 (TX7 3).2.2.1 ∈ gw_tbl := gw_mk 780 (by decide +kernel) (by decide +kernel)
theorem t_781 : Cond.fieldLink RX7 147 RX7 (TX7 4).2.1 (TX7 4).2.2.1 ∈ gw_tbl := gw_mk 781 (by decide +kernel) (by decide +kernel)
theorem t_782 : Cond.fieldLink RX7 19 RX7 (TX7 5).2.1 (TX7 5).2.2.1 ∈ gw_tbl := gw_mk 782 (by decide +kernel) (by decide +kernel)
theorem t_783 : Cond.fieldLink RX7 22 RX7 (TX7 6).2.1 (TX7 6).2.2.1 ∈ gw_tbl := gw_mk 783 (by decide +kernel) (by decide +kernel)
theorem t_784 : Cond.fieldLink RX7 25 RX7 (TX7 7).2.1 (TX7 7).2.2.1 ∈ gw_tbl := gw_mk 784 (by decide +kernel) (by decide +kernel)
theorem t_785 : Cond.fieldLink RX7 93 RX7 (TX7 8).2.1 (TX7 8).2.2.1 ∈ gw_tbl := gw_mk 785 (by decide +kernel) (by decide +kernel)
theorem t_786 : Cond.fieldLink RX7 143 RX7 (TX7 9).2.1 (TX7 9).2.2.1 ∈ gw_tbl := gw_mk 786 (by decide +kernel) (by decide +kernel)
theorem t_787 : Cond.fieldLink RX7 97 RX7 (TX7 10).2.1 (TX7 10).2.2.1 ∈ gw_tbl := gw_mk 787 (by decide +kernel) (by decide +kernel)
theorem t_788 : Cond.fieldLink RX7 103 RX7 (TX7 11).2.1 (TX7 11).2.2.1 ∈ gw_tbl := gw_mk 788 (by decide +kernel) (by decide +kernel)
theorem t_789 : Cond.fieldLink RX7 106 RX7 (TX7 12).2.1 (TX7 12).2.2.1 ∈ gw_tbl := gw_mk 789 (by decide +kernel) (by decide +kernel)
theorem t_790 : Cond.fieldLink RX7 100 RX7 (TX7 13).2.1 (TX7 13).2.2.1 ∈ gw_tbl := gw_mk 790 (by decide +kernel) (by decide +kernel)
theorem t_791 : Cond.fieldLink RX7 117 RX7 (TX7 14).2.1 (TX7 14).2.2.1 ∈ gw_tbl := gw_mk 791 (by decide +kernel) (by decide +kernel)
theorem t_792 : Cond.fieldLink RX7 28 RX7 (TX7 15).2.1 (TX7 15).2.2.1 ∈ gw_tbl := gw_mk 792 (by decide +kernel) (by decide +kernel)
theorem t_793 : Cond.fieldLink RX7 31 RX7 (TX7 16).2.1 (TX7 16).2.2.1 ∈ gw_tbl := gw_mk 793 (by decide +kernel) (by decide +kernel)
theorem t_794 : Cond.fieldLink RX7 151 RX7 (TX7 17).2.1 (TX7 17).2.2.1 ∈ gw_tbl := gw_mk 794 (by decide +kernel) (by decide +kernel)
theorem t_795 : Cond.fieldLink RX7 34 RX7 (TX7 18).2.1 (TX7 18).2.2.1 ∈ gw_tbl := gw_mk 795 (by decide +kernel) (by decide +kernel)
theorem t_796 : Cond.fieldLink RX7 37 RX7 (TX7 19).2.1 (TX7 19).2.2.1 ∈ gw_tbl := gw_mk 796 (by decide +kernel) (by decide +kernel)
theorem t_797 : Cond.fieldLink RX7 40 RX7 (TX7 20).2.1 (TX7 20).2.2.1 ∈ gw_tbl := gw_mk 797 (by decide +kernel) (by decide +kernel)
theorem t_798 : Cond.fieldLink RX7 43 RX7 (TX7 21).2.1 (TX7 21).2.2.1 ∈ gw_tbl := gw_mk 798 (by decide +kernel) (by decide +kernel)
theorem t_799 : Cond.fieldLink RX7 46 RX7 (TX7 22).2.1 (TX7 22).2.2.1 ∈ gw_tbl := gw_mk 799 (by decide +kernel) (by decide +kernel)
theorem t_800 : Cond.fieldLink RX7 49 RX7 (TX7 23).2.1 (TX7 23).2.2.1 ∈ gw_tbl := gw_mk 800 (by decide +kernel) (by decide +kernel)
theorem t_801 : Cond.fieldLink RX7 52 RX7 (TX7 24).2.1 (TX7 24).2.2.1 ∈ gw_tbl := gw_mk 801 (by decide +kernel) (by decide +kernel)
theorem t_802 : Cond.fieldLink RX7 56 RX7 (TX7 25).2.1 (TX7 25).2.2.1 ∈ gw_tbl := gw_mk 802 (by decide +kernel) (by decide +kernel)
theorem t_803 : Cond.fieldLink RX7 59 RX7 (TX7 26).2.1 (TX7 26).2.2.1 ∈ gw_tbl := gw_mk 803 (by decide +kernel) (by decide +kernel)
theorem t_804 : Cond.fieldLink RX7 256 RX7 (TX7 27).2.1 (TX7 27).2.2.1 ∈ gw_tbl := gw_mk 804 (by decide +kernel) (by decide +kernel)
theorem t_862 : Cond.arrayClass .boolean ∈ gw_tbl := gw_mk 862 (by decide +kernel) (by decide +kernel)
theorem t_863 : Cond.methodLink RL 17 yX7_row ∈ gw_tbl := gw_mk 863 (by decide +kernel) (by decide +kernel)
theorem t_864 : Cond.instanceMethod yX7_row ∈ gw_tbl := gw_mk 864 (by decide +kernel) (by decide +kernel)
theorem t_865 : Cond.selects RX7 yX7_row yX7_row ∈ gw_tbl := gw_mk 865 (by decide +kernel) (by decide +kernel)
set_option maxRecDepth 20000 in
theorem t_866 : Cond.code yX7_row cX7_row 5 (some .int) ∈ gw_tbl := gw_mk4 146 rfl rfl
theorem t_867 : Cond.methodLink RX7 73 yX7_isRow ∈ gw_tbl := gw_mk 867 (by decide +kernel) (by decide +kernel)
theorem t_868 : Cond.static yX7_isRow ∈ gw_tbl := gw_mk 868 (by decide +kernel) (by decide +kernel)
set_option maxRecDepth 20000 in
theorem t_869 : Cond.code yX7_isRow cX7_isRow 1 (some .boolean) ∈ gw_tbl := gw_mk4 149 rfl rfl
theorem t_870 : Cond.constantLong RX7 67 (7) ∈ gw_tbl := gw_mk 870 (by decide +kernel) (by decide +kernel)
theorem t_871 : Cond.methodLink RX7 69 yX7_in ∈ gw_tbl := gw_mk 871 (by decide +kernel) (by decide +kernel)
theorem t_872 : Cond.static yX7_in ∈ gw_tbl := gw_mk 872 (by decide +kernel) (by decide +kernel)
set_option maxRecDepth 20000 in
theorem t_873 : Cond.code yX7_in cX7_in 6 (some .boolean) ∈ gw_tbl := gw_mk4 153 rfl rfl
theorem t_874 : Cond.constantLong RX7 77 (2) ∈ gw_tbl := gw_mk 874 (by decide +kernel) (by decide +kernel)
theorem t_875 : Cond.constant RX7 79 (-1000001) ∈ gw_tbl := gw_mk 875 (by decide +kernel) (by decide +kernel)
theorem t_876 : Cond.methodLink RX7 80 yX7_find ∈ gw_tbl := gw_mk 876 (by decide +kernel) (by decide +kernel)
theorem t_878 : Cond.instanceMethod yX7_find ∈ gw_tbl := gw_mk 878 (by decide +kernel) (by decide +kernel)
set_option maxRecDepth 20000 in
theorem t_879 : Cond.code yX7_find cX7_find 2 (some .int) ∈ gw_tbl := gw_mk4 159 rfl rfl
theorem t_880 : Cond.constant RX7 66 (-1000010) ∈ gw_tbl := gw_mk 880 (by decide +kernel) (by decide +kernel)
theorem t_881 : Cond.methodLink RX7 84 yX7_well ∈ gw_tbl := gw_mk 881 (by decide +kernel) (by decide +kernel)
theorem t_883 : Cond.instanceMethod yX7_well ∈ gw_tbl := gw_mk 883 (by decide +kernel) (by decide +kernel)
set_option maxRecDepth 20000 in
theorem t_884 : Cond.code yX7_well cX7_well 2 (some .int) ∈ gw_tbl := gw_mk4 164 rfl rfl
theorem t_885 : Cond.methodLink RL 21 yX7_set ∈ gw_tbl := gw_mk 885 (by decide +kernel) (by decide +kernel)
theorem t_886 : Cond.instanceMethod yX7_set ∈ gw_tbl := gw_mk 886 (by decide +kernel) (by decide +kernel)
theorem t_887 : Cond.selects RX7 yX7_set yX7_set ∈ gw_tbl := gw_mk 887 (by decide +kernel) (by decide +kernel)
set_option maxRecDepth 20000 in
theorem t_888 : Cond.code yX7_set cX7_set 4 (some .int) ∈ gw_tbl := gw_mk4 168 rfl rfl
theorem t_889 : Cond.methodLink RX7 87 yX7_asLane ∈ gw_tbl := gw_mk 889 (by decide +kernel) (by decide +kernel)
theorem t_890 : Cond.static yX7_asLane ∈ gw_tbl := gw_mk 890 (by decide +kernel) (by decide +kernel)
set_option maxRecDepth 20000 in
theorem t_891 : Cond.code yX7_asLane cX7_asLane 2 (some .int) ∈ gw_tbl := gw_mk4 171 rfl rfl
theorem t_892 : Cond.methodLink RL 26 yX7_copy ∈ gw_tbl := gw_mk 892 (by decide +kernel) (by decide +kernel)
theorem t_893 : Cond.instanceMethod yX7_copy ∈ gw_tbl := gw_mk 893 (by decide +kernel) (by decide +kernel)
theorem t_894 : Cond.selects RX7 yX7_copy yX7_copy ∈ gw_tbl := gw_mk 894 (by decide +kernel) (by decide +kernel)
set_option maxRecDepth 20000 in
theorem t_895 : Cond.code yX7_copy cX7_copy 7 (some .int) ∈ gw_tbl := gw_mk4 175 rfl rfl
theorem t_896 : Cond.methodLink RL 31 yX7_drop ∈ gw_tbl := gw_mk 896 (by decide +kernel) (by decide +kernel)
theorem t_897 : Cond.instanceMethod yX7_drop ∈ gw_tbl := gw_mk 897 (by decide +kernel) (by decide +kernel)
theorem t_898 : Cond.selects RX7 yX7_drop yX7_drop ∈ gw_tbl := gw_mk 898 (by decide +kernel) (by decide +kernel)
set_option maxRecDepth 20000 in
theorem t_899 : Cond.code yX7_drop cX7_drop 3 (some .int) ∈ gw_tbl := gw_mk4 179 rfl rfl
theorem t_900 : Cond.methodLink RL 35 yX7_feed ∈ gw_tbl := gw_mk 900 (by decide +kernel) (by decide +kernel)
theorem t_901 : Cond.instanceMethod yX7_feed ∈ gw_tbl := gw_mk 901 (by decide +kernel) (by decide +kernel)
theorem t_902 : Cond.selects RX7 yX7_feed yX7_feed ∈ gw_tbl := gw_mk 902 (by decide +kernel) (by decide +kernel)
set_option maxRecDepth 20000 in
theorem t_903 : Cond.code yX7_feed cX7_feed 2 (some .int) ∈ gw_tbl := gw_mk4 183 rfl rfl
theorem t_904 : Cond.constantLong RX7 91 (255) ∈ gw_tbl := gw_mk 904 (by decide +kernel) (by decide +kernel)
theorem t_905 : Cond.constant RX7 96 (-1000003) ∈ gw_tbl := gw_mk 905 (by decide +kernel) (by decide +kernel)
theorem t_906 : Cond.methodLink RL 40 yX7_land ∈ gw_tbl := gw_mk 906 (by decide +kernel) (by decide +kernel)
theorem t_907 : Cond.instanceMethod yX7_land ∈ gw_tbl := gw_mk 907 (by decide +kernel) (by decide +kernel)
theorem t_908 : Cond.selects RX7 yX7_land yX7_land ∈ gw_tbl := gw_mk 908 (by decide +kernel) (by decide +kernel)
set_option maxRecDepth 20000 in
theorem t_909 : Cond.code yX7_land cX7_land 3 (some .int) ∈ gw_tbl := gw_mk4 189 rfl rfl
theorem t_910 : Cond.methodLink RX7 139 yX7_readLand ∈ gw_tbl := gw_mk 910 (by decide +kernel) (by decide +kernel)
theorem t_912 : Cond.instanceMethod yX7_readLand ∈ gw_tbl := gw_mk 912 (by decide +kernel) (by decide +kernel)
set_option maxRecDepth 20000 in
theorem t_913 : Cond.code yX7_readLand cX7_readLand 3 (some .boolean) ∈ gw_tbl := gw_mk4 193 rfl rfl
theorem t_914 : Cond.methodLink RX7 126 yX7_nextToken ∈ gw_tbl := gw_mk 914 (by decide +kernel) (by decide +kernel)
theorem t_916 : Cond.instanceMethod yX7_nextToken ∈ gw_tbl := gw_mk 916 (by decide +kernel) (by decide +kernel)
set_option maxRecDepth 20000 in
theorem t_917 : Cond.code yX7_nextToken cX7_nextToken 1 none ∈ gw_tbl := gw_mk4 197 rfl rfl
theorem t_918 : Cond.constantLong RX7 109 (48) ∈ gw_tbl := gw_mk 918 (by decide +kernel) (by decide +kernel)
theorem t_919 : Cond.constantLong RX7 111 (57) ∈ gw_tbl := gw_mk 919 (by decide +kernel) (by decide +kernel)
theorem t_920 : Cond.constantLong RX7 113 (97) ∈ gw_tbl := gw_mk 920 (by decide +kernel) (by decide +kernel)
theorem t_921 : Cond.constantLong RX7 115 (122) ∈ gw_tbl := gw_mk 921 (by decide +kernel) (by decide +kernel)
theorem t_922 : Cond.methodLink RX7 129 yX7_takes ∈ gw_tbl := gw_mk 922 (by decide +kernel) (by decide +kernel)
theorem t_924 : Cond.instanceMethod yX7_takes ∈ gw_tbl := gw_mk 924 (by decide +kernel) (by decide +kernel)
set_option maxRecDepth 20000 in
theorem t_925 : Cond.code yX7_takes cX7_takes 2 (some .boolean) ∈ gw_tbl := gw_mk4 205 rfl rfl
theorem t_926 : Cond.methodLink RX7 120 yX7_isLetter ∈ gw_tbl := gw_mk 926 (by decide +kernel) (by decide +kernel)
theorem t_928 : Cond.instanceMethod yX7_isLetter ∈ gw_tbl := gw_mk 928 (by decide +kernel) (by decide +kernel)
set_option maxRecDepth 20000 in
theorem t_929 : Cond.code yX7_isLetter cX7_isLetter 2 (some .boolean) ∈ gw_tbl := gw_mk4 209 rfl rfl
theorem t_930 : Cond.methodLink RX7 123 yX7_faults ∈ gw_tbl := gw_mk 930 (by decide +kernel) (by decide +kernel)
theorem t_932 : Cond.instanceMethod yX7_faults ∈ gw_tbl := gw_mk 932 (by decide +kernel) (by decide +kernel)
set_option maxRecDepth 20000 in
theorem t_933 : Cond.code yX7_faults cX7_faults 2 (some .boolean) ∈ gw_tbl := gw_mk4 213 rfl rfl
theorem t_934 : Cond.methodLink RX7 132 yX7_takesNumber ∈ gw_tbl := gw_mk 934 (by decide +kernel) (by decide +kernel)
theorem t_936 : Cond.instanceMethod yX7_takesNumber ∈ gw_tbl := gw_mk 936 (by decide +kernel) (by decide +kernel)
set_option maxRecDepth 20000 in
theorem t_937 : Cond.code yX7_takesNumber cX7_takesNumber 5 (some .boolean) ∈ gw_tbl := gw_mk4 217 rfl rfl
theorem t_938 : Cond.methodLink RX7 136 yX7_readThing ∈ gw_tbl := gw_mk 938 (by decide +kernel) (by decide +kernel)
theorem t_940 : Cond.instanceMethod yX7_readThing ∈ gw_tbl := gw_mk 940 (by decide +kernel) (by decide +kernel)
set_option maxRecDepth 20000 in
theorem t_941 : Cond.code yX7_readThing cX7_readThing 4 (some .boolean) ∈ gw_tbl := gw_mk4 221 rfl rfl
theorem t_942 : Cond.constant RX7 146 (-1000100) ∈ gw_tbl := gw_mk 942 (by decide +kernel) (by decide +kernel)
theorem t_943 : Cond.methodLink RL 44 yX7_fault ∈ gw_tbl := gw_mk 943 (by decide +kernel) (by decide +kernel)
theorem t_944 : Cond.instanceMethod yX7_fault ∈ gw_tbl := gw_mk 944 (by decide +kernel) (by decide +kernel)
theorem t_945 : Cond.selects RX7 yX7_fault yX7_fault ∈ gw_tbl := gw_mk 945 (by decide +kernel) (by decide +kernel)
set_option maxRecDepth 20000 in
theorem t_946 : Cond.code yX7_fault cX7_fault 1 (some .int) ∈ gw_tbl := gw_mk4 226 rfl rfl
theorem t_947 : Cond.methodLink RL 48 yX7_undo ∈ gw_tbl := gw_mk 947 (by decide +kernel) (by decide +kernel)
theorem t_948 : Cond.instanceMethod yX7_undo ∈ gw_tbl := gw_mk 948 (by decide +kernel) (by decide +kernel)
theorem t_949 : Cond.selects RX7 yX7_undo yX7_undo ∈ gw_tbl := gw_mk 949 (by decide +kernel) (by decide +kernel)
set_option maxRecDepth 20000 in
theorem t_950 : Cond.code yX7_undo cX7_undo 2 (some .int) ∈ gw_tbl := gw_mk4 230 rfl rfl
theorem t_951 : Cond.constant RX7 167 (-1000002) ∈ gw_tbl := gw_mk 951 (by decide +kernel) (by decide +kernel)
theorem t_952 : Cond.methodLink RL 52 yX7_days ∈ gw_tbl := gw_mk 952 (by decide +kernel) (by decide +kernel)
theorem t_953 : Cond.instanceMethod yX7_days ∈ gw_tbl := gw_mk 953 (by decide +kernel) (by decide +kernel)
theorem t_954 : Cond.selects RX7 yX7_days yX7_days ∈ gw_tbl := gw_mk 954 (by decide +kernel) (by decide +kernel)
set_option maxRecDepth 20000 in
theorem t_955 : Cond.code yX7_days cX7_days 3 (some .int) ∈ gw_tbl := gw_mk4 235 rfl rfl
theorem t_956 : Cond.constantLong RX7 168 (24) ∈ gw_tbl := gw_mk 956 (by decide +kernel) (by decide +kernel)
theorem t_957 : Cond.methodLink RX7 170 yX7_note ∈ gw_tbl := gw_mk 957 (by decide +kernel) (by decide +kernel)
theorem t_959 : Cond.instanceMethod yX7_note ∈ gw_tbl := gw_mk 959 (by decide +kernel) (by decide +kernel)
set_option maxRecDepth 20000 in
theorem t_960 : Cond.code yX7_note cX7_note 2 none ∈ gw_tbl := gw_mk5 0 rfl rfl
theorem t_961 : Cond.methodLink RX7 173 yX7_oneDay ∈ gw_tbl := gw_mk 961 (by decide +kernel) (by decide +kernel)
theorem t_963 : Cond.instanceMethod yX7_oneDay ∈ gw_tbl := gw_mk 963 (by decide +kernel) (by decide +kernel)
set_option maxRecDepth 20000 in
theorem t_964 : Cond.code yX7_oneDay cX7_oneDay 2 none ∈ gw_tbl := gw_mk5 4 rfl rfl
theorem t_965 : Cond.methodLink RX7 157 yX7_changed ∈ gw_tbl := gw_mk 965 (by decide +kernel) (by decide +kernel)
theorem t_967 : Cond.instanceMethod yX7_changed ∈ gw_tbl := gw_mk 967 (by decide +kernel) (by decide +kernel)
set_option maxRecDepth 20000 in
theorem t_968 : Cond.code yX7_changed cX7_changed 6 (some .int) ∈ gw_tbl := gw_mk5 8 rfl rfl
theorem t_969 : Cond.methodLink RX7 154 yX7_bounded ∈ gw_tbl := gw_mk 969 (by decide +kernel) (by decide +kernel)
theorem t_970 : Cond.static yX7_bounded ∈ gw_tbl := gw_mk 970 (by decide +kernel) (by decide +kernel)
set_option maxRecDepth 20000 in
theorem t_971 : Cond.code yX7_bounded cX7_bounded 1 (some .int) ∈ gw_tbl := gw_mk5 11 rfl rfl
theorem t_972 : Cond.methodLink RX7 176 yX7_allOff ∈ gw_tbl := gw_mk 972 (by decide +kernel) (by decide +kernel)
theorem t_974 : Cond.instanceMethod yX7_allOff ∈ gw_tbl := gw_mk 974 (by decide +kernel) (by decide +kernel)
set_option maxRecDepth 20000 in
theorem t_975 : Cond.code yX7_allOff cX7_allOff 3 (some .int) ∈ gw_tbl := gw_mk5 15 rfl rfl
theorem t_976 : Cond.methodLink RX7 164 yX7_off ∈ gw_tbl := gw_mk 976 (by decide +kernel) (by decide +kernel)
theorem t_978 : Cond.instanceMethod yX7_off ∈ gw_tbl := gw_mk 978 (by decide +kernel) (by decide +kernel)
set_option maxRecDepth 20000 in
theorem t_979 : Cond.code yX7_off cX7_off 2 (some .int) ∈ gw_tbl := gw_mk5 19 rfl rfl
theorem t_980 : Cond.methodLink RX7 161 yX7_differ ∈ gw_tbl := gw_mk 980 (by decide +kernel) (by decide +kernel)
theorem t_982 : Cond.instanceMethod yX7_differ ∈ gw_tbl := gw_mk 982 (by decide +kernel) (by decide +kernel)
set_option maxRecDepth 20000 in
theorem t_983 : Cond.code yX7_differ cX7_differ 4 (some .int) ∈ gw_tbl := gw_mk5 23 rfl rfl
theorem t_984 : Cond.methodLink RL 56 yX7_putBack ∈ gw_tbl := gw_mk 984 (by decide +kernel) (by decide +kernel)
theorem t_985 : Cond.instanceMethod yX7_putBack ∈ gw_tbl := gw_mk 985 (by decide +kernel) (by decide +kernel)
theorem t_986 : Cond.selects RX7 yX7_putBack yX7_putBack ∈ gw_tbl := gw_mk 986 (by decide +kernel) (by decide +kernel)
set_option maxRecDepth 20000 in
theorem t_987 : Cond.code yX7_putBack cX7_putBack 3 (some .int) ∈ gw_tbl := gw_mk5 27 rfl rfl
theorem t_988 : Cond.methodLink RX7 180 yX7_isThing ∈ gw_tbl := gw_mk 988 (by decide +kernel) (by decide +kernel)
theorem t_990 : Cond.instanceMethod yX7_isThing ∈ gw_tbl := gw_mk 990 (by decide +kernel) (by decide +kernel)
set_option maxRecDepth 20000 in
theorem t_991 : Cond.code yX7_isThing cX7_isThing 2 (some .boolean) ∈ gw_tbl := gw_mk5 31 rfl rfl
theorem t_992 : Cond.methodLink RX7 183 yX7_isPeople ∈ gw_tbl := gw_mk 992 (by decide +kernel) (by decide +kernel)
theorem t_994 : Cond.instanceMethod yX7_isPeople ∈ gw_tbl := gw_mk 994 (by decide +kernel) (by decide +kernel)
set_option maxRecDepth 20000 in
theorem t_995 : Cond.code yX7_isPeople cX7_isPeople 2 (some .boolean) ∈ gw_tbl := gw_mk5 35 rfl rfl
theorem t_996 : Cond.methodLink RX7 186 yX7_price ∈ gw_tbl := gw_mk 996 (by decide +kernel) (by decide +kernel)
theorem t_998 : Cond.instanceMethod yX7_price ∈ gw_tbl := gw_mk 998 (by decide +kernel) (by decide +kernel)
set_option maxRecDepth 20000 in
theorem t_999 : Cond.code yX7_price cX7_price 3 (some .int) ∈ gw_tbl := gw_mk5 39 rfl rfl
theorem t_1000 : Cond.methodLink RL 61 yX7_send ∈ gw_tbl := gw_mk 1000 (by decide +kernel) (by decide +kernel)
theorem t_1001 : Cond.instanceMethod yX7_send ∈ gw_tbl := gw_mk 1001 (by decide +kernel) (by decide +kernel)
theorem t_1002 : Cond.selects RX7 yX7_send yX7_send ∈ gw_tbl := gw_mk 1002 (by decide +kernel) (by decide +kernel)
set_option maxRecDepth 20000 in
theorem t_1003 : Cond.code yX7_send cX7_send 4 (some .int) ∈ gw_tbl := gw_mk5 43 rfl rfl
theorem t_1004 : Cond.methodLink RL 65 yX7_allow ∈ gw_tbl := gw_mk 1004 (by decide +kernel) (by decide +kernel)
theorem t_1005 : Cond.instanceMethod yX7_allow ∈ gw_tbl := gw_mk 1005 (by decide +kernel) (by decide +kernel)
theorem t_1006 : Cond.selects RX7 yX7_allow yX7_allow ∈ gw_tbl := gw_mk 1006 (by decide +kernel) (by decide +kernel)
set_option maxRecDepth 20000 in
theorem t_1007 : Cond.code yX7_allow cX7_allow 3 (some .int) ∈ gw_tbl := gw_mk5 47 rfl rfl
theorem t_1008 : Cond.constantLong RX7 189 (9) ∈ gw_tbl := gw_mk 1008 (by decide +kernel) (by decide +kernel)
theorem t_1009 : Cond.methodLink RL 69 yX7_thing ∈ gw_tbl := gw_mk 1009 (by decide +kernel) (by decide +kernel)
theorem t_1010 : Cond.instanceMethod yX7_thing ∈ gw_tbl := gw_mk 1010 (by decide +kernel) (by decide +kernel)
theorem t_1011 : Cond.selects RX7 yX7_thing yX7_thing ∈ gw_tbl := gw_mk 1011 (by decide +kernel) (by decide +kernel)
set_option maxRecDepth 20000 in
theorem t_1012 : Cond.code yX7_thing cX7_thing 3 (some .int) ∈ gw_tbl := gw_mk5 52 rfl rfl
theorem t_1013 : Cond.methodLink RX7 191 yX7_isAlike ∈ gw_tbl := gw_mk 1013 (by decide +kernel) (by decide +kernel)
theorem t_1015 : Cond.instanceMethod yX7_isAlike ∈ gw_tbl := gw_mk 1015 (by decide +kernel) (by decide +kernel)
set_option maxRecDepth 20000 in
theorem t_1016 : Cond.code yX7_isAlike cX7_isAlike 2 (some .boolean) ∈ gw_tbl := gw_mk5 56 rfl rfl
theorem t_1017 : Cond.constant RX7 194 (-1000000) ∈ gw_tbl := gw_mk 1017 (by decide +kernel) (by decide +kernel)
theorem t_1018 : Cond.methodLink RL 73 yX7_holds ∈ gw_tbl := gw_mk 1018 (by decide +kernel) (by decide +kernel)
theorem t_1019 : Cond.instanceMethod yX7_holds ∈ gw_tbl := gw_mk 1019 (by decide +kernel) (by decide +kernel)
theorem t_1020 : Cond.selects RX7 yX7_holds yX7_holds ∈ gw_tbl := gw_mk 1020 (by decide +kernel) (by decide +kernel)
set_option maxRecDepth 20000 in
theorem t_1021 : Cond.code yX7_holds cX7_holds 4 (some .int) ∈ gw_tbl := gw_mk5 61 rfl rfl
theorem t_1022 : Cond.methodLink RL 77 yX7_ahead ∈ gw_tbl := gw_mk 1022 (by decide +kernel) (by decide +kernel)
theorem t_1023 : Cond.instanceMethod yX7_ahead ∈ gw_tbl := gw_mk 1023 (by decide +kernel) (by decide +kernel)
theorem t_1024 : Cond.selects RX7 yX7_ahead yX7_ahead ∈ gw_tbl := gw_mk 1024 (by decide +kernel) (by decide +kernel)
set_option maxRecDepth 20000 in
theorem t_1025 : Cond.code yX7_ahead cX7_ahead 5 (some .int) ∈ gw_tbl := gw_mk5 65 rfl rfl
theorem t_1026 : Cond.constantLong RX7 195 (60) ∈ gw_tbl := gw_mk 1026 (by decide +kernel) (by decide +kernel)
theorem t_1027 : Cond.methodLink RL 81 yX7_offAhead ∈ gw_tbl := gw_mk 1027 (by decide +kernel) (by decide +kernel)
theorem t_1028 : Cond.instanceMethod yX7_offAhead ∈ gw_tbl := gw_mk 1028 (by decide +kernel) (by decide +kernel)
theorem t_1029 : Cond.selects RX7 yX7_offAhead yX7_offAhead ∈ gw_tbl := gw_mk 1029 (by decide +kernel) (by decide +kernel)
set_option maxRecDepth 20000 in
theorem t_1030 : Cond.code yX7_offAhead cX7_offAhead 3 (some .int) ∈ gw_tbl := gw_mk5 70 rfl rfl
theorem t_1031 : Cond.methodLink RX7 197 yX7_putAside ∈ gw_tbl := gw_mk 1031 (by decide +kernel) (by decide +kernel)
theorem t_1033 : Cond.instanceMethod yX7_putAside ∈ gw_tbl := gw_mk 1033 (by decide +kernel) (by decide +kernel)
set_option maxRecDepth 20000 in
theorem t_1034 : Cond.code yX7_putAside cX7_putAside 2 none ∈ gw_tbl := gw_mk5 74 rfl rfl
theorem t_1035 : Cond.methodLink RX7 200 yX7_takeBack ∈ gw_tbl := gw_mk 1035 (by decide +kernel) (by decide +kernel)
theorem t_1037 : Cond.instanceMethod yX7_takeBack ∈ gw_tbl := gw_mk 1037 (by decide +kernel) (by decide +kernel)
set_option maxRecDepth 20000 in
theorem t_1038 : Cond.code yX7_takeBack cX7_takeBack 2 none ∈ gw_tbl := gw_mk5 78 rfl rfl
theorem t_1039 : Cond.methodLink RL 85 yX7_lost ∈ gw_tbl := gw_mk 1039 (by decide +kernel) (by decide +kernel)
theorem t_1040 : Cond.instanceMethod yX7_lost ∈ gw_tbl := gw_mk 1040 (by decide +kernel) (by decide +kernel)
theorem t_1041 : Cond.selects RX7 yX7_lost yX7_lost ∈ gw_tbl := gw_mk 1041 (by decide +kernel) (by decide +kernel)
set_option maxRecDepth 20000 in
theorem t_1042 : Cond.code yX7_lost cX7_lost 5 (some .int) ∈ gw_tbl := gw_mk5 82 rfl rfl
theorem t_1043 : Cond.methodLink RL 89 yX7_cheapest ∈ gw_tbl := gw_mk 1043 (by decide +kernel) (by decide +kernel)
theorem t_1044 : Cond.instanceMethod yX7_cheapest ∈ gw_tbl := gw_mk 1044 (by decide +kernel) (by decide +kernel)
theorem t_1045 : Cond.selects RX7 yX7_cheapest yX7_cheapest ∈ gw_tbl := gw_mk 1045 (by decide +kernel) (by decide +kernel)
set_option maxRecDepth 20000 in
theorem t_1046 : Cond.code yX7_cheapest cX7_cheapest 7 (some .int) ∈ gw_tbl := gw_mk5 86 rfl rfl
theorem t_1047 : Cond.constant RX7 203 (1000000) ∈ gw_tbl := gw_mk 1047 (by decide +kernel) (by decide +kernel)
theorem t_1048 : Cond.methodLink RX7 208 yX7_nextDay ∈ gw_tbl := gw_mk 1048 (by decide +kernel) (by decide +kernel)
theorem t_1050 : Cond.instanceMethod yX7_nextDay ∈ gw_tbl := gw_mk 1050 (by decide +kernel) (by decide +kernel)
set_option maxRecDepth 20000 in
theorem t_1051 : Cond.code yX7_nextDay cX7_nextDay 5 none ∈ gw_tbl := gw_mk5 91 rfl rfl
theorem t_1052 : Cond.methodLink RX7 204 yX7_comes ∈ gw_tbl := gw_mk 1052 (by decide +kernel) (by decide +kernel)
theorem t_1054 : Cond.instanceMethod yX7_comes ∈ gw_tbl := gw_mk 1054 (by decide +kernel) (by decide +kernel)
set_option maxRecDepth 20000 in
theorem t_1055 : Cond.code yX7_comes cX7_comes 4 none ∈ gw_tbl := gw_mk5 95 rfl rfl
theorem t_1056 : Cond.methodLink RL 93 yX7_match ∈ gw_tbl := gw_mk 1056 (by decide +kernel) (by decide +kernel)
theorem t_1057 : Cond.instanceMethod yX7_match ∈ gw_tbl := gw_mk 1057 (by decide +kernel) (by decide +kernel)
theorem t_1058 : Cond.selects RX7 yX7_match yX7_match ∈ gw_tbl := gw_mk 1058 (by decide +kernel) (by decide +kernel)
set_option maxRecDepth 20000 in
theorem t_1059 : Cond.code yX7_match cX7_match 7 (some .int) ∈ gw_tbl := gw_mk5 99 rfl rfl
theorem t_1060 : Cond.constantLong RX7 216 (-1) ∈ gw_tbl := gw_mk 1060 (by decide +kernel) (by decide +kernel)
theorem t_1061 : Cond.methodLink RX7 218 yX7_offBy ∈ gw_tbl := gw_mk 1061 (by decide +kernel) (by decide +kernel)
theorem t_1063 : Cond.instanceMethod yX7_offBy ∈ gw_tbl := gw_mk 1063 (by decide +kernel) (by decide +kernel)
set_option maxRecDepth 20000 in
theorem t_1064 : Cond.code yX7_offBy cX7_offBy 8 (some .int) ∈ gw_tbl := gw_mk5 104 rfl rfl
theorem t_1065 : Cond.methodLink RX7 212 yX7_has ∈ gw_tbl := gw_mk 1065 (by decide +kernel) (by decide +kernel)
theorem t_1066 : Cond.static yX7_has ∈ gw_tbl := gw_mk 1066 (by decide +kernel) (by decide +kernel)
set_option maxRecDepth 20000 in
theorem t_1067 : Cond.code yX7_has cX7_has 2 (some .boolean) ∈ gw_tbl := gw_mk5 107 rfl rfl
theorem t_1068 : Cond.methodLink RL 97 yX7_gain ∈ gw_tbl := gw_mk 1068 (by decide +kernel) (by decide +kernel)
theorem t_1069 : Cond.instanceMethod yX7_gain ∈ gw_tbl := gw_mk 1069 (by decide +kernel) (by decide +kernel)
theorem t_1070 : Cond.selects RX7 yX7_gain yX7_gain ∈ gw_tbl := gw_mk 1070 (by decide +kernel) (by decide +kernel)
set_option maxRecDepth 20000 in
theorem t_1071 : Cond.code yX7_gain cX7_gain 4 (some .int) ∈ gw_tbl := gw_mk5 111 rfl rfl
theorem t_1072 : Cond.methodLink RL 101 yX7_seldom ∈ gw_tbl := gw_mk 1072 (by decide +kernel) (by decide +kernel)
theorem t_1073 : Cond.instanceMethod yX7_seldom ∈ gw_tbl := gw_mk 1073 (by decide +kernel) (by decide +kernel)
theorem t_1074 : Cond.selects RX7 yX7_seldom yX7_seldom ∈ gw_tbl := gw_mk 1074 (by decide +kernel) (by decide +kernel)
set_option maxRecDepth 20000 in
theorem t_1075 : Cond.code yX7_seldom cX7_seldom 5 (some .int) ∈ gw_tbl := gw_mk5 115 rfl rfl
theorem t_1076 : Cond.methodLink RX7 221 yX7_isSeldom ∈ gw_tbl := gw_mk 1076 (by decide +kernel) (by decide +kernel)
theorem t_1078 : Cond.instanceMethod yX7_isSeldom ∈ gw_tbl := gw_mk 1078 (by decide +kernel) (by decide +kernel)
set_option maxRecDepth 20000 in
theorem t_1079 : Cond.code yX7_isSeldom cX7_isSeldom 7 (some .boolean) ∈ gw_tbl := gw_mk5 119 rfl rfl
theorem t_1080 : Cond.methodLink RL 105 yX7_round ∈ gw_tbl := gw_mk 1080 (by decide +kernel) (by decide +kernel)
theorem t_1081 : Cond.instanceMethod yX7_round ∈ gw_tbl := gw_mk 1081 (by decide +kernel) (by decide +kernel)
theorem t_1082 : Cond.selects RX7 yX7_round yX7_round ∈ gw_tbl := gw_mk 1082 (by decide +kernel) (by decide +kernel)
set_option maxRecDepth 20000 in
theorem t_1083 : Cond.code yX7_round cX7_round 3 (some .int) ∈ gw_tbl := gw_mk5 123 rfl rfl
theorem t_1084 : Cond.methodLink RX7 225 yX7_isTurn ∈ gw_tbl := gw_mk 1084 (by decide +kernel) (by decide +kernel)
theorem t_1086 : Cond.instanceMethod yX7_isTurn ∈ gw_tbl := gw_mk 1086 (by decide +kernel) (by decide +kernel)
set_option maxRecDepth 20000 in
theorem t_1087 : Cond.code yX7_isTurn cX7_isTurn 4 (some .boolean) ∈ gw_tbl := gw_mk5 127 rfl rfl
theorem t_1088 : Cond.methodLink RX7 228 yX7_isAsNow ∈ gw_tbl := gw_mk 1088 (by decide +kernel) (by decide +kernel)
theorem t_1090 : Cond.instanceMethod yX7_isAsNow ∈ gw_tbl := gw_mk 1090 (by decide +kernel) (by decide +kernel)
set_option maxRecDepth 20000 in
theorem t_1091 : Cond.code yX7_isAsNow cX7_isAsNow 3 (some .boolean) ∈ gw_tbl := gw_mk5 131 rfl rfl
theorem t_1092 : Cond.methodLink RL 109 yX7_stealth ∈ gw_tbl := gw_mk 1092 (by decide +kernel) (by decide +kernel)
theorem t_1093 : Cond.instanceMethod yX7_stealth ∈ gw_tbl := gw_mk 1093 (by decide +kernel) (by decide +kernel)
theorem t_1094 : Cond.selects RX7 yX7_stealth yX7_stealth ∈ gw_tbl := gw_mk 1094 (by decide +kernel) (by decide +kernel)
set_option maxRecDepth 20000 in
theorem t_1095 : Cond.code yX7_stealth cX7_stealth 7 (some .int) ∈ gw_tbl := gw_mk5 135 rfl rfl
theorem t_1096 : Cond.constantLong RX7 231 (12) ∈ gw_tbl := gw_mk 1096 (by decide +kernel) (by decide +kernel)
theorem t_1097 : Cond.methodLink RX7 233 yX7_lacks ∈ gw_tbl := gw_mk 1097 (by decide +kernel) (by decide +kernel)
theorem t_1099 : Cond.instanceMethod yX7_lacks ∈ gw_tbl := gw_mk 1099 (by decide +kernel) (by decide +kernel)
set_option maxRecDepth 20000 in
theorem t_1100 : Cond.code yX7_lacks cX7_lacks 4 (some .int) ∈ gw_tbl := gw_mk5 140 rfl rfl
theorem t_1101 : Cond.methodLink RX7 236 yX7_isStealth ∈ gw_tbl := gw_mk 1101 (by decide +kernel) (by decide +kernel)
theorem t_1103 : Cond.instanceMethod yX7_isStealth ∈ gw_tbl := gw_mk 1103 (by decide +kernel) (by decide +kernel)
set_option maxRecDepth 20000 in
theorem t_1104 : Cond.code yX7_isStealth cX7_isStealth 6 (some .boolean) ∈ gw_tbl := gw_mk5 144 rfl rfl
theorem t_1105 : Cond.methodLink RL 114 yX7_who ∈ gw_tbl := gw_mk 1105 (by decide +kernel) (by decide +kernel)
theorem t_1106 : Cond.instanceMethod yX7_who ∈ gw_tbl := gw_mk 1106 (by decide +kernel) (by decide +kernel)
theorem t_1107 : Cond.selects RX7 yX7_who yX7_who ∈ gw_tbl := gw_mk 1107 (by decide +kernel) (by decide +kernel)
set_option maxRecDepth 20000 in
theorem t_1108 : Cond.code yX7_who cX7_who 12 (some .int) ∈ gw_tbl := gw_mk5 148 rfl rfl
theorem t_1109 : Cond.methodLink RL 118 yX7_leastMay ∈ gw_tbl := gw_mk 1109 (by decide +kernel) (by decide +kernel)
theorem t_1110 : Cond.instanceMethod yX7_leastMay ∈ gw_tbl := gw_mk 1110 (by decide +kernel) (by decide +kernel)
theorem t_1111 : Cond.selects RX7 yX7_leastMay yX7_leastMay ∈ gw_tbl := gw_mk 1111 (by decide +kernel) (by decide +kernel)
set_option maxRecDepth 20000 in
theorem t_1112 : Cond.code yX7_leastMay cX7_leastMay 5 (some .int) ∈ gw_tbl := gw_mk5 152 rfl rfl
theorem t_1113 : Cond.methodLink RL 123 yX7_odds ∈ gw_tbl := gw_mk 1113 (by decide +kernel) (by decide +kernel)
theorem t_1114 : Cond.instanceMethod yX7_odds ∈ gw_tbl := gw_mk 1114 (by decide +kernel) (by decide +kernel)
theorem t_1115 : Cond.selects RX7 yX7_odds yX7_odds ∈ gw_tbl := gw_mk 1115 (by decide +kernel) (by decide +kernel)
set_option maxRecDepth 20000 in
theorem t_1116 : Cond.code yX7_odds cX7_odds 15 (some .long) ∈ gw_tbl := gw_mk5 156 rfl rfl
theorem t_1117 : Cond.constantLong RX7 239 (10) ∈ gw_tbl := gw_mk 1117 (by decide +kernel) (by decide +kernel)
theorem t_1118 : Cond.constantLong RX7 241 (-1000001) ∈ gw_tbl := gw_mk 1118 (by decide +kernel) (by decide +kernel)
theorem t_1119 : Cond.constantLong RX7 243 (-1000002) ∈ gw_tbl := gw_mk 1119 (by decide +kernel) (by decide +kernel)
theorem t_1120 : Cond.methodLink RL 127 yX7_store ∈ gw_tbl := gw_mk 1120 (by decide +kernel) (by decide +kernel)
theorem t_1121 : Cond.instanceMethod yX7_store ∈ gw_tbl := gw_mk 1121 (by decide +kernel) (by decide +kernel)
theorem t_1122 : Cond.selects RX7 yX7_store yX7_store ∈ gw_tbl := gw_mk 1122 (by decide +kernel) (by decide +kernel)
set_option maxRecDepth 20000 in
theorem t_1123 : Cond.code yX7_store cX7_store 5 (some .int) ∈ gw_tbl := gw_mk5 163 rfl rfl
theorem t_1124 : Cond.methodLink RL 131 yX7_drawn ∈ gw_tbl := gw_mk 1124 (by decide +kernel) (by decide +kernel)
theorem t_1125 : Cond.instanceMethod yX7_drawn ∈ gw_tbl := gw_mk 1125 (by decide +kernel) (by decide +kernel)
theorem t_1126 : Cond.selects RX7 yX7_drawn yX7_drawn ∈ gw_tbl := gw_mk 1126 (by decide +kernel) (by decide +kernel)
set_option maxRecDepth 20000 in
theorem t_1127 : Cond.code yX7_drawn cX7_drawn 9 (some .int) ∈ gw_tbl := gw_mk5 167 rfl rfl
theorem t_1128 : Cond.constantLong RX7 245 (999999) ∈ gw_tbl := gw_mk 1128 (by decide +kernel) (by decide +kernel)
theorem t_1129 : Cond.constantLong RX7 247 (16807) ∈ gw_tbl := gw_mk 1129 (by decide +kernel) (by decide +kernel)
theorem t_1130 : Cond.constantLong RX7 249 (2147483647) ∈ gw_tbl := gw_mk 1130 (by decide +kernel) (by decide +kernel)
theorem t_1131 : Cond.methodLink RL 135 yX7_image ∈ gw_tbl := gw_mk 1131 (by decide +kernel) (by decide +kernel)
theorem t_1132 : Cond.instanceMethod yX7_image ∈ gw_tbl := gw_mk 1132 (by decide +kernel) (by decide +kernel)
theorem t_1133 : Cond.selects RX7 yX7_image yX7_image ∈ gw_tbl := gw_mk 1133 (by decide +kernel) (by decide +kernel)
set_option maxRecDepth 20000 in
theorem t_1134 : Cond.code yX7_image cX7_image 3 (some .int) ∈ gw_tbl := gw_mk5 174 rfl rfl
theorem t_1135 : Cond.methodLink RL 139 yX7_restore ∈ gw_tbl := gw_mk 1135 (by decide +kernel) (by decide +kernel)
theorem t_1136 : Cond.instanceMethod yX7_restore ∈ gw_tbl := gw_mk 1136 (by decide +kernel) (by decide +kernel)
theorem t_1137 : Cond.selects RX7 yX7_restore yX7_restore ∈ gw_tbl := gw_mk 1137 (by decide +kernel) (by decide +kernel)
set_option maxRecDepth 20000 in
theorem t_1138 : Cond.code yX7_restore cX7_restore 3 (some .int) ∈ gw_tbl := gw_mk5 178 rfl rfl
theorem t_1139 : Cond.methodLink RL 143 yX7_kind ∈ gw_tbl := gw_mk 1139 (by decide +kernel) (by decide +kernel)
theorem t_1140 : Cond.instanceMethod yX7_kind ∈ gw_tbl := gw_mk 1140 (by decide +kernel) (by decide +kernel)
theorem t_1141 : Cond.selects RX7 yX7_kind yX7_kind ∈ gw_tbl := gw_mk 1141 (by decide +kernel) (by decide +kernel)
set_option maxRecDepth 20000 in
theorem t_1142 : Cond.code yX7_kind cX7_kind 2 (some .int) ∈ gw_tbl := gw_mk5 182 rfl rfl
theorem t_1143 : Cond.methodLink RL 147 yX7_as ∈ gw_tbl := gw_mk 1143 (by decide +kernel) (by decide +kernel)
theorem t_1144 : Cond.instanceMethod yX7_as ∈ gw_tbl := gw_mk 1144 (by decide +kernel) (by decide +kernel)
theorem t_1145 : Cond.selects RX7 yX7_as yX7_as ∈ gw_tbl := gw_mk 1145 (by decide +kernel) (by decide +kernel)
set_option maxRecDepth 20000 in
theorem t_1146 : Cond.code yX7_as cX7_as 3 (some .int) ∈ gw_tbl := gw_mk5 186 rfl rfl
theorem t_1147 : Cond.constantLong RX7 251 (5) ∈ gw_tbl := gw_mk 1147 (by decide +kernel) (by decide +kernel)
theorem t_1148 : Cond.methodLink RX7 253 yX7_isKind ∈ gw_tbl := gw_mk 1148 (by decide +kernel) (by decide +kernel)
theorem t_1149 : Cond.static yX7_isKind ∈ gw_tbl := gw_mk 1149 (by decide +kernel) (by decide +kernel)
set_option maxRecDepth 20000 in
theorem t_1150 : Cond.code yX7_isKind cX7_isKind 2 (some .boolean) ∈ gw_tbl := gw_mk5 190 rfl rfl
theorem t_1151 : Cond.methodLink RL 151 yX7_ask ∈ gw_tbl := gw_mk 1151 (by decide +kernel) (by decide +kernel)
theorem t_1152 : Cond.instanceMethod yX7_ask ∈ gw_tbl := gw_mk 1152 (by decide +kernel) (by decide +kernel)
theorem t_1153 : Cond.selects RX7 yX7_ask yX7_ask ∈ gw_tbl := gw_mk 1153 (by decide +kernel) (by decide +kernel)
set_option maxRecDepth 20000 in
theorem t_1154 : Cond.code yX7_ask cX7_ask 3 (some .int) ∈ gw_tbl := gw_mk5 194 rfl rfl
theorem t_1155 : Cond.methodLink RX7 281 yX7_sizeOf ∈ gw_tbl := gw_mk 1155 (by decide +kernel) (by decide +kernel)
theorem t_1157 : Cond.instanceMethod yX7_sizeOf ∈ gw_tbl := gw_mk 1157 (by decide +kernel) (by decide +kernel)
set_option maxRecDepth 20000 in
theorem t_1158 : Cond.code yX7_sizeOf cX7_sizeOf 3 (some .int) ∈ gw_tbl := gw_mk5 198 rfl rfl
theorem t_1159 : Cond.methodLink RX7 259 yX7_begin ∈ gw_tbl := gw_mk 1159 (by decide +kernel) (by decide +kernel)
theorem t_1161 : Cond.instanceMethod yX7_begin ∈ gw_tbl := gw_mk 1161 (by decide +kernel) (by decide +kernel)
set_option maxRecDepth 20000 in
theorem t_1162 : Cond.code yX7_begin cX7_begin 2 none ∈ gw_tbl := gw_mk5 202 rfl rfl
theorem t_1163 : Cond.methodLink RX7 278 yX7_growingSize ∈ gw_tbl := gw_mk 1163 (by decide +kernel) (by decide +kernel)
theorem t_1165 : Cond.instanceMethod yX7_growingSize ∈ gw_tbl := gw_mk 1165 (by decide +kernel) (by decide +kernel)
set_option maxRecDepth 20000 in
theorem t_1166 : Cond.code yX7_growingSize cX7_growingSize 3 (some .int) ∈ gw_tbl := gw_mk5 206 rfl rfl
theorem t_1167 : Cond.methodLink RX7 263 yX7_lent ∈ gw_tbl := gw_mk 1167 (by decide +kernel) (by decide +kernel)
theorem t_1169 : Cond.instanceMethod yX7_lent ∈ gw_tbl := gw_mk 1169 (by decide +kernel) (by decide +kernel)
set_option maxRecDepth 20000 in
theorem t_1170 : Cond.code yX7_lent cX7_lent 3 (some .int) ∈ gw_tbl := gw_mk5 210 rfl rfl
theorem t_1171 : Cond.methodLink RX7 275 yX7_markOf ∈ gw_tbl := gw_mk 1171 (by decide +kernel) (by decide +kernel)
theorem t_1173 : Cond.instanceMethod yX7_markOf ∈ gw_tbl := gw_mk 1173 (by decide +kernel) (by decide +kernel)
set_option maxRecDepth 20000 in
theorem t_1174 : Cond.code yX7_markOf cX7_markOf 4 (some .int) ∈ gw_tbl := gw_mk5 214 rfl rfl
theorem t_1175 : Cond.methodLink RX7 269 yX7_growingMark ∈ gw_tbl := gw_mk 1175 (by decide +kernel) (by decide +kernel)
theorem t_1177 : Cond.instanceMethod yX7_growingMark ∈ gw_tbl := gw_mk 1177 (by decide +kernel) (by decide +kernel)
set_option maxRecDepth 20000 in
theorem t_1178 : Cond.code yX7_growingMark cX7_growingMark 2 (some .int) ∈ gw_tbl := gw_mk5 218 rfl rfl
theorem t_1179 : Cond.methodLink RX7 272 yX7_sizeOfPerson ∈ gw_tbl := gw_mk 1179 (by decide +kernel) (by decide +kernel)
theorem t_1181 : Cond.instanceMethod yX7_sizeOfPerson ∈ gw_tbl := gw_mk 1181 (by decide +kernel) (by decide +kernel)
set_option maxRecDepth 20000 in
theorem t_1182 : Cond.code yX7_sizeOfPerson cX7_sizeOfPerson 2 (some .int) ∈ gw_tbl := gw_mk5 222 rfl rfl
theorem t_1183 : Cond.methodLink RX7 266 yX7_personSize ∈ gw_tbl := gw_mk 1183 (by decide +kernel) (by decide +kernel)
theorem t_1185 : Cond.instanceMethod yX7_personSize ∈ gw_tbl := gw_mk 1185 (by decide +kernel) (by decide +kernel)
set_option maxRecDepth 20000 in
theorem t_1186 : Cond.code yX7_personSize cX7_personSize 2 (some .int) ∈ gw_tbl := gw_mk5 226 rfl rfl
theorem t_1187 : Cond.methodLink RL 155 yX7_trace ∈ gw_tbl := gw_mk 1187 (by decide +kernel) (by decide +kernel)
theorem t_1188 : Cond.instanceMethod yX7_trace ∈ gw_tbl := gw_mk 1188 (by decide +kernel) (by decide +kernel)
theorem t_1189 : Cond.selects RX7 yX7_trace yX7_trace ∈ gw_tbl := gw_mk 1189 (by decide +kernel) (by decide +kernel)
set_option maxRecDepth 20000 in
theorem t_1190 : Cond.code yX7_trace cX7_trace 2 (some .int) ∈ gw_tbl := gw_mk5 230 rfl rfl
theorem t_1191 : Cond.methodLink RL 159 yX7_count ∈ gw_tbl := gw_mk 1191 (by decide +kernel) (by decide +kernel)
theorem t_1192 : Cond.instanceMethod yX7_count ∈ gw_tbl := gw_mk 1192 (by decide +kernel) (by decide +kernel)
theorem t_1193 : Cond.selects RX7 yX7_count yX7_count ∈ gw_tbl := gw_mk 1193 (by decide +kernel) (by decide +kernel)
set_option maxRecDepth 20000 in
theorem t_1194 : Cond.code yX7_count cX7_count 4 (some .int) ∈ gw_tbl := gw_mk5 234 rfl rfl
theorem t_1195 : Cond.methodLink RL 163 yX7_status ∈ gw_tbl := gw_mk 1195 (by decide +kernel) (by decide +kernel)
theorem t_1196 : Cond.instanceMethod yX7_status ∈ gw_tbl := gw_mk 1196 (by decide +kernel) (by decide +kernel)
theorem t_1197 : Cond.selects RX7 yX7_status yX7_status ∈ gw_tbl := gw_mk 1197 (by decide +kernel) (by decide +kernel)
set_option maxRecDepth 20000 in
theorem t_1198 : Cond.code yX7_status cX7_status 1 (some .int) ∈ gw_tbl := gw_mk5 238 rfl rfl
theorem ts_0 : Cond.selects RX6 yX6_found yX6_found ∈ gw_tbl := gw_mkS 0 (by decide +kernel) (by decide +kernel)
theorem ts_1 : Cond.selects RX6 yX6_foundNothing yX6_foundNothing ∈ gw_tbl := gw_mkS 1 (by decide +kernel) (by decide +kernel)
theorem ts_2 : Cond.selects RX5 yX5_readLaw yX5_readLaw ∈ gw_tbl := gw_mkS 2 (by decide +kernel) (by decide +kernel)
theorem ts_3 : Cond.selects RX5 yX5_readSign yX5_readSign ∈ gw_tbl := gw_mkS 3 (by decide +kernel) (by decide +kernel)
theorem ts_4 : Cond.selects RX5 yX5_next yX5_next ∈ gw_tbl := gw_mkS 4 (by decide +kernel) (by decide +kernel)
theorem ts_5 : Cond.selects RX5 yX5_fail yX5_fail ∈ gw_tbl := gw_mkS 5 (by decide +kernel) (by decide +kernel)
theorem ts_6 : Cond.selects RX5 yX5_readNumber yX5_readNumber ∈ gw_tbl := gw_mkS 6 (by decide +kernel) (by decide +kernel)
theorem ts_7 : Cond.selects RX5 yX5_isFigureAt yX5_isFigureAt ∈ gw_tbl := gw_mkS 7 (by decide +kernel) (by decide +kernel)
theorem ts_8 : Cond.selects RX5 yX5_readThings yX5_readThings ∈ gw_tbl := gw_mkS 8 (by decide +kernel) (by decide +kernel)
theorem ts_9 : Cond.selects RX5 yX5_readThing yX5_readThing ∈ gw_tbl := gw_mkS 9 (by decide +kernel) (by decide +kernel)
theorem ts_10 : Cond.selects RX5 yX5_readSort yX5_readSort ∈ gw_tbl := gw_mkS 10 (by decide +kernel) (by decide +kernel)
theorem ts_11 : Cond.selects RX5 yX5_goesOn yX5_goesOn ∈ gw_tbl := gw_mkS 11 (by decide +kernel) (by decide +kernel)
theorem ts_12 : Cond.selects RX2 yX2_beginNow yX2_beginNow ∈ gw_tbl := gw_mkS 12 (by decide +kernel) (by decide +kernel)
theorem ts_13 : Cond.selects RX2 yX2_passDay yX2_passDay ∈ gw_tbl := gw_mkS 13 (by decide +kernel) (by decide +kernel)
theorem ts_14 : Cond.selects RX2 yX2_firstUnlikePerson yX2_firstUnlikePerson ∈ gw_tbl := gw_mkS 14 (by decide +kernel) (by decide +kernel)
theorem ts_15 : Cond.selects RX2 yX2_goOnFrom yX2_goOnFrom ∈ gw_tbl := gw_mkS 15 (by decide +kernel) (by decide +kernel)
theorem ts_16 : Cond.selects RX2 yX2_placeFrom yX2_placeFrom ∈ gw_tbl := gw_mkS 16 (by decide +kernel) (by decide +kernel)
theorem ts_17 : Cond.selects RX2 yX2_keepPlacesIfBest yX2_keepPlacesIfBest ∈ gw_tbl := gw_mkS 17 (by decide +kernel) (by decide +kernel)
theorem ts_18 : Cond.selects RX2 yX2_isNeverOffByMore yX2_isNeverOffByMore ∈ gw_tbl := gw_mkS 18 (by decide +kernel) (by decide +kernel)
theorem ts_19 : Cond.selects RX2 yX2_isWholeRound yX2_isWholeRound ∈ gw_tbl := gw_mkS 19 (by decide +kernel) (by decide +kernel)
theorem ts_20 : Cond.selects RX2 yX2_isAllAsNow yX2_isAllAsNow ∈ gw_tbl := gw_mkS 20 (by decide +kernel) (by decide +kernel)
theorem ts_21 : Cond.selects RX2 yX2_isToldIfHasty yX2_isToldIfHasty ∈ gw_tbl := gw_mkS 21 (by decide +kernel) (by decide +kernel)
theorem ts_22 : Cond.selects RX2 yX2_isToldIfOf yX2_isToldIfOf ∈ gw_tbl := gw_mkS 22 (by decide +kernel) (by decide +kernel)
theorem ts_23 : Cond.selects RX2 yX2_mostOffThen yX2_mostOffThen ∈ gw_tbl := gw_mkS 23 (by decide +kernel) (by decide +kernel)
theorem ts_24 : Cond.selects RX2 yX2_countWays yX2_countWays ∈ gw_tbl := gw_mkS 24 (by decide +kernel) (by decide +kernel)
theorem ts_25 : Cond.selects RX2 yX2_pricesOfFallen yX2_pricesOfFallen ∈ gw_tbl := gw_mkS 25 (by decide +kernel) (by decide +kernel)
theorem ts_26 : Cond.selects RX2 yX2_putBackDrawn yX2_putBackDrawn ∈ gw_tbl := gw_mkS 26 (by decide +kernel) (by decide +kernel)
theorem ts_27 : Cond.selects RX6 yX6_imageNumbered yX6_imageNumbered ∈ gw_tbl := gw_mkS 27 (by decide +kernel) (by decide +kernel)
theorem ts_28 : Cond.selects RX1 yX1_sizeAnew yX1_sizeAnew ∈ gw_tbl := gw_mkS 28 (by decide +kernel) (by decide +kernel)
theorem ts_29 : Cond.selects RX1 yX1_give yX1_give ∈ gw_tbl := gw_mkS 29 (by decide +kernel) (by decide +kernel)
theorem ts_30 : Cond.selects RX1 yX1_leave yX1_leave ∈ gw_tbl := gw_mkS 30 (by decide +kernel) (by decide +kernel)
theorem ts_31 : Cond.selects RX1 yX1_markAnew yX1_markAnew ∈ gw_tbl := gw_mkS 31 (by decide +kernel) (by decide +kernel)
theorem ts_32 : Cond.selects RX7 yX7_find yX7_find ∈ gw_tbl := gw_mkS 32 (by decide +kernel) (by decide +kernel)
theorem ts_33 : Cond.selects RX7 yX7_well yX7_well ∈ gw_tbl := gw_mkS 33 (by decide +kernel) (by decide +kernel)
theorem ts_34 : Cond.selects RX7 yX7_readLand yX7_readLand ∈ gw_tbl := gw_mkS 34 (by decide +kernel) (by decide +kernel)
theorem ts_35 : Cond.selects RX7 yX7_nextToken yX7_nextToken ∈ gw_tbl := gw_mkS 35 (by decide +kernel) (by decide +kernel)
theorem ts_36 : Cond.selects RX7 yX7_takes yX7_takes ∈ gw_tbl := gw_mkS 36 (by decide +kernel) (by decide +kernel)
theorem ts_37 : Cond.selects RX7 yX7_isLetter yX7_isLetter ∈ gw_tbl := gw_mkS 37 (by decide +kernel) (by decide +kernel)
theorem ts_38 : Cond.selects RX7 yX7_faults yX7_faults ∈ gw_tbl := gw_mkS 38 (by decide +kernel) (by decide +kernel)
theorem ts_39 : Cond.selects RX7 yX7_takesNumber yX7_takesNumber ∈ gw_tbl := gw_mkS 39 (by decide +kernel) (by decide +kernel)
theorem ts_40 : Cond.selects RX7 yX7_readThing yX7_readThing ∈ gw_tbl := gw_mkS 40 (by decide +kernel) (by decide +kernel)
theorem ts_41 : Cond.selects RX7 yX7_note yX7_note ∈ gw_tbl := gw_mkS 41 (by decide +kernel) (by decide +kernel)
theorem ts_42 : Cond.selects RX7 yX7_oneDay yX7_oneDay ∈ gw_tbl := gw_mkS 42 (by decide +kernel) (by decide +kernel)
theorem ts_43 : Cond.selects RX7 yX7_changed yX7_changed ∈ gw_tbl := gw_mkS 43 (by decide +kernel) (by decide +kernel)
theorem ts_44 : Cond.selects RX7 yX7_allOff yX7_allOff ∈ gw_tbl := gw_mkS 44 (by decide +kernel) (by decide +kernel)
theorem ts_45 : Cond.selects RX7 yX7_off yX7_off ∈ gw_tbl := gw_mkS 45 (by decide +kernel) (by decide +kernel)
theorem ts_46 : Cond.selects RX7 yX7_differ yX7_differ ∈ gw_tbl := gw_mkS 46 (by decide +kernel) (by decide +kernel)
theorem ts_47 : Cond.selects RX7 yX7_isThing yX7_isThing ∈ gw_tbl := gw_mkS 47 (by decide +kernel) (by decide +kernel)
theorem ts_48 : Cond.selects RX7 yX7_isPeople yX7_isPeople ∈ gw_tbl := gw_mkS 48 (by decide +kernel) (by decide +kernel)
theorem ts_49 : Cond.selects RX7 yX7_price yX7_price ∈ gw_tbl := gw_mkS 49 (by decide +kernel) (by decide +kernel)
theorem ts_50 : Cond.selects RX7 yX7_isAlike yX7_isAlike ∈ gw_tbl := gw_mkS 50 (by decide +kernel) (by decide +kernel)
theorem ts_51 : Cond.selects RX7 yX7_putAside yX7_putAside ∈ gw_tbl := gw_mkS 51 (by decide +kernel) (by decide +kernel)
theorem ts_52 : Cond.selects RX7 yX7_takeBack yX7_takeBack ∈ gw_tbl := gw_mkS 52 (by decide +kernel) (by decide +kernel)
theorem ts_53 : Cond.selects RX7 yX7_nextDay yX7_nextDay ∈ gw_tbl := gw_mkS 53 (by decide +kernel) (by decide +kernel)
theorem ts_54 : Cond.selects RX7 yX7_comes yX7_comes ∈ gw_tbl := gw_mkS 54 (by decide +kernel) (by decide +kernel)
theorem ts_55 : Cond.selects RX7 yX7_offBy yX7_offBy ∈ gw_tbl := gw_mkS 55 (by decide +kernel) (by decide +kernel)
theorem ts_56 : Cond.selects RX7 yX7_isSeldom yX7_isSeldom ∈ gw_tbl := gw_mkS 56 (by decide +kernel) (by decide +kernel)
theorem ts_57 : Cond.selects RX7 yX7_isTurn yX7_isTurn ∈ gw_tbl := gw_mkS 57 (by decide +kernel) (by decide +kernel)
theorem ts_58 : Cond.selects RX7 yX7_isAsNow yX7_isAsNow ∈ gw_tbl := gw_mkS 58 (by decide +kernel) (by decide +kernel)
theorem ts_59 : Cond.selects RX7 yX7_lacks yX7_lacks ∈ gw_tbl := gw_mkS 59 (by decide +kernel) (by decide +kernel)
theorem ts_60 : Cond.selects RX7 yX7_isStealth yX7_isStealth ∈ gw_tbl := gw_mkS 60 (by decide +kernel) (by decide +kernel)
theorem ts_61 : Cond.selects RX7 yX7_sizeOf yX7_sizeOf ∈ gw_tbl := gw_mkS 61 (by decide +kernel) (by decide +kernel)
theorem ts_62 : Cond.selects RX7 yX7_begin yX7_begin ∈ gw_tbl := gw_mkS 62 (by decide +kernel) (by decide +kernel)
theorem ts_63 : Cond.selects RX7 yX7_growingSize yX7_growingSize ∈ gw_tbl := gw_mkS 63 (by decide +kernel) (by decide +kernel)
theorem ts_64 : Cond.selects RX7 yX7_lent yX7_lent ∈ gw_tbl := gw_mkS 64 (by decide +kernel) (by decide +kernel)
theorem ts_65 : Cond.selects RX7 yX7_markOf yX7_markOf ∈ gw_tbl := gw_mkS 65 (by decide +kernel) (by decide +kernel)
theorem ts_66 : Cond.selects RX7 yX7_growingMark yX7_growingMark ∈ gw_tbl := gw_mkS 66 (by decide +kernel) (by decide +kernel)
theorem ts_67 : Cond.selects RX7 yX7_sizeOfPerson yX7_sizeOfPerson ∈ gw_tbl := gw_mkS 67 (by decide +kernel) (by decide +kernel)
theorem ts_68 : Cond.selects RX7 yX7_personSize yX7_personSize ∈ gw_tbl := gw_mkS 68 (by decide +kernel) (by decide +kernel)
theorem in_X0 : ∀ w ∈ u_ws RX0 TX0 3, w ∈ gw_tbl := by decide +kernel
theorem in_X1 : ∀ w ∈ u_ws RX1 TX1 4, w ∈ gw_tbl := by decide +kernel
theorem in_X2 : ∀ w ∈ u_ws RX2 TX2 11, w ∈ gw_tbl := by decide +kernel
theorem in_X3 : ∀ w ∈ u_ws RX3 TX3 11, w ∈ gw_tbl := by decide +kernel
theorem in_X4 : ∀ w ∈ u_ws RX4 TX4 3, w ∈ gw_tbl := by decide +kernel
theorem in_X5 : ∀ w ∈ u_ws RX5 TX5 6, w ∈ gw_tbl := by decide +kernel
theorem in_X6 : ∀ w ∈ u_ws RX6 TX6 9, w ∈ gw_tbl := by decide +kernel
theorem in_X7 : ∀ w ∈ u_ws RX7 TX7 28, w ∈ gw_tbl := by decide +kernel
