-- ===== PART A: goes FIRST, ahead of the names: the tables' words, and 'selects' of the private methods out of them =====
/-- a private method of a class that the tables say can be made, by its rows of tables_1 -/
def lw_okq (q : MethodName × Nat) : Prop := (q.1.cls ≠ "java/lang/invoke/MethodHandle" ∧ q.1.cls ≠ "java/lang/invoke/VarHandle") ∧ Cond.instantiable q.1.cls q.2 ∈ tables_1 ∧ Cond.privateMethod q.1 ∈ tables_1 ∧ Cond.instanceMethod q.1 ∈ tables_1
theorem lw_p0 : lw_okq (⟨"UnitTurns", "settled", "(I)I"⟩, 9) := ⟨⟨by decide +kernel, by decide +kernel⟩, List.mem_of_getElem? (i := 16) (by decide +kernel), List.mem_of_getElem? (i := 310) (by decide +kernel), List.mem_of_getElem? (i := 311) (by decide +kernel)⟩
theorem lw_p1 : lw_okq (⟨"UnitTurns", "counted", "(I)I"⟩, 9) := ⟨⟨by decide +kernel, by decide +kernel⟩, List.mem_of_getElem? (i := 16) (by decide +kernel), List.mem_of_getElem? (i := 314) (by decide +kernel), List.mem_of_getElem? (i := 315) (by decide +kernel)⟩
theorem lw_p2 : lw_okq (⟨"UnitTurns", "forgetAnswers", "()V"⟩, 9) := ⟨⟨by decide +kernel, by decide +kernel⟩, List.mem_of_getElem? (i := 16) (by decide +kernel), List.mem_of_getElem? (i := 323) (by decide +kernel), List.mem_of_getElem? (i := 324) (by decide +kernel)⟩
theorem lw_p3 : lw_okq (⟨"UnitTurns", "kindFact", "(II)I"⟩, 9) := ⟨⟨by decide +kernel, by decide +kernel⟩, List.mem_of_getElem? (i := 16) (by decide +kernel), List.mem_of_getElem? (i := 343) (by decide +kernel), List.mem_of_getElem? (i := 344) (by decide +kernel)⟩
theorem lw_p4 : lw_okq (⟨"UnitTurns$Chart", "forgetStates", "()V"⟩, 7) := ⟨⟨by decide +kernel, by decide +kernel⟩, List.mem_of_getElem? (i := 90) (by decide +kernel), List.mem_of_getElem? (i := 362) (by decide +kernel), List.mem_of_getElem? (i := 363) (by decide +kernel)⟩
theorem lw_p5 : lw_okq (⟨"UnitTurns$Chart", "findStates", "(LUnitTurns$Setup;)V"⟩, 7) := ⟨⟨by decide +kernel, by decide +kernel⟩, List.mem_of_getElem? (i := 90) (by decide +kernel), List.mem_of_getElem? (i := 366) (by decide +kernel), List.mem_of_getElem? (i := 367) (by decide +kernel)⟩
theorem lw_p6 : lw_okq (⟨"UnitTurns$Chart", "note", "(I)V"⟩, 7) := ⟨⟨by decide +kernel, by decide +kernel⟩, List.mem_of_getElem? (i := 90) (by decide +kernel), List.mem_of_getElem? (i := 370) (by decide +kernel), List.mem_of_getElem? (i := 371) (by decide +kernel)⟩
theorem lw_p7 : lw_okq (⟨"UnitTurns$Chart", "tellClasses", "(LUnitTurns$Setup;)V"⟩, 7) := ⟨⟨by decide +kernel, by decide +kernel⟩, List.mem_of_getElem? (i := 90) (by decide +kernel), List.mem_of_getElem? (i := 377) (by decide +kernel), List.mem_of_getElem? (i := 378) (by decide +kernel)⟩
theorem lw_p8 : lw_okq (⟨"UnitTurns$Chart", "isFirstOfClass", "(I)Z"⟩, 7) := ⟨⟨by decide +kernel, by decide +kernel⟩, List.mem_of_getElem? (i := 90) (by decide +kernel), List.mem_of_getElem? (i := 384) (by decide +kernel), List.mem_of_getElem? (i := 385) (by decide +kernel)⟩
theorem lw_p9 : lw_okq (⟨"UnitTurns$Setup", "reaches", "(II)Z"⟩, 8) := ⟨⟨by decide +kernel, by decide +kernel⟩, List.mem_of_getElem? (i := 24) (by decide +kernel), List.mem_of_getElem? (i := 442) (by decide +kernel), List.mem_of_getElem? (i := 443) (by decide +kernel)⟩
theorem lw_p10 : lw_okq (⟨"UnitTurns$Setup", "neededBy", "(I)I"⟩, 8) := ⟨⟨by decide +kernel, by decide +kernel⟩, List.mem_of_getElem? (i := 24) (by decide +kernel), List.mem_of_getElem? (i := 446) (by decide +kernel), List.mem_of_getElem? (i := 447) (by decide +kernel)⟩
theorem lw_p11 : lw_okq (⟨"UnitTurns$Setup", "clearNeedsFrom", "(I)V"⟩, 8) := ⟨⟨by decide +kernel, by decide +kernel⟩, List.mem_of_getElem? (i := 24) (by decide +kernel), List.mem_of_getElem? (i := 461) (by decide +kernel), List.mem_of_getElem? (i := 462) (by decide +kernel)⟩
theorem lw_p12 : lw_okq (⟨"UnitTurns", "instructionFact", "(II)I"⟩, 9) := ⟨⟨by decide +kernel, by decide +kernel⟩, List.mem_of_getElem? (i := 16) (by decide +kernel), List.mem_of_getElem? (i := 470) (by decide +kernel), List.mem_of_getElem? (i := 471) (by decide +kernel)⟩
theorem lw_p13 : lw_okq (⟨"UnitTurns$Block", "measureWays", "()V"⟩, 10) := ⟨⟨by decide +kernel, by decide +kernel⟩, List.mem_of_getElem? (i := 120) (by decide +kernel), List.mem_of_getElem? (i := 493) (by decide +kernel), List.mem_of_getElem? (i := 494) (by decide +kernel)⟩
theorem lw_p14 : lw_okq (⟨"UnitTurns$Search", "measureGaps", "(LUnitTurns$Block;)V"⟩, 7) := ⟨⟨by decide +kernel, by decide +kernel⟩, List.mem_of_getElem? (i := 193) (by decide +kernel), List.mem_of_getElem? (i := 524) (by decide +kernel), List.mem_of_getElem? (i := 525) (by decide +kernel)⟩
theorem lw_p15 : lw_okq (⟨"UnitTurns$Search", "widenGap", "(III)V"⟩, 7) := ⟨⟨by decide +kernel, by decide +kernel⟩, List.mem_of_getElem? (i := 193) (by decide +kernel), List.mem_of_getElem? (i := 532) (by decide +kernel), List.mem_of_getElem? (i := 533) (by decide +kernel)⟩
def lw_privs_1 : List (MethodName × Nat) := [(⟨"UnitTurns", "settled", "(I)I"⟩, 9), (⟨"UnitTurns", "counted", "(I)I"⟩, 9), (⟨"UnitTurns", "forgetAnswers", "()V"⟩, 9), (⟨"UnitTurns", "kindFact", "(II)I"⟩, 9), (⟨"UnitTurns$Chart", "forgetStates", "()V"⟩, 7), (⟨"UnitTurns$Chart", "findStates", "(LUnitTurns$Setup;)V"⟩, 7), (⟨"UnitTurns$Chart", "note", "(I)V"⟩, 7), (⟨"UnitTurns$Chart", "tellClasses", "(LUnitTurns$Setup;)V"⟩, 7), (⟨"UnitTurns$Chart", "isFirstOfClass", "(I)Z"⟩, 7), (⟨"UnitTurns$Setup", "reaches", "(II)Z"⟩, 8), (⟨"UnitTurns$Setup", "neededBy", "(I)I"⟩, 8), (⟨"UnitTurns$Setup", "clearNeedsFrom", "(I)V"⟩, 8), (⟨"UnitTurns", "instructionFact", "(II)I"⟩, 9), (⟨"UnitTurns$Block", "measureWays", "()V"⟩, 10), (⟨"UnitTurns$Search", "measureGaps", "(LUnitTurns$Block;)V"⟩, 7), (⟨"UnitTurns$Search", "widenGap", "(III)V"⟩, 7)]
theorem lw_r1 : ∀ q ∈ lw_privs_1, lw_okq q := List.forall_mem_cons.mpr ⟨lw_p0, List.forall_mem_cons.mpr ⟨lw_p1, List.forall_mem_cons.mpr ⟨lw_p2, List.forall_mem_cons.mpr ⟨lw_p3, List.forall_mem_cons.mpr ⟨lw_p4, List.forall_mem_cons.mpr ⟨lw_p5, List.forall_mem_cons.mpr ⟨lw_p6, List.forall_mem_cons.mpr ⟨lw_p7, List.forall_mem_cons.mpr ⟨lw_p8, List.forall_mem_cons.mpr ⟨lw_p9, List.forall_mem_cons.mpr ⟨lw_p10, List.forall_mem_cons.mpr ⟨lw_p11, List.forall_mem_cons.mpr ⟨lw_p12, List.forall_mem_cons.mpr ⟨lw_p13, List.forall_mem_cons.mpr ⟨lw_p14, List.forall_mem_cons.mpr ⟨lw_p15, fun _ h => absurd h List.not_mem_nil⟩⟩⟩⟩⟩⟩⟩⟩⟩⟩⟩⟩⟩⟩⟩⟩
theorem lw_p16 : lw_okq (⟨"UnitTurns$Rows", "measureApart", "(LUnitTurns$Block;[I)V"⟩, 2) := ⟨⟨by decide +kernel, by decide +kernel⟩, List.mem_of_getElem? (i := 199) (by decide +kernel), List.mem_of_getElem? (i := 542) (by decide +kernel), List.mem_of_getElem? (i := 543) (by decide +kernel)⟩
theorem lw_p17 : lw_okq (⟨"UnitTurns$Rows", "lengthOfSet", "(LUnitTurns$Block;[II)I"⟩, 2) := ⟨⟨by decide +kernel, by decide +kernel⟩, List.mem_of_getElem? (i := 199) (by decide +kernel), List.mem_of_getElem? (i := 552) (by decide +kernel), List.mem_of_getElem? (i := 553) (by decide +kernel)⟩
theorem lw_p18 : lw_okq (⟨"UnitTurns$Rows", "turnOfLast", "(LUnitTurns$Block;[III)I"⟩, 2) := ⟨⟨by decide +kernel, by decide +kernel⟩, List.mem_of_getElem? (i := 199) (by decide +kernel), List.mem_of_getElem? (i := 556) (by decide +kernel), List.mem_of_getElem? (i := 557) (by decide +kernel)⟩
theorem lw_p19 : lw_okq (⟨"UnitTurns$Search", "hasPlan", "(LUnitTurns$Block;)Z"⟩, 7) := ⟨⟨by decide +kernel, by decide +kernel⟩, List.mem_of_getElem? (i := 193) (by decide +kernel), List.mem_of_getElem? (i := 563) (by decide +kernel), List.mem_of_getElem? (i := 564) (by decide +kernel)⟩
theorem lw_p20 : lw_okq (⟨"UnitTurns$Search", "openAll", "(LUnitTurns$Block;)Z"⟩, 7) := ⟨⟨by decide +kernel, by decide +kernel⟩, List.mem_of_getElem? (i := 193) (by decide +kernel), List.mem_of_getElem? (i := 567) (by decide +kernel), List.mem_of_getElem? (i := 568) (by decide +kernel)⟩
theorem lw_p21 : lw_okq (⟨"UnitTurns$Search", "place", "(LUnitTurns$Block;II)Z"⟩, 7) := ⟨⟨by decide +kernel, by decide +kernel⟩, List.mem_of_getElem? (i := 193) (by decide +kernel), List.mem_of_getElem? (i := 578) (by decide +kernel), List.mem_of_getElem? (i := 579) (by decide +kernel)⟩
theorem lw_p22 : lw_okq (⟨"UnitTurns$Search", "tightest", "(LUnitTurns$Block;II)I"⟩, 7) := ⟨⟨by decide +kernel, by decide +kernel⟩, List.mem_of_getElem? (i := 193) (by decide +kernel), List.mem_of_getElem? (i := 582) (by decide +kernel), List.mem_of_getElem? (i := 583) (by decide +kernel)⟩
theorem lw_p23 : lw_okq (⟨"UnitTurns$Search", "isPossible", "(LUnitTurns$Block;IIII)Z"⟩, 7) := ⟨⟨by decide +kernel, by decide +kernel⟩, List.mem_of_getElem? (i := 193) (by decide +kernel), List.mem_of_getElem? (i := 587) (by decide +kernel), List.mem_of_getElem? (i := 588) (by decide +kernel)⟩
theorem lw_p24 : lw_okq (⟨"UnitTurns$Search", "narrow", "(LUnitTurns$Block;III)Z"⟩, 7) := ⟨⟨by decide +kernel, by decide +kernel⟩, List.mem_of_getElem? (i := 193) (by decide +kernel), List.mem_of_getElem? (i := 591) (by decide +kernel), List.mem_of_getElem? (i := 592) (by decide +kernel)⟩
theorem lw_p25 : lw_okq (⟨"UnitTurns$Search", "isFull", "(LUnitTurns$Block;II)Z"⟩, 7) := ⟨⟨by decide +kernel, by decide +kernel⟩, List.mem_of_getElem? (i := 193) (by decide +kernel), List.mem_of_getElem? (i := 595) (by decide +kernel), List.mem_of_getElem? (i := 596) (by decide +kernel)⟩
theorem lw_p26 : lw_okq (⟨"UnitTurns$Search", "takeTrial", "(LUnitTurns$Block;)V"⟩, 7) := ⟨⟨by decide +kernel, by decide +kernel⟩, List.mem_of_getElem? (i := 193) (by decide +kernel), List.mem_of_getElem? (i := 599) (by decide +kernel), List.mem_of_getElem? (i := 600) (by decide +kernel)⟩
theorem lw_p27 : lw_okq (⟨"UnitTurns$Search", "takeFirst", "(LUnitTurns$Block;)V"⟩, 7) := ⟨⟨by decide +kernel, by decide +kernel⟩, List.mem_of_getElem? (i := 193) (by decide +kernel), List.mem_of_getElem? (i := 604) (by decide +kernel), List.mem_of_getElem? (i := 605) (by decide +kernel)⟩
theorem lw_p28 : lw_okq (⟨"UnitTurns", "rankedLength", "(I)I"⟩, 9) := ⟨⟨by decide +kernel, by decide +kernel⟩, List.mem_of_getElem? (i := 16) (by decide +kernel), List.mem_of_getElem? (i := 612) (by decide +kernel), List.mem_of_getElem? (i := 613) (by decide +kernel)⟩
theorem lw_p29 : lw_okq (⟨"UnitTurns$Ranks", "weigh", "(LUnitTurns$Block;I)V"⟩, 3) := ⟨⟨by decide +kernel, by decide +kernel⟩, List.mem_of_getElem? (i := 176) (by decide +kernel), List.mem_of_getElem? (i := 620) (by decide +kernel), List.mem_of_getElem? (i := 621) (by decide +kernel)⟩
theorem lw_p30 : lw_okq (⟨"UnitTurns$Ranks", "sort", "(I)V"⟩, 3) := ⟨⟨by decide +kernel, by decide +kernel⟩, List.mem_of_getElem? (i := 176) (by decide +kernel), List.mem_of_getElem? (i := 625) (by decide +kernel), List.mem_of_getElem? (i := 626) (by decide +kernel)⟩
theorem lw_p31 : lw_okq (⟨"UnitTurns$Ranks", "beginAt", "(LUnitTurns$Block;I)I"⟩, 3) := ⟨⟨by decide +kernel, by decide +kernel⟩, List.mem_of_getElem? (i := 176) (by decide +kernel), List.mem_of_getElem? (i := 632) (by decide +kernel), List.mem_of_getElem? (i := 633) (by decide +kernel)⟩
def lw_privs_2 : List (MethodName × Nat) := [(⟨"UnitTurns$Rows", "measureApart", "(LUnitTurns$Block;[I)V"⟩, 2), (⟨"UnitTurns$Rows", "lengthOfSet", "(LUnitTurns$Block;[II)I"⟩, 2), (⟨"UnitTurns$Rows", "turnOfLast", "(LUnitTurns$Block;[III)I"⟩, 2), (⟨"UnitTurns$Search", "hasPlan", "(LUnitTurns$Block;)Z"⟩, 7), (⟨"UnitTurns$Search", "openAll", "(LUnitTurns$Block;)Z"⟩, 7), (⟨"UnitTurns$Search", "place", "(LUnitTurns$Block;II)Z"⟩, 7), (⟨"UnitTurns$Search", "tightest", "(LUnitTurns$Block;II)I"⟩, 7), (⟨"UnitTurns$Search", "isPossible", "(LUnitTurns$Block;IIII)Z"⟩, 7), (⟨"UnitTurns$Search", "narrow", "(LUnitTurns$Block;III)Z"⟩, 7), (⟨"UnitTurns$Search", "isFull", "(LUnitTurns$Block;II)Z"⟩, 7), (⟨"UnitTurns$Search", "takeTrial", "(LUnitTurns$Block;)V"⟩, 7), (⟨"UnitTurns$Search", "takeFirst", "(LUnitTurns$Block;)V"⟩, 7), (⟨"UnitTurns", "rankedLength", "(I)I"⟩, 9), (⟨"UnitTurns$Ranks", "weigh", "(LUnitTurns$Block;I)V"⟩, 3), (⟨"UnitTurns$Ranks", "sort", "(I)V"⟩, 3), (⟨"UnitTurns$Ranks", "beginAt", "(LUnitTurns$Block;I)I"⟩, 3)]
theorem lw_r2 : ∀ q ∈ lw_privs_2, lw_okq q := List.forall_mem_cons.mpr ⟨lw_p16, List.forall_mem_cons.mpr ⟨lw_p17, List.forall_mem_cons.mpr ⟨lw_p18, List.forall_mem_cons.mpr ⟨lw_p19, List.forall_mem_cons.mpr ⟨lw_p20, List.forall_mem_cons.mpr ⟨lw_p21, List.forall_mem_cons.mpr ⟨lw_p22, List.forall_mem_cons.mpr ⟨lw_p23, List.forall_mem_cons.mpr ⟨lw_p24, List.forall_mem_cons.mpr ⟨lw_p25, List.forall_mem_cons.mpr ⟨lw_p26, List.forall_mem_cons.mpr ⟨lw_p27, List.forall_mem_cons.mpr ⟨lw_p28, List.forall_mem_cons.mpr ⟨lw_p29, List.forall_mem_cons.mpr ⟨lw_p30, List.forall_mem_cons.mpr ⟨lw_p31, fun _ h => absurd h List.not_mem_nil⟩⟩⟩⟩⟩⟩⟩⟩⟩⟩⟩⟩⟩⟩⟩⟩
theorem lw_p32 : lw_okq (⟨"UnitTurns$Ranks", "isReady", "(LUnitTurns$Block;II)Z"⟩, 3) := ⟨⟨by decide +kernel, by decide +kernel⟩, List.mem_of_getElem? (i := 176) (by decide +kernel), List.mem_of_getElem? (i := 636) (by decide +kernel), List.mem_of_getElem? (i := 637) (by decide +kernel)⟩
theorem lw_p33 : lw_okq (⟨"UnitTurns$Ranks", "isFree", "(LUnitTurns$Block;II)Z"⟩, 3) := ⟨⟨by decide +kernel, by decide +kernel⟩, List.mem_of_getElem? (i := 176) (by decide +kernel), List.mem_of_getElem? (i := 640) (by decide +kernel), List.mem_of_getElem? (i := 641) (by decide +kernel)⟩
theorem lw_p34 : lw_okq (⟨"UnitTurns$Block", "isPlan", "([I)Z"⟩, 10) := ⟨⟨by decide +kernel, by decide +kernel⟩, List.mem_of_getElem? (i := 120) (by decide +kernel), List.mem_of_getElem? (i := 660) (by decide +kernel), List.mem_of_getElem? (i := 661) (by decide +kernel)⟩
theorem lw_p35 : lw_okq (⟨"UnitTurns$Script", "skipBlanks", "()V"⟩, 6) := ⟨⟨by decide +kernel, by decide +kernel⟩, List.mem_of_getElem? (i := 237) (by decide +kernel), List.mem_of_getElem? (i := 690) (by decide +kernel), List.mem_of_getElem? (i := 691) (by decide +kernel)⟩
theorem lw_p36 : lw_okq (⟨"UnitTurns$Script", "scanOrder", "()Z"⟩, 6) := ⟨⟨by decide +kernel, by decide +kernel⟩, List.mem_of_getElem? (i := 237) (by decide +kernel), List.mem_of_getElem? (i := 694) (by decide +kernel), List.mem_of_getElem? (i := 695) (by decide +kernel)⟩
theorem lw_p37 : lw_okq (⟨"UnitTurns$Script", "byteHere", "()I"⟩, 6) := ⟨⟨by decide +kernel, by decide +kernel⟩, List.mem_of_getElem? (i := 237) (by decide +kernel), List.mem_of_getElem? (i := 698) (by decide +kernel), List.mem_of_getElem? (i := 699) (by decide +kernel)⟩
theorem lw_p38 : lw_okq (⟨"UnitTurns$Script", "scanNumber", "(I)Z"⟩, 6) := ⟨⟨by decide +kernel, by decide +kernel⟩, List.mem_of_getElem? (i := 237) (by decide +kernel), List.mem_of_getElem? (i := 705) (by decide +kernel), List.mem_of_getElem? (i := 706) (by decide +kernel)⟩
theorem lw_p39 : lw_okq (⟨"UnitTurns$Script", "isFigureHere", "()Z"⟩, 6) := ⟨⟨by decide +kernel, by decide +kernel⟩, List.mem_of_getElem? (i := 237) (by decide +kernel), List.mem_of_getElem? (i := 709) (by decide +kernel), List.mem_of_getElem? (i := 710) (by decide +kernel)⟩
theorem lw_p40 : lw_okq (⟨"UnitTurns", "figure", "(I)I"⟩, 9) := ⟨⟨by decide +kernel, by decide +kernel⟩, List.mem_of_getElem? (i := 16) (by decide +kernel), List.mem_of_getElem? (i := 734) (by decide +kernel), List.mem_of_getElem? (i := 735) (by decide +kernel)⟩
theorem lw_p41 : lw_okq (⟨"UnitTurnsModel", "refuses", "(I)I"⟩, 25) := ⟨⟨by decide +kernel, by decide +kernel⟩, List.mem_of_getElem? (i := 744) (by decide +kernel), List.mem_of_getElem? (i := 831) (by decide +kernel), List.mem_of_getElem? (i := 832) (by decide +kernel)⟩
theorem lw_p42 : lw_okq (⟨"UnitTurnsModel", "hold", "()V"⟩, 25) := ⟨⟨by decide +kernel, by decide +kernel⟩, List.mem_of_getElem? (i := 744) (by decide +kernel), List.mem_of_getElem? (i := 839) (by decide +kernel), List.mem_of_getElem? (i := 840) (by decide +kernel)⟩
theorem lw_p43 : lw_okq (⟨"UnitTurnsModel", "doKind", "(IIII)I"⟩, 25) := ⟨⟨by decide +kernel, by decide +kernel⟩, List.mem_of_getElem? (i := 744) (by decide +kernel), List.mem_of_getElem? (i := 843) (by decide +kernel), List.mem_of_getElem? (i := 844) (by decide +kernel)⟩
theorem lw_p44 : lw_okq (⟨"UnitTurnsModel", "ends", "(I)I"⟩, 25) := ⟨⟨by decide +kernel, by decide +kernel⟩, List.mem_of_getElem? (i := 744) (by decide +kernel), List.mem_of_getElem? (i := 850) (by decide +kernel), List.mem_of_getElem? (i := 851) (by decide +kernel)⟩
theorem lw_p45 : lw_okq (⟨"UnitTurnsModel", "push", "()V"⟩, 25) := ⟨⟨by decide +kernel, by decide +kernel⟩, List.mem_of_getElem? (i := 744) (by decide +kernel), List.mem_of_getElem? (i := 854) (by decide +kernel), List.mem_of_getElem? (i := 855) (by decide +kernel)⟩
theorem lw_p46 : lw_okq (⟨"UnitTurnsModel", "doSets", "(II)I"⟩, 25) := ⟨⟨by decide +kernel, by decide +kernel⟩, List.mem_of_getElem? (i := 744) (by decide +kernel), List.mem_of_getElem? (i := 862) (by decide +kernel), List.mem_of_getElem? (i := 863) (by decide +kernel)⟩
theorem lw_p47 : lw_okq (⟨"UnitTurnsModel", "doInstruction", "(I)I"⟩, 25) := ⟨⟨by decide +kernel, by decide +kernel⟩, List.mem_of_getElem? (i := 744) (by decide +kernel), List.mem_of_getElem? (i := 870) (by decide +kernel), List.mem_of_getElem? (i := 871) (by decide +kernel)⟩
def lw_privs_3 : List (MethodName × Nat) := [(⟨"UnitTurns$Ranks", "isReady", "(LUnitTurns$Block;II)Z"⟩, 3), (⟨"UnitTurns$Ranks", "isFree", "(LUnitTurns$Block;II)Z"⟩, 3), (⟨"UnitTurns$Block", "isPlan", "([I)Z"⟩, 10), (⟨"UnitTurns$Script", "skipBlanks", "()V"⟩, 6), (⟨"UnitTurns$Script", "scanOrder", "()Z"⟩, 6), (⟨"UnitTurns$Script", "byteHere", "()I"⟩, 6), (⟨"UnitTurns$Script", "scanNumber", "(I)Z"⟩, 6), (⟨"UnitTurns$Script", "isFigureHere", "()Z"⟩, 6), (⟨"UnitTurns", "figure", "(I)I"⟩, 9), (⟨"UnitTurnsModel", "refuses", "(I)I"⟩, 25), (⟨"UnitTurnsModel", "hold", "()V"⟩, 25), (⟨"UnitTurnsModel", "doKind", "(IIII)I"⟩, 25), (⟨"UnitTurnsModel", "ends", "(I)I"⟩, 25), (⟨"UnitTurnsModel", "push", "()V"⟩, 25), (⟨"UnitTurnsModel", "doSets", "(II)I"⟩, 25), (⟨"UnitTurnsModel", "doInstruction", "(I)I"⟩, 25)]
theorem lw_r3 : ∀ q ∈ lw_privs_3, lw_okq q := List.forall_mem_cons.mpr ⟨lw_p32, List.forall_mem_cons.mpr ⟨lw_p33, List.forall_mem_cons.mpr ⟨lw_p34, List.forall_mem_cons.mpr ⟨lw_p35, List.forall_mem_cons.mpr ⟨lw_p36, List.forall_mem_cons.mpr ⟨lw_p37, List.forall_mem_cons.mpr ⟨lw_p38, List.forall_mem_cons.mpr ⟨lw_p39, List.forall_mem_cons.mpr ⟨lw_p40, List.forall_mem_cons.mpr ⟨lw_p41, List.forall_mem_cons.mpr ⟨lw_p42, List.forall_mem_cons.mpr ⟨lw_p43, List.forall_mem_cons.mpr ⟨lw_p44, List.forall_mem_cons.mpr ⟨lw_p45, List.forall_mem_cons.mpr ⟨lw_p46, List.forall_mem_cons.mpr ⟨lw_p47, fun _ h => absurd h List.not_mem_nil⟩⟩⟩⟩⟩⟩⟩⟩⟩⟩⟩⟩⟩⟩⟩⟩
theorem lw_p48 : lw_okq (⟨"UnitTurnsModel", "isKind", "(I)Z"⟩, 25) := ⟨⟨by decide +kernel, by decide +kernel⟩, List.mem_of_getElem? (i := 744) (by decide +kernel), List.mem_of_getElem? (i := 874) (by decide +kernel), List.mem_of_getElem? (i := 875) (by decide +kernel)⟩
theorem lw_p49 : lw_okq (⟨"UnitTurnsModel", "doNeeds", "(III)I"⟩, 25) := ⟨⟨by decide +kernel, by decide +kernel⟩, List.mem_of_getElem? (i := 744) (by decide +kernel), List.mem_of_getElem? (i := 882) (by decide +kernel), List.mem_of_getElem? (i := 883) (by decide +kernel)⟩
theorem lw_p50 : lw_okq (⟨"UnitTurnsModel", "isOne", "(I)Z"⟩, 25) := ⟨⟨by decide +kernel, by decide +kernel⟩, List.mem_of_getElem? (i := 744) (by decide +kernel), List.mem_of_getElem? (i := 886) (by decide +kernel), List.mem_of_getElem? (i := 887) (by decide +kernel)⟩
theorem lw_p51 : lw_okq (⟨"UnitTurnsModel", "leads", "(II)Z"⟩, 25) := ⟨⟨by decide +kernel, by decide +kernel⟩, List.mem_of_getElem? (i := 744) (by decide +kernel), List.mem_of_getElem? (i := 890) (by decide +kernel), List.mem_of_getElem? (i := 891) (by decide +kernel)⟩
theorem lw_p52 : lw_okq (⟨"UnitTurnsModel", "needOf", "(II)I"⟩, 25) := ⟨⟨by decide +kernel, by decide +kernel⟩, List.mem_of_getElem? (i := 744) (by decide +kernel), List.mem_of_getElem? (i := 897) (by decide +kernel), List.mem_of_getElem? (i := 898) (by decide +kernel)⟩
theorem lw_p53 : lw_okq (⟨"UnitTurnsModel", "doDrops", "(I)I"⟩, 25) := ⟨⟨by decide +kernel, by decide +kernel⟩, List.mem_of_getElem? (i := 744) (by decide +kernel), List.mem_of_getElem? (i := 905) (by decide +kernel), List.mem_of_getElem? (i := 906) (by decide +kernel)⟩
theorem lw_p54 : lw_okq (⟨"UnitTurnsModel", "isMuch", "()Z"⟩, 25) := ⟨⟨by decide +kernel, by decide +kernel⟩, List.mem_of_getElem? (i := 744) (by decide +kernel), List.mem_of_getElem? (i := 913) (by decide +kernel), List.mem_of_getElem? (i := 914) (by decide +kernel)⟩
theorem lw_p55 : lw_okq (⟨"UnitTurnsModel", "findStates", "()V"⟩, 25) := ⟨⟨by decide +kernel, by decide +kernel⟩, List.mem_of_getElem? (i := 744) (by decide +kernel), List.mem_of_getElem? (i := 917) (by decide +kernel), List.mem_of_getElem? (i := 918) (by decide +kernel)⟩
theorem lw_p56 : lw_okq (⟨"UnitTurnsModel", "read", "(II)I"⟩, 25) := ⟨⟨by decide +kernel, by decide +kernel⟩, List.mem_of_getElem? (i := 744) (by decide +kernel), List.mem_of_getElem? (i := 921) (by decide +kernel), List.mem_of_getElem? (i := 922) (by decide +kernel)⟩
theorem lw_p57 : lw_okq (⟨"UnitTurnsModel", "holds", "(I)I"⟩, 25) := ⟨⟨by decide +kernel, by decide +kernel⟩, List.mem_of_getElem? (i := 744) (by decide +kernel), List.mem_of_getElem? (i := 925) (by decide +kernel), List.mem_of_getElem? (i := 926) (by decide +kernel)⟩
theorem lw_p58 : lw_okq (⟨"UnitTurnsModel", "ofKind", "(II)I"⟩, 25) := ⟨⟨by decide +kernel, by decide +kernel⟩, List.mem_of_getElem? (i := 744) (by decide +kernel), List.mem_of_getElem? (i := 929) (by decide +kernel), List.mem_of_getElem? (i := 930) (by decide +kernel)⟩
theorem lw_p59 : lw_okq (⟨"UnitTurnsModel", "number", "(I)I"⟩, 25) := ⟨⟨by decide +kernel, by decide +kernel⟩, List.mem_of_getElem? (i := 744) (by decide +kernel), List.mem_of_getElem? (i := 933) (by decide +kernel), List.mem_of_getElem? (i := 934) (by decide +kernel)⟩
theorem lw_p60 : lw_okq (⟨"UnitTurnsModel", "findClasses", "()V"⟩, 25) := ⟨⟨by decide +kernel, by decide +kernel⟩, List.mem_of_getElem? (i := 744) (by decide +kernel), List.mem_of_getElem? (i := 937) (by decide +kernel), List.mem_of_getElem? (i := 938) (by decide +kernel)⟩
theorem lw_p61 : lw_okq (⟨"UnitTurnsModel", "areAlike", "(II)Z"⟩, 25) := ⟨⟨by decide +kernel, by decide +kernel⟩, List.mem_of_getElem? (i := 744) (by decide +kernel), List.mem_of_getElem? (i := 941) (by decide +kernel), List.mem_of_getElem? (i := 942) (by decide +kernel)⟩
theorem lw_p62 : lw_okq (⟨"UnitTurnsModel", "boundOf", "()I"⟩, 25) := ⟨⟨by decide +kernel, by decide +kernel⟩, List.mem_of_getElem? (i := 744) (by decide +kernel), List.mem_of_getElem? (i := 961) (by decide +kernel), List.mem_of_getElem? (i := 962) (by decide +kernel)⟩
theorem lw_p63 : lw_okq (⟨"UnitTurnsModel", "findWays", "()V"⟩, 25) := ⟨⟨by decide +kernel, by decide +kernel⟩, List.mem_of_getElem? (i := 744) (by decide +kernel), List.mem_of_getElem? (i := 965) (by decide +kernel), List.mem_of_getElem? (i := 966) (by decide +kernel)⟩
def lw_privs_4 : List (MethodName × Nat) := [(⟨"UnitTurnsModel", "isKind", "(I)Z"⟩, 25), (⟨"UnitTurnsModel", "doNeeds", "(III)I"⟩, 25), (⟨"UnitTurnsModel", "isOne", "(I)Z"⟩, 25), (⟨"UnitTurnsModel", "leads", "(II)Z"⟩, 25), (⟨"UnitTurnsModel", "needOf", "(II)I"⟩, 25), (⟨"UnitTurnsModel", "doDrops", "(I)I"⟩, 25), (⟨"UnitTurnsModel", "isMuch", "()Z"⟩, 25), (⟨"UnitTurnsModel", "findStates", "()V"⟩, 25), (⟨"UnitTurnsModel", "read", "(II)I"⟩, 25), (⟨"UnitTurnsModel", "holds", "(I)I"⟩, 25), (⟨"UnitTurnsModel", "ofKind", "(II)I"⟩, 25), (⟨"UnitTurnsModel", "number", "(I)I"⟩, 25), (⟨"UnitTurnsModel", "findClasses", "()V"⟩, 25), (⟨"UnitTurnsModel", "areAlike", "(II)Z"⟩, 25), (⟨"UnitTurnsModel", "boundOf", "()I"⟩, 25), (⟨"UnitTurnsModel", "findWays", "()V"⟩, 25)]
theorem lw_r4 : ∀ q ∈ lw_privs_4, lw_okq q := List.forall_mem_cons.mpr ⟨lw_p48, List.forall_mem_cons.mpr ⟨lw_p49, List.forall_mem_cons.mpr ⟨lw_p50, List.forall_mem_cons.mpr ⟨lw_p51, List.forall_mem_cons.mpr ⟨lw_p52, List.forall_mem_cons.mpr ⟨lw_p53, List.forall_mem_cons.mpr ⟨lw_p54, List.forall_mem_cons.mpr ⟨lw_p55, List.forall_mem_cons.mpr ⟨lw_p56, List.forall_mem_cons.mpr ⟨lw_p57, List.forall_mem_cons.mpr ⟨lw_p58, List.forall_mem_cons.mpr ⟨lw_p59, List.forall_mem_cons.mpr ⟨lw_p60, List.forall_mem_cons.mpr ⟨lw_p61, List.forall_mem_cons.mpr ⟨lw_p62, List.forall_mem_cons.mpr ⟨lw_p63, fun _ h => absurd h List.not_mem_nil⟩⟩⟩⟩⟩⟩⟩⟩⟩⟩⟩⟩⟩⟩⟩⟩
theorem lw_p64 : lw_okq (⟨"UnitTurnsModel", "span", "(I)I"⟩, 25) := ⟨⟨by decide +kernel, by decide +kernel⟩, List.mem_of_getElem? (i := 744) (by decide +kernel), List.mem_of_getElem? (i := 969) (by decide +kernel), List.mem_of_getElem? (i := 970) (by decide +kernel)⟩
theorem lw_p65 : lw_okq (⟨"UnitTurnsModel", "ofOne", "(II)I"⟩, 25) := ⟨⟨by decide +kernel, by decide +kernel⟩, List.mem_of_getElem? (i := 744) (by decide +kernel), List.mem_of_getElem? (i := 973) (by decide +kernel), List.mem_of_getElem? (i := 974) (by decide +kernel)⟩
theorem lw_p66 : lw_okq (⟨"UnitTurnsModel", "latency", "(I)I"⟩, 25) := ⟨⟨by decide +kernel, by decide +kernel⟩, List.mem_of_getElem? (i := 744) (by decide +kernel), List.mem_of_getElem? (i := 977) (by decide +kernel), List.mem_of_getElem? (i := 978) (by decide +kernel)⟩
theorem lw_p67 : lw_okq (⟨"UnitTurnsModel", "counts", "(II)I"⟩, 25) := ⟨⟨by decide +kernel, by decide +kernel⟩, List.mem_of_getElem? (i := 744) (by decide +kernel), List.mem_of_getElem? (i := 981) (by decide +kernel), List.mem_of_getElem? (i := 982) (by decide +kernel)⟩
theorem lw_p68 : lw_okq (⟨"UnitTurnsModel", "behind", "(II)I"⟩, 25) := ⟨⟨by decide +kernel, by decide +kernel⟩, List.mem_of_getElem? (i := 744) (by decide +kernel), List.mem_of_getElem? (i := 985) (by decide +kernel), List.mem_of_getElem? (i := 986) (by decide +kernel)⟩
theorem lw_p69 : lw_okq (⟨"UnitTurnsModel", "heldTurns", "(I)I"⟩, 25) := ⟨⟨by decide +kernel, by decide +kernel⟩, List.mem_of_getElem? (i := 744) (by decide +kernel), List.mem_of_getElem? (i := 989) (by decide +kernel), List.mem_of_getElem? (i := 990) (by decide +kernel)⟩
theorem lw_p70 : lw_okq (⟨"UnitTurnsModel", "findBest", "()I"⟩, 25) := ⟨⟨by decide +kernel, by decide +kernel⟩, List.mem_of_getElem? (i := 744) (by decide +kernel), List.mem_of_getElem? (i := 997) (by decide +kernel), List.mem_of_getElem? (i := 998) (by decide +kernel)⟩
theorem lw_p71 : lw_okq (⟨"UnitTurnsModel", "isFound", "(I)Z"⟩, 25) := ⟨⟨by decide +kernel, by decide +kernel⟩, List.mem_of_getElem? (i := 744) (by decide +kernel), List.mem_of_getElem? (i := 1001) (by decide +kernel), List.mem_of_getElem? (i := 1002) (by decide +kernel)⟩
theorem lw_p72 : lw_okq (⟨"UnitTurnsModel", "clearAll", "()V"⟩, 25) := ⟨⟨by decide +kernel, by decide +kernel⟩, List.mem_of_getElem? (i := 744) (by decide +kernel), List.mem_of_getElem? (i := 1005) (by decide +kernel), List.mem_of_getElem? (i := 1006) (by decide +kernel)⟩
theorem lw_p73 : lw_okq (⟨"UnitTurnsModel", "exchange", "(II)V"⟩, 25) := ⟨⟨by decide +kernel, by decide +kernel⟩, List.mem_of_getElem? (i := 744) (by decide +kernel), List.mem_of_getElem? (i := 1009) (by decide +kernel), List.mem_of_getElem? (i := 1010) (by decide +kernel)⟩
theorem lw_p74 : lw_okq (⟨"UnitTurnsModel", "mayBegin", "(III)Z"⟩, 25) := ⟨⟨by decide +kernel, by decide +kernel⟩, List.mem_of_getElem? (i := 744) (by decide +kernel), List.mem_of_getElem? (i := 1013) (by decide +kernel), List.mem_of_getElem? (i := 1014) (by decide +kernel)⟩
theorem lw_p75 : lw_okq (⟨"UnitTurnsModel", "isFree", "(II)Z"⟩, 25) := ⟨⟨by decide +kernel, by decide +kernel⟩, List.mem_of_getElem? (i := 744) (by decide +kernel), List.mem_of_getElem? (i := 1017) (by decide +kernel), List.mem_of_getElem? (i := 1018) (by decide +kernel)⟩
theorem lw_p76 : lw_okq (⟨"UnitTurnsModel", "lengthOf", "()I"⟩, 25) := ⟨⟨by decide +kernel, by decide +kernel⟩, List.mem_of_getElem? (i := 744) (by decide +kernel), List.mem_of_getElem? (i := 1021) (by decide +kernel), List.mem_of_getElem? (i := 1022) (by decide +kernel)⟩
theorem lw_p77 : lw_okq (⟨"UnitTurnsModel", "findRanked", "(I)I"⟩, 25) := ⟨⟨by decide +kernel, by decide +kernel⟩, List.mem_of_getElem? (i := 744) (by decide +kernel), List.mem_of_getElem? (i := 1029) (by decide +kernel), List.mem_of_getElem? (i := 1030) (by decide +kernel)⟩
theorem lw_p78 : lw_okq (⟨"UnitTurnsModel", "findOrder", "(I)V"⟩, 25) := ⟨⟨by decide +kernel, by decide +kernel⟩, List.mem_of_getElem? (i := 744) (by decide +kernel), List.mem_of_getElem? (i := 1033) (by decide +kernel), List.mem_of_getElem? (i := 1034) (by decide +kernel)⟩
theorem lw_p79 : lw_okq (⟨"UnitTurnsModel", "rank", "(II)I"⟩, 25) := ⟨⟨by decide +kernel, by decide +kernel⟩, List.mem_of_getElem? (i := 744) (by decide +kernel), List.mem_of_getElem? (i := 1037) (by decide +kernel), List.mem_of_getElem? (i := 1038) (by decide +kernel)⟩
def lw_privs_5 : List (MethodName × Nat) := [(⟨"UnitTurnsModel", "span", "(I)I"⟩, 25), (⟨"UnitTurnsModel", "ofOne", "(II)I"⟩, 25), (⟨"UnitTurnsModel", "latency", "(I)I"⟩, 25), (⟨"UnitTurnsModel", "counts", "(II)I"⟩, 25), (⟨"UnitTurnsModel", "behind", "(II)I"⟩, 25), (⟨"UnitTurnsModel", "heldTurns", "(I)I"⟩, 25), (⟨"UnitTurnsModel", "findBest", "()I"⟩, 25), (⟨"UnitTurnsModel", "isFound", "(I)Z"⟩, 25), (⟨"UnitTurnsModel", "clearAll", "()V"⟩, 25), (⟨"UnitTurnsModel", "exchange", "(II)V"⟩, 25), (⟨"UnitTurnsModel", "mayBegin", "(III)Z"⟩, 25), (⟨"UnitTurnsModel", "isFree", "(II)Z"⟩, 25), (⟨"UnitTurnsModel", "lengthOf", "()I"⟩, 25), (⟨"UnitTurnsModel", "findRanked", "(I)I"⟩, 25), (⟨"UnitTurnsModel", "findOrder", "(I)V"⟩, 25), (⟨"UnitTurnsModel", "rank", "(II)I"⟩, 25)]
theorem lw_r5 : ∀ q ∈ lw_privs_5, lw_okq q := List.forall_mem_cons.mpr ⟨lw_p64, List.forall_mem_cons.mpr ⟨lw_p65, List.forall_mem_cons.mpr ⟨lw_p66, List.forall_mem_cons.mpr ⟨lw_p67, List.forall_mem_cons.mpr ⟨lw_p68, List.forall_mem_cons.mpr ⟨lw_p69, List.forall_mem_cons.mpr ⟨lw_p70, List.forall_mem_cons.mpr ⟨lw_p71, List.forall_mem_cons.mpr ⟨lw_p72, List.forall_mem_cons.mpr ⟨lw_p73, List.forall_mem_cons.mpr ⟨lw_p74, List.forall_mem_cons.mpr ⟨lw_p75, List.forall_mem_cons.mpr ⟨lw_p76, List.forall_mem_cons.mpr ⟨lw_p77, List.forall_mem_cons.mpr ⟨lw_p78, List.forall_mem_cons.mpr ⟨lw_p79, fun _ h => absurd h List.not_mem_nil⟩⟩⟩⟩⟩⟩⟩⟩⟩⟩⟩⟩⟩⟩⟩⟩
theorem lw_p80 : lw_okq (⟨"UnitTurnsModel", "isReady", "(II)Z"⟩, 25) := ⟨⟨by decide +kernel, by decide +kernel⟩, List.mem_of_getElem? (i := 744) (by decide +kernel), List.mem_of_getElem? (i := 1041) (by decide +kernel), List.mem_of_getElem? (i := 1042) (by decide +kernel)⟩
theorem lw_p81 : lw_okq (⟨"UnitTurnsModel", "toldOfKind", "(II)I"⟩, 25) := ⟨⟨by decide +kernel, by decide +kernel⟩, List.mem_of_getElem? (i := 744) (by decide +kernel), List.mem_of_getElem? (i := 1053) (by decide +kernel), List.mem_of_getElem? (i := 1054) (by decide +kernel)⟩
theorem lw_p82 : lw_okq (⟨"UnitTurnsModel", "aboutOne", "(II)I"⟩, 25) := ⟨⟨by decide +kernel, by decide +kernel⟩, List.mem_of_getElem? (i := 744) (by decide +kernel), List.mem_of_getElem? (i := 1061) (by decide +kernel), List.mem_of_getElem? (i := 1062) (by decide +kernel)⟩
theorem lw_p83 : lw_okq (⟨"UnitTurnsModel", "here", "()I"⟩, 25) := ⟨⟨by decide +kernel, by decide +kernel⟩, List.mem_of_getElem? (i := 744) (by decide +kernel), List.mem_of_getElem? (i := 1077) (by decide +kernel), List.mem_of_getElem? (i := 1078) (by decide +kernel)⟩
theorem lw_p84 : lw_okq (⟨"UnitTurnsModel", "must", "(Z)V"⟩, 25) := ⟨⟨by decide +kernel, by decide +kernel⟩, List.mem_of_getElem? (i := 744) (by decide +kernel), List.mem_of_getElem? (i := 1081) (by decide +kernel), List.mem_of_getElem? (i := 1082) (by decide +kernel)⟩
theorem lw_p85 : lw_okq (⟨"UnitTurnsModel", "readOrder", "()V"⟩, 25) := ⟨⟨by decide +kernel, by decide +kernel⟩, List.mem_of_getElem? (i := 744) (by decide +kernel), List.mem_of_getElem? (i := 1085) (by decide +kernel), List.mem_of_getElem? (i := 1086) (by decide +kernel)⟩
theorem lw_p86 : lw_okq (⟨"UnitTurnsModel", "figures", "()I"⟩, 25) := ⟨⟨by decide +kernel, by decide +kernel⟩, List.mem_of_getElem? (i := 744) (by decide +kernel), List.mem_of_getElem? (i := 1092) (by decide +kernel), List.mem_of_getElem? (i := 1093) (by decide +kernel)⟩
theorem lw_p87 : lw_okq (⟨"UnitTurnsModel", "isFigure", "()Z"⟩, 25) := ⟨⟨by decide +kernel, by decide +kernel⟩, List.mem_of_getElem? (i := 744) (by decide +kernel), List.mem_of_getElem? (i := 1096) (by decide +kernel), List.mem_of_getElem? (i := 1097) (by decide +kernel)⟩
theorem lw_p88 : lw_okq (⟨"UnitTurnsModel", "doOrder", "(I)I"⟩, 25) := ⟨⟨by decide +kernel, by decide +kernel⟩, List.mem_of_getElem? (i := 744) (by decide +kernel), List.mem_of_getElem? (i := 1100) (by decide +kernel), List.mem_of_getElem? (i := 1101) (by decide +kernel)⟩
theorem lw_p89 : lw_okq (⟨"UnitTurnsModel", "toldOf", "(I)I"⟩, 25) := ⟨⟨by decide +kernel, by decide +kernel⟩, List.mem_of_getElem? (i := 744) (by decide +kernel), List.mem_of_getElem? (i := 1108) (by decide +kernel), List.mem_of_getElem? (i := 1109) (by decide +kernel)⟩
theorem lw_p90 : lw_okq (⟨"UnitTurnsModel", "mix", "(I)V"⟩, 25) := ⟨⟨by decide +kernel, by decide +kernel⟩, List.mem_of_getElem? (i := 744) (by decide +kernel), List.mem_of_getElem? (i := 1117) (by decide +kernel), List.mem_of_getElem? (i := 1118) (by decide +kernel)⟩
def lw_privs_6 : List (MethodName × Nat) := [(⟨"UnitTurnsModel", "isReady", "(II)Z"⟩, 25), (⟨"UnitTurnsModel", "toldOfKind", "(II)I"⟩, 25), (⟨"UnitTurnsModel", "aboutOne", "(II)I"⟩, 25), (⟨"UnitTurnsModel", "here", "()I"⟩, 25), (⟨"UnitTurnsModel", "must", "(Z)V"⟩, 25), (⟨"UnitTurnsModel", "readOrder", "()V"⟩, 25), (⟨"UnitTurnsModel", "figures", "()I"⟩, 25), (⟨"UnitTurnsModel", "isFigure", "()Z"⟩, 25), (⟨"UnitTurnsModel", "doOrder", "(I)I"⟩, 25), (⟨"UnitTurnsModel", "toldOf", "(I)I"⟩, 25), (⟨"UnitTurnsModel", "mix", "(I)V"⟩, 25)]
theorem lw_r6 : ∀ q ∈ lw_privs_6, lw_okq q := List.forall_mem_cons.mpr ⟨lw_p80, List.forall_mem_cons.mpr ⟨lw_p81, List.forall_mem_cons.mpr ⟨lw_p82, List.forall_mem_cons.mpr ⟨lw_p83, List.forall_mem_cons.mpr ⟨lw_p84, List.forall_mem_cons.mpr ⟨lw_p85, List.forall_mem_cons.mpr ⟨lw_p86, List.forall_mem_cons.mpr ⟨lw_p87, List.forall_mem_cons.mpr ⟨lw_p88, List.forall_mem_cons.mpr ⟨lw_p89, List.forall_mem_cons.mpr ⟨lw_p90, fun _ h => absurd h List.not_mem_nil⟩⟩⟩⟩⟩⟩⟩⟩⟩⟩⟩
def lw_privs : List (MethodName × Nat) := lw_privs_1 ++ (lw_privs_2 ++ (lw_privs_3 ++ (lw_privs_4 ++ (lw_privs_5 ++ (lw_privs_6)))))
def lw_tbl : List Cond := k2_sels lw_privs ++ tables_1
theorem lw_privs_ok : ∀ q ∈ lw_privs, lw_okq q := by
  show ∀ q ∈ lw_privs_1 ++ (lw_privs_2 ++ (lw_privs_3 ++ (lw_privs_4 ++ (lw_privs_5 ++ (lw_privs_6))))), lw_okq q
  exact List.forall_mem_append.mpr ⟨lw_r1, List.forall_mem_append.mpr ⟨lw_r2, List.forall_mem_append.mpr ⟨lw_r3, List.forall_mem_append.mpr ⟨lw_r4, List.forall_mem_append.mpr ⟨lw_r5, lw_r6⟩⟩⟩⟩⟩
/-! ===== BEGIN printed: names, fields, word lists, decode rows ===== -/
def RX0 : String := "UnitTurns$Block"
def TX0 : u_T := fun k => match k with
  | 0 => ("UnitTurns$Block", "holds", "[I", true)
  | 1 => ("UnitTurns$Block", "span", "[I", true)
  | 2 => ("UnitTurns$Block", "way", "[I", true)
  | 3 => ("UnitTurns$Block", "earliest", "[I", true)
  | 4 => ("UnitTurns$Block", "delay", "[I", true)
  | 5 => ("UnitTurns$Block", "clash", "[I", true)
  | 6 => ("UnitTurns$Block", "figures", "[I", true)
  | 7 => ("UnitTurns$Block", "count", "I", false)
  | 8 => ("UnitTurns$Block", "width", "I", false)
  | _ => ("UnitTurns$Block", "known", "Z", false)
def tyX0 : Nat → FieldType := fun k => match k with
  | 0 => .array .int
  | 1 => .array .int
  | 2 => .array .int
  | 3 => .array .int
  | 4 => .array .int
  | 5 => .array .int
  | 6 => .array .int
  | 7 => .int
  | 8 => .int
  | _ => .boolean
abbrev wsX00 : List Cond := u_ws RX0 TX0 10
theorem nmX0 : ∀ a, a < 10 → ∀ b, b < 10 → a ≠ b → (TX0 a).2.1 ≠ (TX0 b).2.1 := by decide +kernel
theorem tyX0_ok : ∀ k, k < 10 → parseFieldDescriptor (TX0 k).2.2.1 = some (tyX0 k) := by decide +kernel
abbrev cX0_init : ByteArray := prog_2_method_1_code
def yX0_init : MethodName := ⟨RX0, "<init>", "()V"⟩
abbrev cX0_learn : ByteArray := prog_2_method_2_code
def yX0_learn : MethodName := ⟨RX0, "learn", "(LUnitTurns$Setup;)V"⟩
abbrev cX0_leastLength : ByteArray := prog_2_method_3_code
def yX0_leastLength : MethodName := ⟨RX0, "leastLength", "()I"⟩
abbrev cX0_lengthOf : ByteArray := prog_2_method_4_code
def yX0_lengthOf : MethodName := ⟨RX0, "lengthOf", "([I)I"⟩
abbrev cX0_lengthByFigures : ByteArray := prog_2_method_5_code
def yX0_lengthByFigures : MethodName := ⟨RX0, "lengthByFigures", "(I)I"⟩
abbrev cX0_clashes : ByteArray := prog_2_method_6_code
def yX0_clashes : MethodName := ⟨RX0, "clashes", "(IIII)Z"⟩
abbrev cX0_isPlan : ByteArray := prog_2_method_7_code
def yX0_isPlan : MethodName := ⟨RX0, "isPlan", "([I)Z"⟩
abbrev cX0_measureWays : ByteArray := prog_2_method_8_code
def yX0_measureWays : MethodName := ⟨RX0, "measureWays", "()V"⟩
abbrev cX0_turnsHeld : ByteArray := prog_2_method_9_code
def yX0_turnsHeld : MethodName := ⟨RX0, "turnsHeld", "(I)I"⟩
abbrev cX0_clashOf : ByteArray := prog_2_method_10_code
def yX0_clashOf : MethodName := ⟨RX0, "clashOf", "(II)I"⟩
def RX1 : String := "UnitTurns$Chart"
def TX1 : u_T := fun k => match k with
  | 0 => ("UnitTurns$Chart", "found", "[I", true)
  | 1 => ("UnitTurns$Chart", "clashes", "[I", true)
  | 2 => ("UnitTurns$Chart", "places", "[I", true)
  | 3 => ("UnitTurns$Chart", "count", "I", false)
  | 4 => ("UnitTurns$Chart", "classCount", "I", false)
  | 5 => ("UnitTurns$Chart", "tooMany", "Z", false)
  | _ => ("UnitTurns$Chart", "known", "Z", false)
def tyX1 : Nat → FieldType := fun k => match k with
  | 0 => .array .int
  | 1 => .array .int
  | 2 => .array .int
  | 3 => .int
  | 4 => .int
  | 5 => .boolean
  | _ => .boolean
abbrev wsX10 : List Cond := u_ws RX1 TX1 7
theorem nmX1 : ∀ a, a < 7 → ∀ b, b < 7 → a ≠ b → (TX1 a).2.1 ≠ (TX1 b).2.1 := by decide +kernel
theorem tyX1_ok : ∀ k, k < 7 → parseFieldDescriptor (TX1 k).2.2.1 = some (tyX1 k) := by decide +kernel
abbrev cX1_init : ByteArray := prog_3_method_1_code
def yX1_init : MethodName := ⟨RX1, "<init>", "()V"⟩
abbrev cX1_learn : ByteArray := prog_3_method_2_code
def yX1_learn : MethodName := ⟨RX1, "learn", "(LUnitTurns$Setup;)V"⟩
abbrev cX1_statesOrMuch : ByteArray := prog_3_method_3_code
def yX1_statesOrMuch : MethodName := ⟨RX1, "statesOrMuch", "()I"⟩
abbrev cX1_classesOrMuch : ByteArray := prog_3_method_4_code
def yX1_classesOrMuch : MethodName := ⟨RX1, "classesOrMuch", "()I"⟩
abbrev cX1_hasState : ByteArray := prog_3_method_5_code
def yX1_hasState : MethodName := ⟨RX1, "hasState", "(I)Z"⟩
abbrev cX1_sameClass : ByteArray := prog_3_method_6_code
def yX1_sameClass : MethodName := ⟨RX1, "sameClass", "(II)Z"⟩
abbrev cX1_stateFact : ByteArray := prog_3_method_7_code
def yX1_stateFact : MethodName := ⟨RX1, "stateFact", "(LUnitTurns$Setup;II)I"⟩
abbrev cX1_forgetStates : ByteArray := prog_3_method_8_code
def yX1_forgetStates : MethodName := ⟨RX1, "forgetStates", "()V"⟩
abbrev cX1_findStates : ByteArray := prog_3_method_9_code
def yX1_findStates : MethodName := ⟨RX1, "findStates", "(LUnitTurns$Setup;)V"⟩
abbrev cX1_note : ByteArray := prog_3_method_10_code
def yX1_note : MethodName := ⟨RX1, "note", "(I)V"⟩
abbrev cX1_tellClasses : ByteArray := prog_3_method_11_code
def yX1_tellClasses : MethodName := ⟨RX1, "tellClasses", "(LUnitTurns$Setup;)V"⟩
abbrev cX1_isFirstOfClass : ByteArray := prog_3_method_12_code
def yX1_isFirstOfClass : MethodName := ⟨RX1, "isFirstOfClass", "(I)Z"⟩
abbrev cX1_clashesOf : ByteArray := prog_3_method_13_code
def yX1_clashesOf : MethodName := ⟨RX1, "clashesOf", "(LUnitTurns$Setup;I)I"⟩
def RX2 : String := "UnitTurns$Ranks"
def TX2 : u_T := fun k => match k with
  | 0 => ("UnitTurns$Ranks", "turns", "[I", true)
  | 1 => ("UnitTurns$Ranks", "order", "[I", true)
  | _ => ("UnitTurns$Ranks", "weight", "[I", true)
def tyX2 : Nat → FieldType := fun k => match k with
  | 0 => .array .int
  | 1 => .array .int
  | _ => .array .int
abbrev wsX20 : List Cond := u_ws RX2 TX2 3
theorem nmX2 : ∀ a, a < 3 → ∀ b, b < 3 → a ≠ b → (TX2 a).2.1 ≠ (TX2 b).2.1 := by decide +kernel
theorem tyX2_ok : ∀ k, k < 3 → parseFieldDescriptor (TX2 k).2.2.1 = some (tyX2 k) := by decide +kernel
abbrev cX2_init : ByteArray := prog_4_method_1_code
def yX2_init : MethodName := ⟨RX2, "<init>", "()V"⟩
abbrev cX2_run : ByteArray := prog_4_method_2_code
def yX2_run : MethodName := ⟨RX2, "run", "(LUnitTurns$Block;I)V"⟩
abbrev cX2_weigh : ByteArray := prog_4_method_3_code
def yX2_weigh : MethodName := ⟨RX2, "weigh", "(LUnitTurns$Block;I)V"⟩
abbrev cX2_sort : ByteArray := prog_4_method_4_code
def yX2_sort : MethodName := ⟨RX2, "sort", "(I)V"⟩
abbrev cX2_beginAt : ByteArray := prog_4_method_5_code
def yX2_beginAt : MethodName := ⟨RX2, "beginAt", "(LUnitTurns$Block;I)I"⟩
abbrev cX2_isReady : ByteArray := prog_4_method_6_code
def yX2_isReady : MethodName := ⟨RX2, "isReady", "(LUnitTurns$Block;II)Z"⟩
abbrev cX2_isFree : ByteArray := prog_4_method_7_code
def yX2_isFree : MethodName := ⟨RX2, "isFree", "(LUnitTurns$Block;II)Z"⟩
def RX3 : String := "UnitTurns$Rows"
def TX3 : u_T := fun k => match k with
  | 0 => ("UnitTurns$Rows", "least", "[I", true)
  | _ => ("UnitTurns$Rows", "apart", "[I", true)
def tyX3 : Nat → FieldType := fun k => match k with
  | 0 => .array .int
  | _ => .array .int
abbrev wsX30 : List Cond := u_ws RX3 TX3 2
theorem nmX3 : ∀ a, a < 2 → ∀ b, b < 2 → a ≠ b → (TX3 a).2.1 ≠ (TX3 b).2.1 := by decide +kernel
theorem tyX3_ok : ∀ k, k < 2 → parseFieldDescriptor (TX3 k).2.2.1 = some (tyX3 k) := by decide +kernel
abbrev cX3_init : ByteArray := prog_5_method_1_code
def yX3_init : MethodName := ⟨RX3, "<init>", "()V"⟩
abbrev cX3_leastLength : ByteArray := prog_5_method_2_code
def yX3_leastLength : MethodName := ⟨RX3, "leastLength", "(LUnitTurns$Block;[I)I"⟩
abbrev cX3_measureApart : ByteArray := prog_5_method_3_code
def yX3_measureApart : MethodName := ⟨RX3, "measureApart", "(LUnitTurns$Block;[I)V"⟩
abbrev cX3_lengthOfSet : ByteArray := prog_5_method_4_code
def yX3_lengthOfSet : MethodName := ⟨RX3, "lengthOfSet", "(LUnitTurns$Block;[II)I"⟩
abbrev cX3_turnOfLast : ByteArray := prog_5_method_5_code
def yX3_turnOfLast : MethodName := ⟨RX3, "turnOfLast", "(LUnitTurns$Block;[III)I"⟩
def RX4 : String := "UnitTurns$Script"
def TX4 : u_T := fun k => match k with
  | 0 => ("UnitTurns$Script", "bytes", "[I", true)
  | 1 => ("UnitTurns$Script", "letters", "[I", true)
  | 2 => ("UnitTurns$Script", "numbers", "[I", true)
  | 3 => ("UnitTurns$Script", "length", "I", false)
  | 4 => ("UnitTurns$Script", "orders", "I", false)
  | _ => ("UnitTurns$Script", "place", "I", false)
def tyX4 : Nat → FieldType := fun k => match k with
  | 0 => .array .int
  | 1 => .array .int
  | 2 => .array .int
  | 3 => .int
  | 4 => .int
  | _ => .int
abbrev wsX40 : List Cond := u_ws RX4 TX4 6
theorem nmX4 : ∀ a, a < 6 → ∀ b, b < 6 → a ≠ b → (TX4 a).2.1 ≠ (TX4 b).2.1 := by decide +kernel
theorem tyX4_ok : ∀ k, k < 6 → parseFieldDescriptor (TX4 k).2.2.1 = some (tyX4 k) := by decide +kernel
abbrev cX4_init : ByteArray := prog_6_method_1_code
def yX4_init : MethodName := ⟨RX4, "<init>", "()V"⟩
abbrev cX4_append : ByteArray := prog_6_method_2_code
def yX4_append : MethodName := ⟨RX4, "append", "(I)I"⟩
abbrev cX4_empty : ByteArray := prog_6_method_3_code
def yX4_empty : MethodName := ⟨RX4, "empty", "()I"⟩
abbrev cX4_scan : ByteArray := prog_6_method_4_code
def yX4_scan : MethodName := ⟨RX4, "scan", "()I"⟩
abbrev cX4_perform : ByteArray := prog_6_method_5_code
def yX4_perform : MethodName := ⟨RX4, "perform", "(ILUnitTurns$Setup;)I"⟩
abbrev cX4_scanOrder : ByteArray := prog_6_method_6_code
def yX4_scanOrder : MethodName := ⟨RX4, "scanOrder", "()Z"⟩
abbrev cX4_scanNumber : ByteArray := prog_6_method_7_code
def yX4_scanNumber : MethodName := ⟨RX4, "scanNumber", "(I)Z"⟩
abbrev cX4_numbersBehind : ByteArray := prog_6_method_8_code
def yX4_numbersBehind : MethodName := ⟨RX4, "numbersBehind", "(I)I"⟩
abbrev cX4_skipBlanks : ByteArray := prog_6_method_9_code
def yX4_skipBlanks : MethodName := ⟨RX4, "skipBlanks", "()V"⟩
abbrev cX4_isFigureHere : ByteArray := prog_6_method_10_code
def yX4_isFigureHere : MethodName := ⟨RX4, "isFigureHere", "()Z"⟩
abbrev cX4_byteHere : ByteArray := prog_6_method_11_code
def yX4_byteHere : MethodName := ⟨RX4, "byteHere", "()I"⟩
def RX5 : String := "UnitTurns$Search"
def TX5 : u_T := fun k => match k with
  | 0 => ("UnitTurns$Search", "open", "[I", true)
  | 1 => ("UnitTurns$Search", "gap", "[I", true)
  | 2 => ("UnitTurns$Search", "trial", "[I", true)
  | 3 => ("UnitTurns$Search", "turns", "[I", true)
  | 4 => ("UnitTurns$Search", "rows", "LUnitTurns$Rows;", true)
  | 5 => ("UnitTurns$Search", "length", "I", false)
  | _ => ("UnitTurns$Search", "known", "Z", false)
def tyX5 : Nat → FieldType := fun k => match k with
  | 0 => .array .int
  | 1 => .array .int
  | 2 => .array .int
  | 3 => .array .int
  | 4 => .object "UnitTurns$Rows"
  | 5 => .int
  | _ => .boolean
abbrev wsX50 : List Cond := u_ws RX5 TX5 7
theorem nmX5 : ∀ a, a < 7 → ∀ b, b < 7 → a ≠ b → (TX5 a).2.1 ≠ (TX5 b).2.1 := by decide +kernel
theorem tyX5_ok : ∀ k, k < 7 → parseFieldDescriptor (TX5 k).2.2.1 = some (tyX5 k) := by decide +kernel
abbrev cX5_init : ByteArray := prog_7_method_1_code
def yX5_init : MethodName := ⟨RX5, "<init>", "()V"⟩
abbrev cX5_learn : ByteArray := prog_7_method_2_code
def yX5_learn : MethodName := ⟨RX5, "learn", "(LUnitTurns$Block;)V"⟩
abbrev cX5_measureGaps : ByteArray := prog_7_method_3_code
def yX5_measureGaps : MethodName := ⟨RX5, "measureGaps", "(LUnitTurns$Block;)V"⟩
abbrev cX5_widenGap : ByteArray := prog_7_method_4_code
def yX5_widenGap : MethodName := ⟨RX5, "widenGap", "(III)V"⟩
abbrev cX5_areLike : ByteArray := prog_7_method_5_code
def yX5_areLike : MethodName := ⟨RX5, "areLike", "(LUnitTurns$Block;II)Z"⟩
abbrev cX5_hasPlan : ByteArray := prog_7_method_6_code
def yX5_hasPlan : MethodName := ⟨RX5, "hasPlan", "(LUnitTurns$Block;)Z"⟩
abbrev cX5_openAll : ByteArray := prog_7_method_7_code
def yX5_openAll : MethodName := ⟨RX5, "openAll", "(LUnitTurns$Block;)Z"⟩
abbrev cX5_place : ByteArray := prog_7_method_8_code
def yX5_place : MethodName := ⟨RX5, "place", "(LUnitTurns$Block;II)Z"⟩
abbrev cX5_isPossible : ByteArray := prog_7_method_9_code
def yX5_isPossible : MethodName := ⟨RX5, "isPossible", "(LUnitTurns$Block;IIII)Z"⟩
abbrev cX5_tightest : ByteArray := prog_7_method_10_code
def yX5_tightest : MethodName := ⟨RX5, "tightest", "(LUnitTurns$Block;II)I"⟩
abbrev cX5_narrow : ByteArray := prog_7_method_11_code
def yX5_narrow : MethodName := ⟨RX5, "narrow", "(LUnitTurns$Block;III)Z"⟩
abbrev cX5_isFull : ByteArray := prog_7_method_12_code
def yX5_isFull : MethodName := ⟨RX5, "isFull", "(LUnitTurns$Block;II)Z"⟩
abbrev cX5_takeTrial : ByteArray := prog_7_method_13_code
def yX5_takeTrial : MethodName := ⟨RX5, "takeTrial", "(LUnitTurns$Block;)V"⟩
abbrev cX5_takeFirst : ByteArray := prog_7_method_14_code
def yX5_takeFirst : MethodName := ⟨RX5, "takeFirst", "(LUnitTurns$Block;)V"⟩
abbrev cX5_from : ByteArray := prog_7_method_15_code
def yX5_from : MethodName := ⟨RX5, "from", "(I)I"⟩
abbrev cX5_upTo : ByteArray := prog_7_method_16_code
def yX5_upTo : MethodName := ⟨RX5, "upTo", "(I)I"⟩
def RX6 : String := "UnitTurns$Setup"
def TX6 : u_T := fun k => match k with
  | 0 => ("UnitTurns$Setup", "holds", "[I", true)
  | 1 => ("UnitTurns$Setup", "latency", "[I", true)
  | 2 => ("UnitTurns$Setup", "kindOf", "[I", true)
  | 3 => ("UnitTurns$Setup", "sorts", "[I", true)
  | 4 => ("UnitTurns$Setup", "kinds", "I", false)
  | 5 => ("UnitTurns$Setup", "instructions", "I", false)
  | 6 => ("UnitTurns$Setup", "width", "I", false)
  | _ => ("UnitTurns$Setup", "renamed", "I", false)
def tyX6 : Nat → FieldType := fun k => match k with
  | 0 => .array .int
  | 1 => .array .int
  | 2 => .array .int
  | 3 => .array .int
  | 4 => .int
  | 5 => .int
  | 6 => .int
  | _ => .int
abbrev wsX60 : List Cond := u_ws RX6 TX6 8
theorem nmX6 : ∀ a, a < 8 → ∀ b, b < 8 → a ≠ b → (TX6 a).2.1 ≠ (TX6 b).2.1 := by decide +kernel
theorem tyX6_ok : ∀ k, k < 8 → parseFieldDescriptor (TX6 k).2.2.1 = some (tyX6 k) := by decide +kernel
abbrev cX6_init : ByteArray := prog_8_method_1_code
def yX6_init : MethodName := ⟨RX6, "<init>", "()V"⟩
abbrev cX6_copyFrom : ByteArray := prog_8_method_2_code
def yX6_copyFrom : MethodName := ⟨RX6, "copyFrom", "(LUnitTurns$Setup;)V"⟩
abbrev cX6_hasKind : ByteArray := prog_8_method_3_code
def yX6_hasKind : MethodName := ⟨RX6, "hasKind", "(I)Z"⟩
abbrev cX6_hasInstruction : ByteArray := prog_8_method_4_code
def yX6_hasInstruction : MethodName := ⟨RX6, "hasInstruction", "(I)Z"⟩
abbrev cX6_addKind : ByteArray := prog_8_method_5_code
def yX6_addKind : MethodName := ⟨RX6, "addKind", "(IIII)I"⟩
abbrev cX6_change : ByteArray := prog_8_method_6_code
def yX6_change : MethodName := ⟨RX6, "change", "(II)I"⟩
abbrev cX6_addInstruction : ByteArray := prog_8_method_7_code
def yX6_addInstruction : MethodName := ⟨RX6, "addInstruction", "(I)I"⟩
abbrev cX6_changeNeed : ByteArray := prog_8_method_8_code
def yX6_changeNeed : MethodName := ⟨RX6, "changeNeed", "(III)I"⟩
abbrev cX6_removeInstruction : ByteArray := prog_8_method_9_code
def yX6_removeInstruction : MethodName := ⟨RX6, "removeInstruction", "(I)I"⟩
abbrev cX6_instructionsOf : ByteArray := prog_8_method_10_code
def yX6_instructionsOf : MethodName := ⟨RX6, "instructionsOf", "(I)I"⟩
abbrev cX6_needsOf : ByteArray := prog_8_method_11_code
def yX6_needsOf : MethodName := ⟨RX6, "needsOf", "(II)I"⟩
abbrev cX6_delay : ByteArray := prog_8_method_12_code
def yX6_delay : MethodName := ⟨RX6, "delay", "(II)I"⟩
abbrev cX6_isHold : ByteArray := prog_8_method_13_code
def yX6_isHold : MethodName := ⟨RX6, "isHold", "(I)Z"⟩
abbrev cX6_clearNeedsFrom : ByteArray := prog_8_method_14_code
def yX6_clearNeedsFrom : MethodName := ⟨RX6, "clearNeedsFrom", "(I)V"⟩
abbrev cX6_reaches : ByteArray := prog_8_method_15_code
def yX6_reaches : MethodName := ⟨RX6, "reaches", "(II)Z"⟩
abbrev cX6_neededBy : ByteArray := prog_8_method_16_code
def yX6_neededBy : MethodName := ⟨RX6, "neededBy", "(I)I"⟩
def RX7 : String := "UnitTurns$Trail"
def TX7 : u_T := fun k => match k with
  | 0 => ("UnitTurns$Trail", "kept", "[LUnitTurns$Setup;", true)
  | 1 => ("UnitTurns$Trail", "next", "I", false)
  | _ => ("UnitTurns$Trail", "size", "I", false)
def tyX7 : Nat → FieldType := fun k => match k with
  | 0 => .array (.object "UnitTurns$Setup")
  | 1 => .int
  | _ => .int
abbrev wsX70 : List Cond := u_ws RX7 TX7 3
theorem nmX7 : ∀ a, a < 3 → ∀ b, b < 3 → a ≠ b → (TX7 a).2.1 ≠ (TX7 b).2.1 := by decide +kernel
theorem tyX7_ok : ∀ k, k < 3 → parseFieldDescriptor (TX7 k).2.2.1 = some (tyX7 k) := by decide +kernel
abbrev cX7_init : ByteArray := prog_9_method_1_code
def yX7_init : MethodName := ⟨RX7, "<init>", "()V"⟩
abbrev cX7_keep : ByteArray := prog_9_method_2_code
def yX7_keep : MethodName := ⟨RX7, "keep", "(LUnitTurns$Setup;)V"⟩
abbrev cX7_takeInto : ByteArray := prog_9_method_3_code
def yX7_takeInto : MethodName := ⟨RX7, "takeInto", "(LUnitTurns$Setup;)Z"⟩
def RX8 : String := "UnitTurns"
def TX8 : u_T := fun k => match k with
  | 0 => ("UnitTurns", "current", "LUnitTurns$Setup;", true)
  | 1 => ("UnitTurns", "draft", "LUnitTurns$Setup;", true)
  | 2 => ("UnitTurns", "trail", "LUnitTurns$Trail;", true)
  | 3 => ("UnitTurns", "chart", "LUnitTurns$Chart;", true)
  | 4 => ("UnitTurns", "block", "LUnitTurns$Block;", true)
  | 5 => ("UnitTurns", "ranks", "LUnitTurns$Ranks;", true)
  | 6 => ("UnitTurns", "search", "LUnitTurns$Search;", true)
  | 7 => ("UnitTurns", "script", "LUnitTurns$Script;", true)
  | _ => ("UnitTurns", "refusals", "[I", true)
def tyX8 : Nat → FieldType := fun k => match k with
  | 0 => .object "UnitTurns$Setup"
  | 1 => .object "UnitTurns$Setup"
  | 2 => .object "UnitTurns$Trail"
  | 3 => .object "UnitTurns$Chart"
  | 4 => .object "UnitTurns$Block"
  | 5 => .object "UnitTurns$Ranks"
  | 6 => .object "UnitTurns$Search"
  | 7 => .object "UnitTurns$Script"
  | _ => .array .int
abbrev wsX80 : List Cond := u_ws RX8 TX8 9
theorem nmX8 : ∀ a, a < 9 → ∀ b, b < 9 → a ≠ b → (TX8 a).2.1 ≠ (TX8 b).2.1 := by decide +kernel
theorem tyX8_ok : ∀ k, k < 9 → parseFieldDescriptor (TX8 k).2.2.1 = some (tyX8 k) := by decide +kernel
abbrev cX8_init : ByteArray := prog_1_method_1_code
def yX8_init : MethodName := ⟨RX8, "<init>", "()V"⟩
abbrev cX8_kind : ByteArray := prog_1_method_2_code
def yX8_kind : MethodName := ⟨RX8, "kind", "(IIII)I"⟩
abbrev cX8_sets : ByteArray := prog_1_method_3_code
def yX8_sets : MethodName := ⟨RX8, "sets", "(II)I"⟩
abbrev cX8_of : ByteArray := prog_1_method_4_code
def yX8_of : MethodName := ⟨RX8, "of", "(II)I"⟩
abbrev cX8_states : ByteArray := prog_1_method_5_code
def yX8_states : MethodName := ⟨RX8, "states", "()I"⟩
abbrev cX8_state : ByteArray := prog_1_method_6_code
def yX8_state : MethodName := ⟨RX8, "state", "(II)I"⟩
abbrev cX8_classes : ByteArray := prog_1_method_7_code
def yX8_classes : MethodName := ⟨RX8, "classes", "()I"⟩
abbrev cX8_alike : ByteArray := prog_1_method_8_code
def yX8_alike : MethodName := ⟨RX8, "alike", "(II)I"⟩
abbrev cX8_instruction : ByteArray := prog_1_method_9_code
def yX8_instruction : MethodName := ⟨RX8, "instruction", "(I)I"⟩
abbrev cX8_needs : ByteArray := prog_1_method_10_code
def yX8_needs : MethodName := ⟨RX8, "needs", "(III)I"⟩
abbrev cX8_drops : ByteArray := prog_1_method_11_code
def yX8_drops : MethodName := ⟨RX8, "drops", "(I)I"⟩
abbrev cX8_about : ByteArray := prog_1_method_12_code
def yX8_about : MethodName := ⟨RX8, "about", "(II)I"⟩
abbrev cX8_bound : ByteArray := prog_1_method_13_code
def yX8_bound : MethodName := ⟨RX8, "bound", "()I"⟩
abbrev cX8_best : ByteArray := prog_1_method_14_code
def yX8_best : MethodName := ⟨RX8, "best", "(I)I"⟩
abbrev cX8_ranked : ByteArray := prog_1_method_15_code
def yX8_ranked : MethodName := ⟨RX8, "ranked", "(II)I"⟩
abbrev cX8_plan : ByteArray := prog_1_method_16_code
def yX8_plan : MethodName := ⟨RX8, "plan", "(I)I"⟩
abbrev cX8_type : ByteArray := prog_1_method_17_code
def yX8_type : MethodName := ⟨RX8, "type", "(I)I"⟩
abbrev cX8_clear : ByteArray := prog_1_method_18_code
def yX8_clear : MethodName := ⟨RX8, "clear", "()I"⟩
abbrev cX8_reads : ByteArray := prog_1_method_19_code
def yX8_reads : MethodName := ⟨RX8, "reads", "()I"⟩
abbrev cX8_back : ByteArray := prog_1_method_20_code
def yX8_back : MethodName := ⟨RX8, "back", "()I"⟩
abbrev cX8_told : ByteArray := prog_1_method_21_code
def yX8_told : MethodName := ⟨RX8, "told", "(I)I"⟩
abbrev cX8_digest : ByteArray := prog_1_method_22_code
def yX8_digest : MethodName := ⟨RX8, "digest", "()J"⟩
abbrev cX8_settled : ByteArray := prog_1_method_23_code
def yX8_settled : MethodName := ⟨RX8, "settled", "(I)I"⟩
abbrev cX8_counted : ByteArray := prog_1_method_24_code
def yX8_counted : MethodName := ⟨RX8, "counted", "(I)I"⟩
abbrev cX8_forgetAnswers : ByteArray := prog_1_method_25_code
def yX8_forgetAnswers : MethodName := ⟨RX8, "forgetAnswers", "()V"⟩
abbrev cX8_kindFact : ByteArray := prog_1_method_26_code
def yX8_kindFact : MethodName := ⟨RX8, "kindFact", "(II)I"⟩
abbrev cX8_instructionFact : ByteArray := prog_1_method_27_code
def yX8_instructionFact : MethodName := ⟨RX8, "instructionFact", "(II)I"⟩
abbrev cX8_rankedLength : ByteArray := prog_1_method_28_code
def yX8_rankedLength : MethodName := ⟨RX8, "rankedLength", "(I)I"⟩
abbrev cX8_figure : ByteArray := prog_1_method_29_code
def yX8_figure : MethodName := ⟨RX8, "figure", "(I)I"⟩
abbrev cX8_unitOf : ByteArray := prog_1_method_30_code
def yX8_unitOf : MethodName := ⟨RX8, "unitOf", "(II)I"⟩
abbrev cX8_passed : ByteArray := prog_1_method_31_code
def yX8_passed : MethodName := ⟨RX8, "passed", "(II)I"⟩
abbrev cX8_powerOfTen : ByteArray := prog_1_method_32_code
def yX8_powerOfTen : MethodName := ⟨RX8, "powerOfTen", "(I)I"⟩
abbrev cX8_pair : ByteArray := prog_1_method_33_code
def yX8_pair : MethodName := ⟨RX8, "pair", "(II)I"⟩
def RX9 : String := "UnitTurnsModel"
def TX9 : u_T := fun k => match k with
  | 0 => ("UnitTurnsModel", "now", "[I", true)
  | 1 => ("UnitTurnsModel", "held", "[I", true)
  | 2 => ("UnitTurnsModel", "past", "[I", true)
  | 3 => ("UnitTurnsModel", "pasts", "I", false)
  | 4 => ("UnitTurnsModel", "refused", "[I", true)
  | 5 => ("UnitTurnsModel", "isLaid", "Z", false)
  | 6 => ("UnitTurnsModel", "stateMany", "I", false)
  | 7 => ("UnitTurnsModel", "states", "[I", true)
  | 8 => ("UnitTurnsModel", "leadsTo", "[I", true)
  | 9 => ("UnitTurnsModel", "classMany", "I", false)
  | 10 => ("UnitTurnsModel", "classOf", "[I", true)
  | 11 => ("UnitTurnsModel", "finer", "[I", true)
  | 12 => ("UnitTurnsModel", "ways", "[I", true)
  | 13 => ("UnitTurnsModel", "firsts", "[I", true)
  | 14 => ("UnitTurnsModel", "turns", "[I", true)
  | 15 => ("UnitTurnsModel", "busy", "[J", true)
  | 16 => ("UnitTurnsModel", "order", "[I", true)
  | 17 => ("UnitTurnsModel", "text", "[I", true)
  | 18 => ("UnitTurnsModel", "typed", "I", false)
  | 19 => ("UnitTurnsModel", "at", "I", false)
  | 20 => ("UnitTurnsModel", "fault", "I", false)
  | 21 => ("UnitTurnsModel", "orders", "I", false)
  | 22 => ("UnitTurnsModel", "letters", "[I", true)
  | 23 => ("UnitTurnsModel", "numbers", "[I", true)
  | _ => ("UnitTurnsModel", "h", "J", false)
def tyX9 : Nat → FieldType := fun k => match k with
  | 0 => .array .int
  | 1 => .array .int
  | 2 => .array .int
  | 3 => .int
  | 4 => .array .int
  | 5 => .boolean
  | 6 => .int
  | 7 => .array .int
  | 8 => .array .int
  | 9 => .int
  | 10 => .array .int
  | 11 => .array .int
  | 12 => .array .int
  | 13 => .array .int
  | 14 => .array .int
  | 15 => .array .long
  | 16 => .array .int
  | 17 => .array .int
  | 18 => .int
  | 19 => .int
  | 20 => .int
  | 21 => .int
  | 22 => .array .int
  | 23 => .array .int
  | _ => .long
abbrev wsX90 : List Cond := u_ws RX9 TX9 25
theorem nmX9 : ∀ a, a < 25 → ∀ b, b < 25 → a ≠ b → (TX9 a).2.1 ≠ (TX9 b).2.1 := by decide +kernel
theorem tyX9_ok : ∀ k, k < 25 → parseFieldDescriptor (TX9 k).2.2.1 = some (tyX9 k) := by decide +kernel
abbrev cX9_init : ByteArray := prog_11_method_1_code
def yX9_init : MethodName := ⟨RX9, "<init>", "()V"⟩
abbrev cX9_in : ByteArray := prog_11_method_2_code
def yX9_in : MethodName := ⟨RX9, "in", "(III)Z"⟩
abbrev cX9_has : ByteArray := prog_11_method_3_code
def yX9_has : MethodName := ⟨RX9, "has", "(II)Z"⟩
abbrev cX9_refuses : ByteArray := prog_11_method_4_code
def yX9_refuses : MethodName := ⟨RX9, "refuses", "(I)I"⟩
abbrev cX9_hold : ByteArray := prog_11_method_5_code
def yX9_hold : MethodName := ⟨RX9, "hold", "()V"⟩
abbrev cX9_push : ByteArray := prog_11_method_6_code
def yX9_push : MethodName := ⟨RX9, "push", "()V"⟩
abbrev cX9_ends : ByteArray := prog_11_method_7_code
def yX9_ends : MethodName := ⟨RX9, "ends", "(I)I"⟩
abbrev cX9_back : ByteArray := prog_11_method_8_code
def yX9_back : MethodName := ⟨RX9, "back", "()I"⟩
abbrev cX9_isKind : ByteArray := prog_11_method_9_code
def yX9_isKind : MethodName := ⟨RX9, "isKind", "(I)Z"⟩
abbrev cX9_isOne : ByteArray := prog_11_method_10_code
def yX9_isOne : MethodName := ⟨RX9, "isOne", "(I)Z"⟩
abbrev cX9_ofKind : ByteArray := prog_11_method_11_code
def yX9_ofKind : MethodName := ⟨RX9, "ofKind", "(II)I"⟩
abbrev cX9_ofOne : ByteArray := prog_11_method_12_code
def yX9_ofOne : MethodName := ⟨RX9, "ofOne", "(II)I"⟩
abbrev cX9_latency : ByteArray := prog_11_method_13_code
def yX9_latency : MethodName := ⟨RX9, "latency", "(I)I"⟩
abbrev cX9_needOf : ByteArray := prog_11_method_14_code
def yX9_needOf : MethodName := ⟨RX9, "needOf", "(II)I"⟩
abbrev cX9_counts : ByteArray := prog_11_method_15_code
def yX9_counts : MethodName := ⟨RX9, "counts", "(II)I"⟩
abbrev cX9_doKind : ByteArray := prog_11_method_16_code
def yX9_doKind : MethodName := ⟨RX9, "doKind", "(IIII)I"⟩
abbrev cX9_doSets : ByteArray := prog_11_method_17_code
def yX9_doSets : MethodName := ⟨RX9, "doSets", "(II)I"⟩
abbrev cX9_doInstruction : ByteArray := prog_11_method_18_code
def yX9_doInstruction : MethodName := ⟨RX9, "doInstruction", "(I)I"⟩
abbrev cX9_leads : ByteArray := prog_11_method_19_code
def yX9_leads : MethodName := ⟨RX9, "leads", "(II)Z"⟩
abbrev cX9_doNeeds : ByteArray := prog_11_method_20_code
def yX9_doNeeds : MethodName := ⟨RX9, "doNeeds", "(III)I"⟩
abbrev cX9_doDrops : ByteArray := prog_11_method_21_code
def yX9_doDrops : MethodName := ⟨RX9, "doDrops", "(I)I"⟩
abbrev cX9_kind : ByteArray := prog_11_method_22_code
def yX9_kind : MethodName := ⟨RX9, "kind", "(IIII)I"⟩
abbrev cX9_sets : ByteArray := prog_11_method_23_code
def yX9_sets : MethodName := ⟨RX9, "sets", "(II)I"⟩
abbrev cX9_instruction : ByteArray := prog_11_method_24_code
def yX9_instruction : MethodName := ⟨RX9, "instruction", "(I)I"⟩
abbrev cX9_needs : ByteArray := prog_11_method_25_code
def yX9_needs : MethodName := ⟨RX9, "needs", "(III)I"⟩
abbrev cX9_drops : ByteArray := prog_11_method_26_code
def yX9_drops : MethodName := ⟨RX9, "drops", "(I)I"⟩
abbrev cX9_holds : ByteArray := prog_11_method_27_code
def yX9_holds : MethodName := ⟨RX9, "holds", "(I)I"⟩
abbrev cX9_read : ByteArray := prog_11_method_28_code
def yX9_read : MethodName := ⟨RX9, "read", "(II)I"⟩
abbrev cX9_number : ByteArray := prog_11_method_29_code
def yX9_number : MethodName := ⟨RX9, "number", "(I)I"⟩
abbrev cX9_findStates : ByteArray := prog_11_method_30_code
def yX9_findStates : MethodName := ⟨RX9, "findStates", "()V"⟩
abbrev cX9_areAlike : ByteArray := prog_11_method_31_code
def yX9_areAlike : MethodName := ⟨RX9, "areAlike", "(II)Z"⟩
abbrev cX9_findClasses : ByteArray := prog_11_method_32_code
def yX9_findClasses : MethodName := ⟨RX9, "findClasses", "()V"⟩
abbrev cX9_isMuch : ByteArray := prog_11_method_33_code
def yX9_isMuch : MethodName := ⟨RX9, "isMuch", "()Z"⟩
abbrev cX9_states : ByteArray := prog_11_method_34_code
def yX9_states : MethodName := ⟨RX9, "states", "()I"⟩
abbrev cX9_state : ByteArray := prog_11_method_35_code
def yX9_state : MethodName := ⟨RX9, "state", "(II)I"⟩
abbrev cX9_classes : ByteArray := prog_11_method_36_code
def yX9_classes : MethodName := ⟨RX9, "classes", "()I"⟩
abbrev cX9_alike : ByteArray := prog_11_method_37_code
def yX9_alike : MethodName := ⟨RX9, "alike", "(II)I"⟩
abbrev cX9_span : ByteArray := prog_11_method_38_code
def yX9_span : MethodName := ⟨RX9, "span", "(I)I"⟩
abbrev cX9_behind : ByteArray := prog_11_method_39_code
def yX9_behind : MethodName := ⟨RX9, "behind", "(II)I"⟩
abbrev cX9_findWays : ByteArray := prog_11_method_40_code
def yX9_findWays : MethodName := ⟨RX9, "findWays", "()V"⟩
abbrev cX9_heldTurns : ByteArray := prog_11_method_41_code
def yX9_heldTurns : MethodName := ⟨RX9, "heldTurns", "(I)I"⟩
abbrev cX9_boundOf : ByteArray := prog_11_method_42_code
def yX9_boundOf : MethodName := ⟨RX9, "boundOf", "()I"⟩
abbrev cX9_bound : ByteArray := prog_11_method_43_code
def yX9_bound : MethodName := ⟨RX9, "bound", "()I"⟩
abbrev cX9_isFree : ByteArray := prog_11_method_44_code
def yX9_isFree : MethodName := ⟨RX9, "isFree", "(II)Z"⟩
abbrev cX9_exchange : ByteArray := prog_11_method_45_code
def yX9_exchange : MethodName := ⟨RX9, "exchange", "(II)V"⟩
abbrev cX9_clearAll : ByteArray := prog_11_method_46_code
def yX9_clearAll : MethodName := ⟨RX9, "clearAll", "()V"⟩
abbrev cX9_mayBegin : ByteArray := prog_11_method_47_code
def yX9_mayBegin : MethodName := ⟨RX9, "mayBegin", "(III)Z"⟩
abbrev cX9_isFound : ByteArray := prog_11_method_48_code
def yX9_isFound : MethodName := ⟨RX9, "isFound", "(I)Z"⟩
abbrev cX9_lengthOf : ByteArray := prog_11_method_49_code
def yX9_lengthOf : MethodName := ⟨RX9, "lengthOf", "()I"⟩
abbrev cX9_findBest : ByteArray := prog_11_method_50_code
def yX9_findBest : MethodName := ⟨RX9, "findBest", "()I"⟩
abbrev cX9_best : ByteArray := prog_11_method_51_code
def yX9_best : MethodName := ⟨RX9, "best", "(I)I"⟩
abbrev cX9_rank : ByteArray := prog_11_method_52_code
def yX9_rank : MethodName := ⟨RX9, "rank", "(II)I"⟩
abbrev cX9_findOrder : ByteArray := prog_11_method_53_code
def yX9_findOrder : MethodName := ⟨RX9, "findOrder", "(I)V"⟩
abbrev cX9_isReady : ByteArray := prog_11_method_54_code
def yX9_isReady : MethodName := ⟨RX9, "isReady", "(II)Z"⟩
abbrev cX9_findRanked : ByteArray := prog_11_method_55_code
def yX9_findRanked : MethodName := ⟨RX9, "findRanked", "(I)I"⟩
abbrev cX9_ranked : ByteArray := prog_11_method_56_code
def yX9_ranked : MethodName := ⟨RX9, "ranked", "(II)I"⟩
abbrev cX9_plan : ByteArray := prog_11_method_57_code
def yX9_plan : MethodName := ⟨RX9, "plan", "(I)I"⟩
abbrev cX9_toldOfKind : ByteArray := prog_11_method_58_code
def yX9_toldOfKind : MethodName := ⟨RX9, "toldOfKind", "(II)I"⟩
abbrev cX9_of : ByteArray := prog_11_method_59_code
def yX9_of : MethodName := ⟨RX9, "of", "(II)I"⟩
abbrev cX9_aboutOne : ByteArray := prog_11_method_60_code
def yX9_aboutOne : MethodName := ⟨RX9, "aboutOne", "(II)I"⟩
abbrev cX9_about : ByteArray := prog_11_method_61_code
def yX9_about : MethodName := ⟨RX9, "about", "(II)I"⟩
abbrev cX9_type : ByteArray := prog_11_method_62_code
def yX9_type : MethodName := ⟨RX9, "type", "(I)I"⟩
abbrev cX9_clear : ByteArray := prog_11_method_63_code
def yX9_clear : MethodName := ⟨RX9, "clear", "()I"⟩
abbrev cX9_here : ByteArray := prog_11_method_64_code
def yX9_here : MethodName := ⟨RX9, "here", "()I"⟩
abbrev cX9_must : ByteArray := prog_11_method_65_code
def yX9_must : MethodName := ⟨RX9, "must", "(Z)V"⟩
abbrev cX9_isFigure : ByteArray := prog_11_method_66_code
def yX9_isFigure : MethodName := ⟨RX9, "isFigure", "()Z"⟩
abbrev cX9_figures : ByteArray := prog_11_method_67_code
def yX9_figures : MethodName := ⟨RX9, "figures", "()I"⟩
abbrev cX9_numbersOf : ByteArray := prog_11_method_68_code
def yX9_numbersOf : MethodName := ⟨RX9, "numbersOf", "(I)I"⟩
abbrev cX9_readOrder : ByteArray := prog_11_method_69_code
def yX9_readOrder : MethodName := ⟨RX9, "readOrder", "()V"⟩
abbrev cX9_doOrder : ByteArray := prog_11_method_70_code
def yX9_doOrder : MethodName := ⟨RX9, "doOrder", "(I)I"⟩
abbrev cX9_reads : ByteArray := prog_11_method_71_code
def yX9_reads : MethodName := ⟨RX9, "reads", "()I"⟩
abbrev cX9_toldOf : ByteArray := prog_11_method_72_code
def yX9_toldOf : MethodName := ⟨RX9, "toldOf", "(I)I"⟩
abbrev cX9_told : ByteArray := prog_11_method_73_code
def yX9_told : MethodName := ⟨RX9, "told", "(I)I"⟩
abbrev cX9_mix : ByteArray := prog_11_method_74_code
def yX9_mix : MethodName := ⟨RX9, "mix", "(I)V"⟩
abbrev cX9_digest : ByteArray := prog_11_method_75_code
def yX9_digest : MethodName := ⟨RX9, "digest", "()J"⟩
def RJ6 : String := "java/lang/Integer"
def TJ6 : u_T := fun k => match k with
  | _ => ("", "", "", false)
def tyJ6 : Nat → FieldType := fun k => match k with
  | _ => .int
abbrev wsJ60 : List Cond := u_ws RJ6 TJ6 0
theorem nmJ6 : ∀ a, a < 0 → ∀ b, b < 0 → a ≠ b → (TJ6 a).2.1 ≠ (TJ6 b).2.1 := by decide +kernel
theorem tyJ6_ok : ∀ k, k < 0 → parseFieldDescriptor (TJ6 k).2.2.1 = some (tyJ6 k) := by decide +kernel
abbrev cJ6_bitCount_0f7a4 : ByteArray := prog_12_method_49_code
def yJ6_bitCount_0f7a4 : MethodName := ⟨RJ6, "bitCount", "(I)I"⟩
def RJ9 : String := "java/lang/Math"
def TJ9 : u_T := fun k => match k with
  | _ => ("", "", "", false)
def tyJ9 : Nat → FieldType := fun k => match k with
  | _ => .int
abbrev wsJ90 : List Cond := u_ws RJ9 TJ9 0
theorem nmJ9 : ∀ a, a < 0 → ∀ b, b < 0 → a ≠ b → (TJ9 a).2.1 ≠ (TJ9 b).2.1 := by decide +kernel
theorem tyJ9_ok : ∀ k, k < 0 → parseFieldDescriptor (TJ9 k).2.2.1 = some (tyJ9 k) := by decide +kernel
abbrev cJ9_max_7cf53 : ByteArray := prog_13_method_65_code
def yJ9_max_7cf53 : MethodName := ⟨RJ9, "max", "(II)I"⟩
abbrev cJ9_min_7cf53 : ByteArray := prog_13_method_69_code
def yJ9_min_7cf53 : MethodName := ⟨RJ9, "min", "(II)I"⟩
def RJ10 : String := "java/lang/System"
def TJ10 : u_T := fun k => match k with
  | _ => ("", "", "", false)
def tyJ10 : Nat → FieldType := fun k => match k with
  | _ => .int
abbrev wsJ100 : List Cond := u_ws RJ10 TJ10 0
theorem nmJ10 : ∀ a, a < 0 → ∀ b, b < 0 → a ≠ b → (TJ10 a).2.1 ≠ (TJ10 b).2.1 := by decide +kernel
theorem tyJ10_ok : ∀ k, k < 0 → parseFieldDescriptor (TJ10 k).2.2.1 = some (tyJ10 k) := by decide +kernel
def RJ7 : String := "java/util/Arrays"
def TJ7 : u_T := fun k => match k with
  | _ => ("", "", "", false)
def tyJ7 : Nat → FieldType := fun k => match k with
  | _ => .int
abbrev wsJ70 : List Cond := u_ws RJ7 TJ7 0
theorem nmJ7 : ∀ a, a < 0 → ∀ b, b < 0 → a ≠ b → (TJ7 a).2.1 ≠ (TJ7 b).2.1 := by decide +kernel
theorem tyJ7_ok : ∀ k, k < 0 → parseFieldDescriptor (TJ7 k).2.2.1 = some (tyJ7 k) := by decide +kernel
abbrev cJ7_fill_53178 : ByteArray := prog_15_method_103_code
def yJ7_fill_53178 : MethodName := ⟨RJ7, "fill", "([II)V"⟩
def RL : String := "UnitTurnsLaw"
abbrev cL_law : ByteArray := code
def yL_law : MethodName := ⟨RL, "law", "([I)Z"⟩
abbrev vwCl : List vw_C := [(RX0, TX0, 10), (RX1, TX1, 7), (RX2, TX2, 3), (RX3, TX3, 2), (RX4, TX4, 6), (RX5, TX5, 7), (RX6, TX6, 8), (RX7, TX7, 3), (RX8, TX8, 9), (RX9, TX9, 25)]
