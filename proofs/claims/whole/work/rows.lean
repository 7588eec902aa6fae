section
-- ===== PART A: goes FIRST, ahead of the names: the tables' words, and 'selects' of the private methods out of them =====
/-- a private method of a class that the tables say can be made, by its rows of tables_1 -/
def lw_okq (q : MethodName × Nat) : Prop := (q.1.cls ≠ "java/lang/invoke/MethodHandle" ∧ q.1.cls ≠ "java/lang/invoke/VarHandle") ∧ Cond.instantiable q.1.cls q.2 ∈ tables_1 ∧ Cond.privateMethod q.1 ∈ tables_1 ∧ Cond.instanceMethod q.1 ∈ tables_1
theorem lw_p0 : lw_okq (⟨"UnitTurns", "settled", "(I)I"⟩, 9) := ⟨⟨by decide +kernel, by decide +kernel⟩, List.mem_of_getElem? (i := 16) (by decide +kernel), List.mem_of_getElem? (i := 310) (by decide +kernel), List.mem_of_getElem? (i := 311) (by decide +kernel)⟩
theorem lw_p1 : lw_okq (⟨"UnitTurns", "counted", "(I)I"⟩, 9) := ⟨⟨by decide +kernel, by decide +kernel⟩, List.mem_of_getElem? (i := 16) (by decide +kernel), List.mem_of_getElem? (i := 314) (by decide +kernel), List.mem_of_getElem? (i := 315) (by decide +kernel)⟩
theorem lw_p2 : lw_okq (⟨"UnitTurns", "forgetAnswers", "()V"⟩, 9) := ⟨⟨by decide +kernel, by decide +kernel⟩, List.mem_of_getElem? (i := 16) (by decide +kernel), List.mem_of_getElem? (i := 323) (by decide +kernel), List.mem_of_getElem? (i := 324) (by decide +kernel)⟩
theorem lw_p3 : lw_okq (⟨"UnitTurns", "kindFact", "(II)I"⟩, 9) := ⟨⟨by decide +kernel, by decide +kernel⟩, List.mem_of_getElem? (i := 16) (by decide +kernel), List.mem_of_getElem? (i := 343) (by decide +kernel), List.mem_of_getElem? (i := 344) (by decide +kernel)⟩
theorem lw_p4 : lw_okq (⟨"UnitTurns$Chart", "forgetStates", "()V"⟩, 7) := ⟨⟨by decide +kernel, by decide +kernel⟩, List.mem_of_getElem? (i := 90) (by decide +kernel), List.mem_of_getElem? (i := 362) (by decide +kernel), List.mem_of_getElem? (i := 363) (by decide +kernel)⟩
theorem lw_p5 : lw_okq (⟨"UnitTurns$Chart", "findStates", "(LUnitTurns$Setup;)V"⟩, 7) := ⟨⟨by decide +kernel, by decide +kernel⟩, List.mem_of_getElem? (i := 90) (by decide +kernel), List.mem_of_getElem? (i := 366) (by decide +kernel), List.mem_of_getElem? (i := 367) (by decide +kernel)⟩
theorem lw_p6 : lw_okq (⟨"UnitTurns$Chart", "note", "(I)V"⟩, 7) := ⟨⟨by decide +kernel, by decide +kernel⟩, List.mem_of_getElem? (i := 90) (by decide +kernel), List.mem_of_getElem? (i := 370) (by decide +kernel), List.mem_of_getElem? (i := 371) (by decide +kernel)⟩
theorem lw_p7 : lw_okq (⟨"UnitTurns$Chart", "tellClasses", "(LUnitTurns$Setup;)V"⟩, 7) := ⟨⟨by decide +kernel, by decide +kernel⟩, List.mem_of_getElem? (i := 90) (by decide +kernel), List.mem_of_getElem? (i := 377) (by decide +kernel), List.mem_of_getElem? (i := 378) (by decide +kernel)⟩
theorem lw_p8 : lw_okq (⟨"UnitTurns$Chart", "isFirstOfClass", "(I)Z"⟩, 7) := ⟨⟨by decide +kernel, by decide +kernel⟩, List.mem_of_getElem? (i := 90) (by decide +kernel), List.mem_of_getElem? (i := 384) (by decide +kernel), List.mem_of_getElem? (i := 385) (by decide +kernel)⟩
theorem lw_p9 : lw_okq (⟨"UnitTurns$Setup", "reaches", "(II)Z"⟩, 8) := ⟨⟨by decide +kernel, by decide +kernel⟩, List.mem_of_getElem? (i := 24) (by decide +kernel), List.mem_of_getElem? (i := 442) (by decide +kernel), List.mem_of_getElem? (i := 443) (by decide +kernel)⟩
theorem lw_p10 : lw_okq (⟨"UnitTurns$Setup", "neededBy", "(I)I"⟩, 8) := ⟨⟨by decide +kernel, by decide +kernel⟩, List.mem_of_getElem? (i := 24) (by decide +kernel), List.mem_of_getElem? (i := 446) (by decide +kernel), List.mem_of_getElem? (i := 447) (by decide +kernel)⟩
theorem lw_p11 : lw_okq (⟨"UnitTurns$Setup", "clearNeedsFrom", "(I)V"⟩, 8) := ⟨⟨by decide +kernel, by decide +kernel⟩, List.mem_of_getElem? (i := 24) (by decide +kernel), List.mem_of_getElem? (i := 461) (by decide +kernel), List.mem_of_getElem? (i := 462) (by decide +kernel)⟩
theorem lw_p12 : lw_okq (⟨"UnitTurns", "instructionFact", "(II)I"⟩, 9) := ⟨⟨by decide +kernel, by decide +kernel⟩, List.mem_of_getElem? (i := 16) (by decide +kernel), List.mem_of_getElem? (i := 470) (by decide +kernel), List.mem_of_getElem? (i := 471) (by decide +kernel)⟩
theorem lw_p13 : lw_okq (⟨"UnitTurns$Block", "measureWays", "()V"⟩, 10) := ⟨⟨by decide +kernel, by decide +kernel⟩, List.mem_of_getElem? (i := 120) (by decide +kernel), List.mem_of_getElem? (i := 493) (by decide +kernel), List.mem_of_getElem? (i := 494) (by decide +kernel)⟩
theorem lw_p14 : lw_okq (⟨"UnitTurns$Search", "measureGaps", "(LUnitTurns$Block;)V"⟩, 7) := ⟨⟨by decide +kernel, by decide +kernel⟩, List.mem_of_getElem? (i := 193) (by decide +kernel), List.mem_of_getElem? (i := 524) (by decide +kernel), List.mem_of_getElem? (i := 525) (by decide +kernel)⟩
theorem lw_p15 : lw_okq (⟨"UnitTurns$Search", "widenGap", "(III)V"⟩, 7) := ⟨⟨by decide +kernel, by decide +kernel⟩, List.mem_of_getElem? (i := 193) (by decide +kernel), List.mem_of_getElem? (i := 532) (by decide +kernel), List.mem_of_getElem? (i := 533) (by decide +kernel)⟩
def lw_privs_1 : List (MethodName × Nat) := [(⟨"UnitTurns", "settled", "(I)I"⟩, 9), (⟨"UnitTurns", "counted", "(I)I"⟩, 9), (⟨"UnitTurns", "forgetAnswers", "()V"⟩, 9), (⟨"UnitTurns", "kindFact", "(II)I"⟩, 9), (⟨"UnitTurns$Chart", "forgetStates", "()V"⟩, 7), (⟨"UnitTurns$Chart", "findStates", "(LUnitTurns$Setup;)V"⟩, 7), (⟨"UnitTurns$Chart", "note", "(I)V"⟩, 7), (⟨"UnitTurns$Chart", "tellClasses", "(LUnitTurns$Setup;)V"⟩, 7), (⟨"UnitTurns$Chart", "isFirstOfClass", "(I)Z"⟩, 7), (⟨"UnitTurns$Setup", "reaches", "(II)Z"⟩, 8), (⟨"UnitTurns$Setup", "neededBy", "(I)I"⟩, 8), (⟨"UnitTurns$Setup", "clearNeedsFrom", "(I)V"⟩, 8), (⟨"UnitTurns", "instructionFact", "(II)I"⟩, 9), (⟨"UnitTurns$Block", "measureWays", "()V"⟩, 10), (⟨"UnitTurns$Search", "measureGaps", "(LUnitTurns$Block;)V"⟩, 7), (⟨"UnitTurns$Search", "widenGap", "(III)V"⟩, 7)]
theorem lw_r1 : ∀ q ∈ lw_privs_1, lw_okq q := List.forall_mem_cons.mpr ⟨lw_p0, List.forall_mem_cons.mpr ⟨lw_p1, List.forall_mem_cons.mpr ⟨lw_p2, List.forall_mem_cons.mpr ⟨lw_p3, List.forall_mem_cons.mpr ⟨lw_p4, List.forall_mem_cons.mpr ⟨lw_p5, List.forall_mem_cons.mpr ⟨lw_p6, List.forall_mem_cons.mpr ⟨lw_p7, List.forall_mem_cons.mpr ⟨lw_p8, List.forall_mem_cons.mpr ⟨lw_p9, List.forall_mem_cons.mpr ⟨lw_p10, List.forall_mem_cons.mpr ⟨lw_p11, List.forall_mem_cons.mpr ⟨lw_p12, List.forall_mem_cons.mpr ⟨lw_p13, List.forall_mem_cons.mpr ⟨lw_p14, List.forall_mem_cons.mpr ⟨lw_p15, fun _ h => absurd h List.not_mem_nil⟩⟩⟩⟩⟩⟩⟩⟩⟩⟩⟩⟩⟩⟩⟩⟩
theorem lw_p16 : lw_okq (⟨"UnitTurns$Rows", "measureApart", "(LUnitTurns$Block;[I)V"⟩, 2) := ⟨⟨by decide +kernel, by decide +kernel⟩, List.mem_of_getElem? (i := 199) (by decide +kernel), List.mem_of_getElem? (i := 542) (by decide +kernel), List.mem_of_getElem? (i := 543) (by decide +kernel)⟩
theorem lw_p17 : lw_okq (⟨"UnitTurns$Rows", "lengthOfSet", "(LUnitTurns$Block;[II)I"⟩, 2) := ⟨⟨by decide +kernel, by decide +kernel⟩, List.mem_of_getElem? (i := 199) (by decide +kernel), List.mem_of_getElem? (i := 552) (by decide +kernel), List.mem_of_getElem? (i := 553) (by decide +kernel)⟩
theorem lw_p18 : lw_okq (⟨"UnitTurns$Rows", "turnOfLast", "(LUnitTurns$Block;[III)I"⟩, 2) := ⟨⟨by decide +kernel, by decide +kernel⟩, List.mem_of_getElem? (i := 199) (by decide +kernel), List.mem_of_getElem? (i := 556) (by decide +kernel), List.mem_of_getElem? (i := 557) (by decide +kernel)⟩
theorem lw_p19 : lw_okq (⟨"UnitTurns$Search", "hasPlan", "(LUnitTurns$Block;)Z"⟩, 7) := ⟨⟨by decide +kernel, by decide +kernel⟩, List.mem_of_getElem? (i := 193) (by decide +kernel), List.mem_of_getElem? (i := 563) (by decide +kernel), List.mem_of_getElem? (i := 564) (by decide +kernel)⟩
theorem lw_p20 : lw_okq (⟨"UnitTurns$Search", "openAll", "(LUnitTurns$Block;)Z"⟩, 7) := ⟨⟨by decide +kernel, by decide +kernel⟩, List.mem_of_getElem? (i := 193) (by decide +kernel), List.mem_of_getElem? (i := 567) (by decide +kernel), List.mem_of_getElem? (i := 568) (by decide +kernel)⟩
theorem lw_p21 : lw_okq (⟨"UnitTurns$Search", "place", "(LUnitTurns$Block;II)Z"⟩, 7) := ⟨⟨by decide +kernel, by decide +kernel⟩, List.mem_of_getElem? (i := 193) (by decide +kernel), List.mem_of_getElem? (i := 578) (by decide +kernel), List.mem_of_getElem? (i := 579) (by decide +kernel)⟩
theorem lw_p22 : lw_okq (⟨"UnitTurns$Search", "tightest", "(LUnitTurns$Block;II)I"⟩, 7) := ⟨⟨by decide +kernel, by decide +kernel⟩, List.mem_of_getElem? (i := 193) (by decide +kernel), List.mem_of_getElem? (i := 582) (by decide +kernel), List.mem_of_getElem? (i := 583) (by decide +kernel)⟩
theorem lw_p23 : lw_okq (⟨"UnitTurns$Search", "narrow", "(LUnitTurns$Block;III)Z"⟩, 7) := ⟨⟨by decide +kernel, by decide +kernel⟩, List.mem_of_getElem? (i := 193) (by decide +kernel), List.mem_of_getElem? (i := 587) (by decide +kernel), List.mem_of_getElem? (i := 588) (by decide +kernel)⟩
theorem lw_p24 : lw_okq (⟨"UnitTurns$Search", "isFull", "(LUnitTurns$Block;II)Z"⟩, 7) := ⟨⟨by decide +kernel, by decide +kernel⟩, List.mem_of_getElem? (i := 193) (by decide +kernel), List.mem_of_getElem? (i := 591) (by decide +kernel), List.mem_of_getElem? (i := 592) (by decide +kernel)⟩
theorem lw_p25 : lw_okq (⟨"UnitTurns$Search", "takeTrial", "(LUnitTurns$Block;)V"⟩, 7) := ⟨⟨by decide +kernel, by decide +kernel⟩, List.mem_of_getElem? (i := 193) (by decide +kernel), List.mem_of_getElem? (i := 595) (by decide +kernel), List.mem_of_getElem? (i := 596) (by decide +kernel)⟩
theorem lw_p26 : lw_okq (⟨"UnitTurns$Search", "takeFirst", "(LUnitTurns$Block;)V"⟩, 7) := ⟨⟨by decide +kernel, by decide +kernel⟩, List.mem_of_getElem? (i := 193) (by decide +kernel), List.mem_of_getElem? (i := 600) (by decide +kernel), List.mem_of_getElem? (i := 601) (by decide +kernel)⟩
theorem lw_p27 : lw_okq (⟨"UnitTurns$Search", "isPossible", "(LUnitTurns$Block;II)Z"⟩, 7) := ⟨⟨by decide +kernel, by decide +kernel⟩, List.mem_of_getElem? (i := 193) (by decide +kernel), List.mem_of_getElem? (i := 604) (by decide +kernel), List.mem_of_getElem? (i := 605) (by decide +kernel)⟩
theorem lw_p28 : lw_okq (⟨"UnitTurns", "rankedLength", "(I)I"⟩, 9) := ⟨⟨by decide +kernel, by decide +kernel⟩, List.mem_of_getElem? (i := 16) (by decide +kernel), List.mem_of_getElem? (i := 612) (by decide +kernel), List.mem_of_getElem? (i := 613) (by decide +kernel)⟩
theorem lw_p29 : lw_okq (⟨"UnitTurns$Ranks", "weigh", "(LUnitTurns$Block;I)V"⟩, 3) := ⟨⟨by decide +kernel, by decide +kernel⟩, List.mem_of_getElem? (i := 176) (by decide +kernel), List.mem_of_getElem? (i := 620) (by decide +kernel), List.mem_of_getElem? (i := 621) (by decide +kernel)⟩
theorem lw_p30 : lw_okq (⟨"UnitTurns$Ranks", "sort", "(I)V"⟩, 3) := ⟨⟨by decide +kernel, by decide +kernel⟩, List.mem_of_getElem? (i := 176) (by decide +kernel), List.mem_of_getElem? (i := 625) (by decide +kernel), List.mem_of_getElem? (i := 626) (by decide +kernel)⟩
theorem lw_p31 : lw_okq (⟨"UnitTurns$Ranks", "beginAt", "(LUnitTurns$Block;I)I"⟩, 3) := ⟨⟨by decide +kernel, by decide +kernel⟩, List.mem_of_getElem? (i := 176) (by decide +kernel), List.mem_of_getElem? (i := 632) (by decide +kernel), List.mem_of_getElem? (i := 633) (by decide +kernel)⟩
def lw_privs_2 : List (MethodName × Nat) := [(⟨"UnitTurns$Rows", "measureApart", "(LUnitTurns$Block;[I)V"⟩, 2), (⟨"UnitTurns$Rows", "lengthOfSet", "(LUnitTurns$Block;[II)I"⟩, 2), (⟨"UnitTurns$Rows", "turnOfLast", "(LUnitTurns$Block;[III)I"⟩, 2), (⟨"UnitTurns$Search", "hasPlan", "(LUnitTurns$Block;)Z"⟩, 7), (⟨"UnitTurns$Search", "openAll", "(LUnitTurns$Block;)Z"⟩, 7), (⟨"UnitTurns$Search", "place", "(LUnitTurns$Block;II)Z"⟩, 7), (⟨"UnitTurns$Search", "tightest", "(LUnitTurns$Block;II)I"⟩, 7), (⟨"UnitTurns$Search", "narrow", "(LUnitTurns$Block;III)Z"⟩, 7), (⟨"UnitTurns$Search", "isFull", "(LUnitTurns$Block;II)Z"⟩, 7), (⟨"UnitTurns$Search", "takeTrial", "(LUnitTurns$Block;)V"⟩, 7), (⟨"UnitTurns$Search", "takeFirst", "(LUnitTurns$Block;)V"⟩, 7), (⟨"UnitTurns$Search", "isPossible", "(LUnitTurns$Block;II)Z"⟩, 7), (⟨"UnitTurns", "rankedLength", "(I)I"⟩, 9), (⟨"UnitTurns$Ranks", "weigh", "(LUnitTurns$Block;I)V"⟩, 3), (⟨"UnitTurns$Ranks", "sort", "(I)V"⟩, 3), (⟨"UnitTurns$Ranks", "beginAt", "(LUnitTurns$Block;I)I"⟩, 3)]
theorem lw_r2 : ∀ q ∈ lw_privs_2, lw_okq q := List.forall_mem_cons.mpr ⟨lw_p16, List.forall_mem_cons.mpr ⟨lw_p17, List.forall_mem_cons.mpr ⟨lw_p18, List.forall_mem_cons.mpr ⟨lw_p19, List.forall_mem_cons.mpr ⟨lw_p20, List.forall_mem_cons.mpr ⟨lw_p21, List.forall_mem_cons.mpr ⟨lw_p22, List.forall_mem_cons.mpr ⟨lw_p23, List.forall_mem_cons.mpr ⟨lw_p24, List.forall_mem_cons.mpr ⟨lw_p25, List.forall_mem_cons.mpr ⟨lw_p26, List.forall_mem_cons.mpr ⟨lw_p27, List.forall_mem_cons.mpr ⟨lw_p28, List.forall_mem_cons.mpr ⟨lw_p29, List.forall_mem_cons.mpr ⟨lw_p30, List.forall_mem_cons.mpr ⟨lw_p31, fun _ h => absurd h List.not_mem_nil⟩⟩⟩⟩⟩⟩⟩⟩⟩⟩⟩⟩⟩⟩⟩⟩
theorem lw_p32 : lw_okq (⟨"UnitTurns$Ranks", "isReady", "(LUnitTurns$Block;II)Z"⟩, 3) := ⟨⟨by decide +kernel, by decide +kernel⟩, List.mem_of_getElem? (i := 176) (by decide +kernel), List.mem_of_getElem? (i := 636) (by decide +kernel), List.mem_of_getElem? (i := 637) (by decide +kernel)⟩
theorem lw_p33 : lw_okq (⟨"UnitTurns$Ranks", "isFree", "(LUnitTurns$Block;II)Z"⟩, 3) := ⟨⟨by decide +kernel, by decide +kernel⟩, List.mem_of_getElem? (i := 176) (by decide +kernel), List.mem_of_getElem? (i := 640) (by decide +kernel), List.mem_of_getElem? (i := 641) (by decide +kernel)⟩
theorem lw_p34 : lw_okq (⟨"UnitTurns$Block", "isPlan", "([I)Z"⟩, 10) := ⟨⟨by decide +kernel, by decide +kernel⟩, List.mem_of_getElem? (i := 120) (by decide +kernel), List.mem_of_getElem? (i := 660) (by decide +kernel), List.mem_of_getElem? (i := 661) (by decide +kernel)⟩
theorem lw_p35 : lw_okq (⟨"UnitTurns$Script", "skipBlanks", "()V"⟩, 6) := ⟨⟨by decide +kernel, by decide +kernel⟩, List.mem_of_getElem? (i := 237) (by decide +kernel), List.mem_of_getElem? (i := 690) (by decide +kernel), List.mem_of_getElem? (i := 691) (by decide +kernel)⟩
theorem lw_p36 : lw_okq (⟨"UnitTurns$Script", "scanOrder", "()Z"⟩, 6) := ⟨⟨by decide +kernel, by decide +kernel⟩, List.mem_of_getElem? (i := 237) (by decide +kernel), List.mem_of_getElem? (i := 694) (by decide +kernel), List.mem_of_getElem? (i := 695) (by decide +kernel)⟩
theorem lw_p37 : lw_okq (⟨"UnitTurns$Script", "byteHere", "()I"⟩, 6) := ⟨⟨by decide +kernel, by decide +kernel⟩, List.mem_of_getElem? (i := 237) (by decide +kernel), List.mem_of_getElem? (i := 698) (by decide +kernel), List.mem_of_getElem? (i := 699) (by decide +kernel)⟩
theorem lw_p38 : lw_okq (⟨"UnitTurns$Script", "scanNumber", "(I)Z"⟩, 6) := ⟨⟨by decide +kernel, by decide +kernel⟩, List.mem_of_getElem? (i := 237) (by decide +kernel), List.mem_of_getElem? (i := 705) (by decide +kernel), List.mem_of_getElem? (i := 706) (by decide +kernel)⟩
theorem lw_p39 : lw_okq (⟨"UnitTurns$Script", "isFigureHere", "()Z"⟩, 6) := ⟨⟨by decide +kernel, by decide +kernel⟩, List.mem_of_getElem? (i := 237) (by decide +kernel), List.mem_of_getElem? (i := 709) (by decide +kernel), List.mem_of_getElem? (i := 710) (by decide +kernel)⟩
theorem lw_p40 : lw_okq (⟨"UnitTurns", "figure", "(I)I"⟩, 9) := ⟨⟨by decide +kernel, by decide +kernel⟩, List.mem_of_getElem? (i := 16) (by decide +kernel), List.mem_of_getElem? (i := 734) (by decide +kernel), List.mem_of_getElem? (i := 735) (by decide +kernel)⟩
theorem lw_p41 : lw_okq (⟨"UnitTurnsModel", "refuses", "(I)I"⟩, 25) := ⟨⟨by decide +kernel, by decide +kernel⟩, List.mem_of_getElem? (i := 744) (by decide +kernel), List.mem_of_getElem? (i := 831) (by decide +kernel), List.mem_of_getElem? (i := 832) (by decide +kernel)⟩
theorem lw_p42 : lw_okq (⟨"UnitTurnsModel", "hold", "()V"⟩, 25) := ⟨⟨by decide +kernel, by decide +kernel⟩, List.mem_of_getElem? (i := 744) (by decide +kernel), List.mem_of_getElem? (i := 839) (by decide +kernel), List.mem_of_getElem? (i := 840) (by decide +kernel)⟩
theorem lw_p43 : lw_okq (⟨"UnitTurnsModel", "doKind", "(IIII)I"⟩, 25) := ⟨⟨by decide +kernel, by decide +kernel⟩, List.mem_of_getElem? (i := 744) (by decide +kernel), List.mem_of_getElem? (i := 843) (by decide +kernel), List.mem_of_getElem? (i := 844) (by decide +kernel)⟩
theorem lw_p44 : lw_okq (⟨"UnitTurnsModel", "ends", "(I)I"⟩, 25) := ⟨⟨by decide +kernel, by decide +kernel⟩, List.mem_of_getElem? (i := 744) (by decide +kernel), List.mem_of_getElem? (i := 850) (by decide +kernel), List.mem_of_getElem? (i := 851) (by decide +kernel)⟩
theorem lw_p45 : lw_okq (⟨"UnitTurnsModel", "push", "()V"⟩, 25) := ⟨⟨by decide +kernel, by decide +kernel⟩, List.mem_of_getElem? (i := 744) (by decide +kernel), List.mem_of_getElem? (i := 854) (by decide +kernel), List.mem_of_getElem? (i := 855) (by decide +kernel)⟩
theorem lw_p46 : lw_okq (⟨"UnitTurnsModel", "doSets", "(II)I"⟩, 25) := ⟨⟨by decide +kernel, by decide +kernel⟩, List.mem_of_getElem? (i := 744) (by decide +kernel), List.mem_of_getElem? (i := 862) (by decide +kernel), List.mem_of_getElem? (i := 863) (by decide +kernel)⟩
theorem lw_p47 : lw_okq (⟨"UnitTurnsModel", "doInstruction", "(I)I"⟩, 25) := ⟨⟨by decide +kernel, by decide +kernel⟩, List.mem_of_getElem? (i := 744) (by decide +kernel), List.mem_of_getElem? (i := 870) (by decide +kernel), List.mem_of_getElem? (i := 871) (by decide +kernel)⟩
def lw_privs_3 : List (MethodName × Nat) := [(⟨"UnitTurns$Ranks", "isReady", "(LUnitTurns$Block;II)Z"⟩, 3), (⟨"UnitTurns$Ranks", "isFree", "(LUnitTurns$Block;II)Z"⟩, 3), (⟨"UnitTurns$Block", "isPlan", "([I)Z"⟩, 10), (⟨"UnitTurns$Script", "skipBlanks", "()V"⟩, 6), (⟨"UnitTurns$Script", "scanOrder", "()Z"⟩, 6), (⟨"UnitTurns$Script", "byteHere", "()I"⟩, 6), (⟨"UnitTurns$Script", "scanNumber", "(I)Z"⟩, 6), (⟨"UnitTurns$Script", "isFigureHere", "()Z"⟩, 6), (⟨"UnitTurns", "figure", "(I)I"⟩, 9), (⟨"UnitTurnsModel", "refuses", "(I)I"⟩, 25), (⟨"UnitTurnsModel", "hold", "()V"⟩, 25), (⟨"UnitTurnsModel", "doKind", "(IIII)I"⟩, 25), (⟨"UnitTurnsModel", "ends", "(I)I"⟩, 25), (⟨"UnitTurnsModel", "push", "()V"⟩, 25), (⟨"UnitTurnsModel", "doSets", "(II)I"⟩, 25), (⟨"UnitTurnsModel", "doInstruction", "(I)I"⟩, 25)]
theorem lw_r3 : ∀ q ∈ lw_privs_3, lw_okq q := List.forall_mem_cons.mpr ⟨lw_p32, List.forall_mem_cons.mpr ⟨lw_p33, List.forall_mem_cons.mpr ⟨lw_p34, List.forall_mem_cons.mpr ⟨lw_p35, List.forall_mem_cons.mpr ⟨lw_p36, List.forall_mem_cons.mpr ⟨lw_p37, List.forall_mem_cons.mpr ⟨lw_p38, List.forall_mem_cons.mpr ⟨lw_p39, List.forall_mem_cons.mpr ⟨lw_p40, List.forall_mem_cons.mpr ⟨lw_p41, List.forall_mem_cons.mpr ⟨lw_p42, List.forall_mem_cons.mpr ⟨lw_p43, List.forall_mem_cons.mpr ⟨lw_p44, List.forall_mem_cons.mpr ⟨lw_p45, List.forall_mem_cons.mpr ⟨lw_p46, List.forall_mem_cons.mpr ⟨lw_p47, fun _ h => absurd h List.not_mem_nil⟩⟩⟩⟩⟩⟩⟩⟩⟩⟩⟩⟩⟩⟩⟩⟩
theorem lw_p48 : lw_okq (⟨"UnitTurnsModel", "isKind", "(I)Z"⟩, 25) := ⟨⟨by decide +kernel, by decide +kernel⟩, List.mem_of_getElem? (i := 744) (by decide +kernel), List.mem_of_getElem? (i := 874) (by decide +kernel), List.mem_of_getElem? (i := 875) (by decide +kernel)⟩
theorem lw_p49 : lw_okq (⟨"UnitTurnsModel", "doNeeds", "(III)I"⟩, 25) := ⟨⟨by decide +kernel, by decide +kernel⟩, List.mem_of_getElem? (i := 744) (by decide +kernel), List.mem_of_getElem? (i := 882) (by decide +kernel), List.mem_of_getElem? (i := 883) (by decide +kernel)⟩
theorem lw_p50 : lw_okq (⟨"UnitTurnsModel", "isOne", "(I)Z"⟩, 25) := ⟨⟨by decide +kernel, by decide +kernel⟩, List.mem_of_getElem? (i := 744) (by decide +kernel), List.mem_of_getElem? (i := 886) (by decide +kernel), List.mem_of_getElem? (i := 887) (by decide +kernel)⟩
theorem lw_p51 : lw_okq (⟨"UnitTurnsModel", "leads", "(II)Z"⟩, 25) := ⟨⟨by decide +kernel, by decide +kernel⟩, List.mem_of_getElem? (i := 744) (by decide +kernel), List.mem_of_getElem? (i := 890) (by decide +kernel), List.mem_of_getElem? (i := 891) (by decide +kernel)⟩
theorem lw_p52 : lw_okq (⟨"UnitTurnsModel", "needOf", "(II)I"⟩, 25) := ⟨⟨by decide +kernel, by decide +kernel⟩, List.mem_of_getElem? (i := 744) (by decide +kernel), List.mem_of_getElem? (i := 897) (by decide +kernel), List.mem_of_getElem? (i := 898) (by decide +kernel)⟩
theorem lw_p53 : lw_okq (⟨"UnitTurnsModel", "doDrops", "(I)I"⟩, 25) := ⟨⟨by decide +kernel, by decide +kernel⟩, List.mem_of_getElem? (i := 744) (by decide +kernel), List.mem_of_getElem? (i := 905) (by decide +kernel), List.mem_of_getElem? (i := 906) (by decide +kernel)⟩
theorem lw_p54 : lw_okq (⟨"UnitTurnsModel", "isMuch", "()Z"⟩, 25) := ⟨⟨by decide +kernel, by decide +kernel⟩, List.mem_of_getElem? (i := 744) (by decide +kernel), List.mem_of_getElem? (i := 913) (by decide +kernel), List.mem_of_getElem? (i := 914) (by decide +kernel)⟩
theorem lw_p55 : lw_okq (⟨"UnitTurnsModel", "findStates", "()V"⟩, 25) := ⟨⟨by decide +kernel, by decide +kernel⟩, List.mem_of_getElem? (i := 744) (by decide +kernel), List.mem_of_getElem? (i := 917) (by decide +kernel), List.mem_of_getElem? (i := 918) (by decide +kernel)⟩
theorem lw_p56 : lw_okq (⟨"UnitTurnsModel", "read", "(II)I"⟩, 25) := ⟨⟨by decide +kernel, by decide +kernel⟩, List.mem_of_getElem? (i := 744) (by decide +kernel), List.mem_of_getElem? (i := 921) (by decide +kernel), List.mem_of_getElem? (i := 922) (by decide +kernel)⟩
theorem lw_p57 : lw_okq (⟨"UnitTurnsModel", "holds", "(I)I"⟩, 25) := ⟨⟨by decide +kernel, by decide +kernel⟩, List.mem_of_getElem? (i := 744) (by decide +kernel), List.mem_of_getElem? (i := 925) (by decide +kernel), List.mem_of_getElem? (i := 926) (by decide +kernel)⟩
theorem lw_p58 : lw_okq (⟨"UnitTurnsModel", "ofKind", "(II)I"⟩, 25) := ⟨⟨by decide +kernel, by decide +kernel⟩, List.mem_of_getElem? (i := 744) (by decide +kernel), List.mem_of_getElem? (i := 929) (by decide +kernel), List.mem_of_getElem? (i := 930) (by decide +kernel)⟩
theorem lw_p59 : lw_okq (⟨"UnitTurnsModel", "number", "(I)I"⟩, 25) := ⟨⟨by decide +kernel, by decide +kernel⟩, List.mem_of_getElem? (i := 744) (by decide +kernel), List.mem_of_getElem? (i := 933) (by decide +kernel), List.mem_of_getElem? (i := 934) (by decide +kernel)⟩
theorem lw_p60 : lw_okq (⟨"UnitTurnsModel", "findClasses", "()V"⟩, 25) := ⟨⟨by decide +kernel, by decide +kernel⟩, List.mem_of_getElem? (i := 744) (by decide +kernel), List.mem_of_getElem? (i := 937) (by decide +kernel), List.mem_of_getElem? (i := 938) (by decide +kernel)⟩
theorem lw_p61 : lw_okq (⟨"UnitTurnsModel", "areAlike", "(II)Z"⟩, 25) := ⟨⟨by decide +kernel, by decide +kernel⟩, List.mem_of_getElem? (i := 744) (by decide +kernel), List.mem_of_getElem? (i := 941) (by decide +kernel), List.mem_of_getElem? (i := 942) (by decide +kernel)⟩
theorem lw_p62 : lw_okq (⟨"UnitTurnsModel", "boundOf", "()I"⟩, 25) := ⟨⟨by decide +kernel, by decide +kernel⟩, List.mem_of_getElem? (i := 744) (by decide +kernel), List.mem_of_getElem? (i := 961) (by decide +kernel), List.mem_of_getElem? (i := 962) (by decide +kernel)⟩
theorem lw_p63 : lw_okq (⟨"UnitTurnsModel", "findWays", "()V"⟩, 25) := ⟨⟨by decide +kernel, by decide +kernel⟩, List.mem_of_getElem? (i := 744) (by decide +kernel), List.mem_of_getElem? (i := 965) (by decide +kernel), List.mem_of_getElem? (i := 966) (by decide +kernel)⟩
def lw_privs_4 : List (MethodName × Nat) := [(⟨"UnitTurnsModel", "isKind", "(I)Z"⟩, 25), (⟨"UnitTurnsModel", "doNeeds", "(III)I"⟩, 25), (⟨"UnitTurnsModel", "isOne", "(I)Z"⟩, 25), (⟨"UnitTurnsModel", "leads", "(II)Z"⟩, 25), (⟨"UnitTurnsModel", "needOf", "(II)I"⟩, 25), (⟨"UnitTurnsModel", "doDrops", "(I)I"⟩, 25), (⟨"UnitTurnsModel", "isMuch", "()Z"⟩, 25), (⟨"UnitTurnsModel", "findStates", "()V"⟩, 25), (⟨"UnitTurnsModel", "read", "(II)I"⟩, 25), (⟨"UnitTurnsModel", "holds", "(I)I"⟩, 25), (⟨"UnitTurnsModel", "ofKind", "(II)I"⟩, 25), (⟨"UnitTurnsModel", "number", "(I)I"⟩, 25), (⟨"UnitTurnsModel", "findClasses", "()V"⟩, 25), (⟨"UnitTurnsModel", "areAlike", "(II)Z"⟩, 25), (⟨"UnitTurnsModel", "boundOf", "()I"⟩, 25), (⟨"UnitTurnsModel", "findWays", "()V"⟩, 25)]
theorem lw_r4 : ∀ q ∈ lw_privs_4, lw_okq q := List.forall_mem_cons.mpr ⟨lw_p48, List.forall_mem_cons.mpr ⟨lw_p49, List.forall_mem_cons.mpr ⟨lw_p50, List.forall_mem_cons.mpr ⟨lw_p51, List.forall_mem_cons.mpr ⟨lw_p52, List.forall_mem_cons.mpr ⟨lw_p53, List.forall_mem_cons.mpr ⟨lw_p54, List.forall_mem_cons.mpr ⟨lw_p55, List.forall_mem_cons.mpr ⟨lw_p56, List.forall_mem_cons.mpr ⟨lw_p57, List.forall_mem_cons.mpr ⟨lw_p58, List.forall_mem_cons.mpr ⟨lw_p59, List.forall_mem_cons.mpr ⟨lw_p60, List.forall_mem_cons.mpr ⟨lw_p61, List.forall_mem_cons.mpr ⟨lw_p62, List.forall_mem_cons.mpr ⟨lw_p63, fun _ h => absurd h List.not_mem_nil⟩⟩⟩⟩⟩⟩⟩⟩⟩⟩⟩⟩⟩⟩⟩⟩
theorem lw_p64 : lw_okq (⟨"UnitTurnsModel", "span", "(I)I"⟩, 25) := ⟨⟨by decide +kernel, by decide +kernel⟩, List.mem_of_getElem? (i := 744) (by decide +kernel), List.mem_of_getElem? (i := 969) (by decide +kernel), List.mem_of_getElem? (i := 970) (by decide +kernel)⟩
theorem lw_p65 : lw_okq (⟨"UnitTurnsModel", "ofOne", "(II)I"⟩, 25) := ⟨⟨by decide +kernel, by decide +kernel⟩, List.mem_of_getElem? (i := 744) (by decide +kernel), List.mem_of_getElem? (i := 973) (by decide +kernel), List.mem_of_getElem? (i := 974) (by decide +kernel)⟩
theorem lw_p66 : lw_okq (⟨"UnitTurnsModel", "latency", "(I)I"⟩, 25) := ⟨⟨by decide +kernel, by decide +kernel⟩, List.mem_of_getElem? (i := 744) (by decide +kernel), List.mem_of_getElem? (i := 977) (by decide +kernel), List.mem_of_getElem? (i := 978) (by decide +kernel)⟩
theorem lw_p67 : lw_okq (⟨"UnitTurnsModel", "counts", "(II)I"⟩, 25) := ⟨⟨by decide +kernel, by decide +kernel⟩, List.mem_of_getElem? (i := 744) (by decide +kernel), List.mem_of_getElem? (i := 981) (by decide +kernel), List.mem_of_getElem? (i := 982) (by decide +kernel)⟩
theorem lw_p68 : lw_okq (⟨"UnitTurnsModel", "behind", "(II)I"⟩, 25) := ⟨⟨by decide +kernel, by decide +kernel⟩, List.mem_of_getElem? (i := 744) (by decide +kernel), List.mem_of_getElem? (i := 985) (by decide +kernel), List.mem_of_getElem? (i := 986) (by decide +kernel)⟩
theorem lw_p69 : lw_okq (⟨"UnitTurnsModel", "heldTurns", "(I)I"⟩, 25) := ⟨⟨by decide +kernel, by decide +kernel⟩, List.mem_of_getElem? (i := 744) (by decide +kernel), List.mem_of_getElem? (i := 989) (by decide +kernel), List.mem_of_getElem? (i := 990) (by decide +kernel)⟩
theorem lw_p70 : lw_okq (⟨"UnitTurnsModel", "findBest", "()I"⟩, 25) := ⟨⟨by decide +kernel, by decide +kernel⟩, List.mem_of_getElem? (i := 744) (by decide +kernel), List.mem_of_getElem? (i := 997) (by decide +kernel), List.mem_of_getElem? (i := 998) (by decide +kernel)⟩
theorem lw_p71 : lw_okq (⟨"UnitTurnsModel", "isFound", "(I)Z"⟩, 25) := ⟨⟨by decide +kernel, by decide +kernel⟩, List.mem_of_getElem? (i := 744) (by decide +kernel), List.mem_of_getElem? (i := 1001) (by decide +kernel), List.mem_of_getElem? (i := 1002) (by decide +kernel)⟩
theorem lw_p72 : lw_okq (⟨"UnitTurnsModel", "clearAll", "()V"⟩, 25) := ⟨⟨by decide +kernel, by decide +kernel⟩, List.mem_of_getElem? (i := 744) (by decide +kernel), List.mem_of_getElem? (i := 1005) (by decide +kernel), List.mem_of_getElem? (i := 1006) (by decide +kernel)⟩
theorem lw_p73 : lw_okq (⟨"UnitTurnsModel", "exchange", "(II)V"⟩, 25) := ⟨⟨by decide +kernel, by decide +kernel⟩, List.mem_of_getElem? (i := 744) (by decide +kernel), List.mem_of_getElem? (i := 1009) (by decide +kernel), List.mem_of_getElem? (i := 1010) (by decide +kernel)⟩
theorem lw_p74 : lw_okq (⟨"UnitTurnsModel", "mayBegin", "(III)Z"⟩, 25) := ⟨⟨by decide +kernel, by decide +kernel⟩, List.mem_of_getElem? (i := 744) (by decide +kernel), List.mem_of_getElem? (i := 1013) (by decide +kernel), List.mem_of_getElem? (i := 1014) (by decide +kernel)⟩
theorem lw_p75 : lw_okq (⟨"UnitTurnsModel", "isFree", "(II)Z"⟩, 25) := ⟨⟨by decide +kernel, by decide +kernel⟩, List.mem_of_getElem? (i := 744) (by decide +kernel), List.mem_of_getElem? (i := 1017) (by decide +kernel), List.mem_of_getElem? (i := 1018) (by decide +kernel)⟩
theorem lw_p76 : lw_okq (⟨"UnitTurnsModel", "lengthOf", "()I"⟩, 25) := ⟨⟨by decide +kernel, by decide +kernel⟩, List.mem_of_getElem? (i := 744) (by decide +kernel), List.mem_of_getElem? (i := 1021) (by decide +kernel), List.mem_of_getElem? (i := 1022) (by decide +kernel)⟩
theorem lw_p77 : lw_okq (⟨"UnitTurnsModel", "findRanked", "(I)I"⟩, 25) := ⟨⟨by decide +kernel, by decide +kernel⟩, List.mem_of_getElem? (i := 744) (by decide +kernel), List.mem_of_getElem? (i := 1029) (by decide +kernel), List.mem_of_getElem? (i := 1030) (by decide +kernel)⟩
theorem lw_p78 : lw_okq (⟨"UnitTurnsModel", "findOrder", "(I)V"⟩, 25) := ⟨⟨by decide +kernel, by decide +kernel⟩, List.mem_of_getElem? (i := 744) (by decide +kernel), List.mem_of_getElem? (i := 1033) (by decide +kernel), List.mem_of_getElem? (i := 1034) (by decide +kernel)⟩
theorem lw_p79 : lw_okq (⟨"UnitTurnsModel", "rank", "(II)I"⟩, 25) := ⟨⟨by decide +kernel, by decide +kernel⟩, List.mem_of_getElem? (i := 744) (by decide +kernel), List.mem_of_getElem? (i := 1037) (by decide +kernel), List.mem_of_getElem? (i := 1038) (by decide +kernel)⟩
def lw_privs_5 : List (MethodName × Nat) := [(⟨"UnitTurnsModel", "span", "(I)I"⟩, 25), (⟨"UnitTurnsModel", "ofOne", "(II)I"⟩, 25), (⟨"UnitTurnsModel", "latency", "(I)I"⟩, 25), (⟨"UnitTurnsModel", "counts", "(II)I"⟩, 25), (⟨"UnitTurnsModel", "behind", "(II)I"⟩, 25), (⟨"UnitTurnsModel", "heldTurns", "(I)I"⟩, 25), (⟨"UnitTurnsModel", "findBest", "()I"⟩, 25), (⟨"UnitTurnsModel", "isFound", "(I)Z"⟩, 25), (⟨"UnitTurnsModel", "clearAll", "()V"⟩, 25), (⟨"UnitTurnsModel", "exchange", "(II)V"⟩, 25), (⟨"UnitTurnsModel", "mayBegin", "(III)Z"⟩, 25), (⟨"UnitTurnsModel", "isFree", "(II)Z"⟩, 25), (⟨"UnitTurnsModel", "lengthOf", "()I"⟩, 25), (⟨"UnitTurnsModel", "findRanked", "(I)I"⟩, 25), (⟨"UnitTurnsModel", "findOrder", "(I)V"⟩, 25), (⟨"UnitTurnsModel", "rank", "(II)I"⟩, 25)]
theorem lw_r5 : ∀ q ∈ lw_privs_5, lw_okq q := List.forall_mem_cons.mpr ⟨lw_p64, List.forall_mem_cons.mpr ⟨lw_p65, List.forall_mem_cons.mpr ⟨lw_p66, List.forall_mem_cons.mpr ⟨lw_p67, List.forall_mem_cons.mpr ⟨lw_p68, List.forall_mem_cons.mpr ⟨lw_p69, List.forall_mem_cons.mpr ⟨lw_p70, List.forall_mem_cons.mpr ⟨lw_p71, List.forall_mem_cons.mpr ⟨lw_p72, List.forall_mem_cons.mpr ⟨lw_p73, List.forall_mem_cons.mpr ⟨lw_p74, List.forall_mem_cons.mpr ⟨lw_p75, List.forall_mem_cons.mpr ⟨lw_p76, List.forall_mem_cons.mpr ⟨lw_p77, List.forall_mem_cons.mpr ⟨lw_p78, List.forall_mem_cons.mpr ⟨lw_p79, fun _ h => absurd h List.not_mem_nil⟩⟩⟩⟩⟩⟩⟩⟩⟩⟩⟩⟩⟩⟩⟩⟩
theorem lw_p80 : lw_okq (⟨"UnitTurnsModel", "isReady", "(II)Z"⟩, 25) := ⟨⟨by decide +kernel, by decide +kernel⟩, List.mem_of_getElem? (i := 744) (by decide +kernel), List.mem_of_getElem? (i := 1041) (by decide +kernel), List.mem_of_getElem? (i := 1042) (by decide +kernel)⟩
theorem lw_p81 : lw_okq (⟨"UnitTurnsModel", "toldOfKind", "(II)I"⟩, 25) := ⟨⟨by decide +kernel, by decide +kernel⟩, List.mem_of_getElem? (i := 744) (by decide +kernel), List.mem_of_getElem? (i := 1053) (by decide +kernel), List.mem_of_getElem? (i := 1054) (by decide +kernel)⟩
theorem lw_p82 : lw_okq (⟨"UnitTurnsModel", "aboutOne", "(II)I"⟩, 25) := ⟨⟨by decide +kernel, by decide +kernel⟩, List.mem_of_getElem? (i := 744) (by decide +kernel), List.mem_of_getElem? (i := 1061) (by decide +kernel), List.mem_of_getElem? (i := 1062) (by decide +kernel)⟩
theorem lw_p83 : lw_okq (⟨"UnitTurnsModel", "here", "()I"⟩, 25) := ⟨⟨by decide +kernel, by decide +kernel⟩, List.mem_of_getElem? (i := 744) (by decide +kernel), List.mem_of_getElem? (i := 1077) (by decide +kernel), List.mem_of_getElem? (i := 1078) (by decide +kernel)⟩
theorem lw_p84 : lw_okq (⟨"UnitTurnsModel", "must", "(Z)V"⟩, 25) := ⟨⟨by decide +kernel, by decide +kernel⟩, List.mem_of_getElem? (i := 744) (by decide +kernel), List.mem_of_getElem? (i := 1081) (by decide +kernel), List.mem_of_getElem? (i := 1082) (by decide +kernel)⟩
theorem lw_p85 : lw_okq (⟨"UnitTurnsModel", "readOrder", "()V"⟩, 25) := ⟨⟨by decide +kernel, by decide +kernel⟩, List.mem_of_getElem? (i := 744) (by decide +kernel), List.mem_of_getElem? (i := 1085) (by decide +kernel), List.mem_of_getElem? (i := 1086) (by decide +kernel)⟩
theorem lw_p86 : lw_okq (⟨"UnitTurnsModel", "figures", "()I"⟩, 25) := ⟨⟨by decide +kernel, by decide +kernel⟩, List.mem_of_getElem? (i := 744) (by decide +kernel), List.mem_of_getElem? (i := 1092) (by decide +kernel), List.mem_of_getElem? (i := 1093) (by decide +kernel)⟩
theorem lw_p87 : lw_okq (⟨"UnitTurnsModel", "isFigure", "()Z"⟩, 25) := ⟨⟨by decide +kernel, by decide +kernel⟩, List.mem_of_getElem? (i := 744) (by decide +kernel), List.mem_of_getElem? (i := 1096) (by decide +kernel), List.mem_of_getElem? (i := 1097) (by decide +kernel)⟩
theorem lw_p88 : lw_okq (⟨"UnitTurnsModel", "doOrder", "(I)I"⟩, 25) := ⟨⟨by decide +kernel, by decide +kernel⟩, List.mem_of_getElem? (i := 744) (by decide +kernel), List.mem_of_getElem? (i := 1100) (by decide +kernel), List.mem_of_getElem? (i := 1101) (by decide +kernel)⟩
theorem lw_p89 : lw_okq (⟨"UnitTurnsModel", "toldOf", "(I)I"⟩, 25) := ⟨⟨by decide +kernel, by decide +kernel⟩, List.mem_of_getElem? (i := 744) (by decide +kernel), List.mem_of_getElem? (i := 1108) (by decide +kernel), List.mem_of_getElem? (i := 1109) (by decide +kernel)⟩
theorem lw_p90 : lw_okq (⟨"UnitTurnsModel", "mix", "(I)V"⟩, 25) := ⟨⟨by decide +kernel, by decide +kernel⟩, List.mem_of_getElem? (i := 744) (by decide +kernel), List.mem_of_getElem? (i := 1117) (by decide +kernel), List.mem_of_getElem? (i := 1118) (by decide +kernel)⟩
def lw_privs_6 : List (MethodName × Nat) := [(⟨"UnitTurnsModel", "isReady", "(II)Z"⟩, 25), (⟨"UnitTurnsModel", "toldOfKind", "(II)I"⟩, 25), (⟨"UnitTurnsModel", "aboutOne", "(II)I"⟩, 25), (⟨"UnitTurnsModel", "here", "()I"⟩, 25), (⟨"UnitTurnsModel", "must", "(Z)V"⟩, 25), (⟨"UnitTurnsModel", "readOrder", "()V"⟩, 25), (⟨"UnitTurnsModel", "figures", "()I"⟩, 25), (⟨"UnitTurnsModel", "isFigure", "()Z"⟩, 25), (⟨"UnitTurnsModel", "doOrder", "(I)I"⟩, 25), (⟨"UnitTurnsModel", "toldOf", "(I)I"⟩, 25), (⟨"UnitTurnsModel", "mix", "(I)V"⟩, 25)]
theorem lw_r6 : ∀ q ∈ lw_privs_6, lw_okq q := List.forall_mem_cons.mpr ⟨lw_p80, List.forall_mem_cons.mpr ⟨lw_p81, List.forall_mem_cons.mpr ⟨lw_p82, List.forall_mem_cons.mpr ⟨lw_p83, List.forall_mem_cons.mpr ⟨lw_p84, List.forall_mem_cons.mpr ⟨lw_p85, List.forall_mem_cons.mpr ⟨lw_p86, List.forall_mem_cons.mpr ⟨lw_p87, List.forall_mem_cons.mpr ⟨lw_p88, List.forall_mem_cons.mpr ⟨lw_p89, List.forall_mem_cons.mpr ⟨lw_p90, fun _ h => absurd h List.not_mem_nil⟩⟩⟩⟩⟩⟩⟩⟩⟩⟩⟩
def lw_privs : List (MethodName × Nat) := lw_privs_1 ++ (lw_privs_2 ++ (lw_privs_3 ++ (lw_privs_4 ++ (lw_privs_5 ++ (lw_privs_6)))))
def lw_tbl : List Cond := k2_sels lw_privs ++ tables_1
theorem lw_privs_ok : ∀ q ∈ lw_privs, lw_okq q := by
  show ∀ q ∈ lw_privs_1 ++ (lw_privs_2 ++ (lw_privs_3 ++ (lw_privs_4 ++ (lw_privs_5 ++ (lw_privs_6))))), lw_okq q
  exact List.forall_mem_append.mpr ⟨lw_r1, List.forall_mem_append.mpr ⟨lw_r2, List.forall_mem_append.mpr ⟨lw_r3, List.forall_mem_append.mpr ⟨lw_r4, List.forall_mem_append.mpr ⟨lw_r5, lw_r6⟩⟩⟩⟩⟩
/-! ===== BEGIN printed: names, fields, word lists, decode rows ===== -/
def RX0 : String := "UnitTurns$Block"
def TX0 : u_T := fun k => match k with
  | 0 => ("UnitTurns$Block", "holds", "[I", true)
  | 1 => ("UnitTurns$Block", "span", "[I", true)
  | 2 => ("UnitTurns$Block", "way", "[I", true)
  | 3 => ("UnitTurns$Block", "earliest", "[I", true)
  | 4 => ("UnitTurns$Block", "delay", "[I", true)
  | 5 => ("UnitTurns$Block", "clash", "[I", true)
  | 6 => ("UnitTurns$Block", "figures", "[I", true)
  | 7 => ("UnitTurns$Block", "count", "I", false)
  | 8 => ("UnitTurns$Block", "width", "I", false)
  | _ => ("UnitTurns$Block", "known", "Z", false)
def tyX0 : Nat → FieldType := fun k => match k with
  | 0 => .array .int
  | 1 => .array .int
  | 2 => .array .int
  | 3 => .array .int
  | 4 => .array .int
  | 5 => .array .int
  | 6 => .array .int
  | 7 => .int
  | 8 => .int
  | _ => .boolean
abbrev wsX00 : List Cond := u_ws RX0 TX0 10
theorem nmX0 : ∀ a, a < 10 → ∀ b, b < 10 → a ≠ b → (TX0 a).2.1 ≠ (TX0 b).2.1 := by decide +kernel
theorem tyX0_ok : ∀ k, k < 10 → parseFieldDescriptor (TX0 k).2.2.1 = some (tyX0 k) := by decide +kernel
abbrev cX0_init : ByteArray := prog_2_method_1_code
def yX0_init : MethodName := ⟨RX0, "<init>", "()V"⟩
abbrev cX0_learn : ByteArray := prog_2_method_2_code
def yX0_learn : MethodName := ⟨RX0, "learn", "(LUnitTurns$Setup;)V"⟩
abbrev cX0_leastLength : ByteArray := prog_2_method_3_code
def yX0_leastLength : MethodName := ⟨RX0, "leastLength", "()I"⟩
abbrev cX0_lengthOf : ByteArray := prog_2_method_4_code
def yX0_lengthOf : MethodName := ⟨RX0, "lengthOf", "([I)I"⟩
abbrev cX0_lengthByFigures : ByteArray := prog_2_method_5_code
def yX0_lengthByFigures : MethodName := ⟨RX0, "lengthByFigures", "(I)I"⟩
abbrev cX0_clashes : ByteArray := prog_2_method_6_code
def yX0_clashes : MethodName := ⟨RX0, "clashes", "(IIII)Z"⟩
abbrev cX0_isPlan : ByteArray := prog_2_method_7_code
def yX0_isPlan : MethodName := ⟨RX0, "isPlan", "([I)Z"⟩
abbrev cX0_measureWays : ByteArray := prog_2_method_8_code
def yX0_measureWays : MethodName := ⟨RX0, "measureWays", "()V"⟩
abbrev cX0_turnsHeld : ByteArray := prog_2_method_9_code
def yX0_turnsHeld : MethodName := ⟨RX0, "turnsHeld", "(I)I"⟩
abbrev cX0_clashOf : ByteArray := prog_2_method_10_code
def yX0_clashOf : MethodName := ⟨RX0, "clashOf", "(II)I"⟩
def RX1 : String := "UnitTurns$Chart"
def TX1 : u_T := fun k => match k with
  | 0 => ("UnitTurns$Chart", "found", "[I", true)
  | 1 => ("UnitTurns$Chart", "clashes", "[I", true)
  | 2 => ("UnitTurns$Chart", "places", "[I", true)
  | 3 => ("UnitTurns$Chart", "count", "I", false)
  | 4 => ("UnitTurns$Chart", "classCount", "I", false)
  | 5 => ("UnitTurns$Chart", "tooMany", "Z", false)
  | _ => ("UnitTurns$Chart", "known", "Z", false)
def tyX1 : Nat → FieldType := fun k => match k with
  | 0 => .array .int
  | 1 => .array .int
  | 2 => .array .int
  | 3 => .int
  | 4 => .int
  | 5 => .boolean
  | _ => .boolean
abbrev wsX10 : List Cond := u_ws RX1 TX1 7
theorem nmX1 : ∀ a, a < 7 → ∀ b, b < 7 → a ≠ b → (TX1 a).2.1 ≠ (TX1 b).2.1 := by decide +kernel
theorem tyX1_ok : ∀ k, k < 7 → parseFieldDescriptor (TX1 k).2.2.1 = some (tyX1 k) := by decide +kernel
abbrev cX1_init : ByteArray := prog_3_method_1_code
def yX1_init : MethodName := ⟨RX1, "<init>", "()V"⟩
abbrev cX1_learn : ByteArray := prog_3_method_2_code
def yX1_learn : MethodName := ⟨RX1, "learn", "(LUnitTurns$Setup;)V"⟩
abbrev cX1_statesOrMuch : ByteArray := prog_3_method_3_code
def yX1_statesOrMuch : MethodName := ⟨RX1, "statesOrMuch", "()I"⟩
abbrev cX1_classesOrMuch : ByteArray := prog_3_method_4_code
def yX1_classesOrMuch : MethodName := ⟨RX1, "classesOrMuch", "()I"⟩
abbrev cX1_hasState : ByteArray := prog_3_method_5_code
def yX1_hasState : MethodName := ⟨RX1, "hasState", "(I)Z"⟩
abbrev cX1_sameClass : ByteArray := prog_3_method_6_code
def yX1_sameClass : MethodName := ⟨RX1, "sameClass", "(II)Z"⟩
abbrev cX1_stateFact : ByteArray := prog_3_method_7_code
def yX1_stateFact : MethodName := ⟨RX1, "stateFact", "(LUnitTurns$Setup;II)I"⟩
abbrev cX1_forgetStates : ByteArray := prog_3_method_8_code
def yX1_forgetStates : MethodName := ⟨RX1, "forgetStates", "()V"⟩
abbrev cX1_findStates : ByteArray := prog_3_method_9_code
def yX1_findStates : MethodName := ⟨RX1, "findStates", "(LUnitTurns$Setup;)V"⟩
abbrev cX1_note : ByteArray := prog_3_method_10_code
def yX1_note : MethodName := ⟨RX1, "note", "(I)V"⟩
abbrev cX1_tellClasses : ByteArray := prog_3_method_11_code
def yX1_tellClasses : MethodName := ⟨RX1, "tellClasses", "(LUnitTurns$Setup;)V"⟩
abbrev cX1_isFirstOfClass : ByteArray := prog_3_method_12_code
def yX1_isFirstOfClass : MethodName := ⟨RX1, "isFirstOfClass", "(I)Z"⟩
abbrev cX1_clashesOf : ByteArray := prog_3_method_13_code
def yX1_clashesOf : MethodName := ⟨RX1, "clashesOf", "(LUnitTurns$Setup;I)I"⟩
def RX2 : String := "UnitTurns$Ranks"
def TX2 : u_T := fun k => match k with
  | 0 => ("UnitTurns$Ranks", "turns", "[I", true)
  | 1 => ("UnitTurns$Ranks", "order", "[I", true)
  | _ => ("UnitTurns$Ranks", "weight", "[I", true)
def tyX2 : Nat → FieldType := fun k => match k with
  | 0 => .array .int
  | 1 => .array .int
  | _ => .array .int
abbrev wsX20 : List Cond := u_ws RX2 TX2 3
theorem nmX2 : ∀ a, a < 3 → ∀ b, b < 3 → a ≠ b → (TX2 a).2.1 ≠ (TX2 b).2.1 := by decide +kernel
theorem tyX2_ok : ∀ k, k < 3 → parseFieldDescriptor (TX2 k).2.2.1 = some (tyX2 k) := by decide +kernel
abbrev cX2_init : ByteArray := prog_4_method_1_code
def yX2_init : MethodName := ⟨RX2, "<init>", "()V"⟩
abbrev cX2_run : ByteArray := prog_4_method_2_code
def yX2_run : MethodName := ⟨RX2, "run", "(LUnitTurns$Block;I)V"⟩
abbrev cX2_weigh : ByteArray := prog_4_method_3_code
def yX2_weigh : MethodName := ⟨RX2, "weigh", "(LUnitTurns$Block;I)V"⟩
abbrev cX2_sort : ByteArray := prog_4_method_4_code
def yX2_sort : MethodName := ⟨RX2, "sort", "(I)V"⟩
abbrev cX2_beginAt : ByteArray := prog_4_method_5_code
def yX2_beginAt : MethodName := ⟨RX2, "beginAt", "(LUnitTurns$Block;I)I"⟩
abbrev cX2_isReady : ByteArray := prog_4_method_6_code
def yX2_isReady : MethodName := ⟨RX2, "isReady", "(LUnitTurns$Block;II)Z"⟩
abbrev cX2_isFree : ByteArray := prog_4_method_7_code
def yX2_isFree : MethodName := ⟨RX2, "isFree", "(LUnitTurns$Block;II)Z"⟩
def RX3 : String := "UnitTurns$Rows"
def TX3 : u_T := fun k => match k with
  | 0 => ("UnitTurns$Rows", "least", "[I", true)
  | _ => ("UnitTurns$Rows", "apart", "[I", true)
def tyX3 : Nat → FieldType := fun k => match k with
  | 0 => .array .int
  | _ => .array .int
abbrev wsX30 : List Cond := u_ws RX3 TX3 2
theorem nmX3 : ∀ a, a < 2 → ∀ b, b < 2 → a ≠ b → (TX3 a).2.1 ≠ (TX3 b).2.1 := by decide +kernel
theorem tyX3_ok : ∀ k, k < 2 → parseFieldDescriptor (TX3 k).2.2.1 = some (tyX3 k) := by decide +kernel
abbrev cX3_init : ByteArray := prog_5_method_1_code
def yX3_init : MethodName := ⟨RX3, "<init>", "()V"⟩
abbrev cX3_leastLength : ByteArray := prog_5_method_2_code
def yX3_leastLength : MethodName := ⟨RX3, "leastLength", "(LUnitTurns$Block;[I)I"⟩
abbrev cX3_measureApart : ByteArray := prog_5_method_3_code
def yX3_measureApart : MethodName := ⟨RX3, "measureApart", "(LUnitTurns$Block;[I)V"⟩
abbrev cX3_lengthOfSet : ByteArray := prog_5_method_4_code
def yX3_lengthOfSet : MethodName := ⟨RX3, "lengthOfSet", "(LUnitTurns$Block;[II)I"⟩
abbrev cX3_turnOfLast : ByteArray := prog_5_method_5_code
def yX3_turnOfLast : MethodName := ⟨RX3, "turnOfLast", "(LUnitTurns$Block;[III)I"⟩
def RX4 : String := "UnitTurns$Script"
def TX4 : u_T := fun k => match k with
  | 0 => ("UnitTurns$Script", "bytes", "[I", true)
  | 1 => ("UnitTurns$Script", "letters", "[I", true)
  | 2 => ("UnitTurns$Script", "numbers", "[I", true)
  | 3 => ("UnitTurns$Script", "length", "I", false)
  | 4 => ("UnitTurns$Script", "orders", "I", false)
  | _ => ("UnitTurns$Script", "place", "I", false)
def tyX4 : Nat → FieldType := fun k => match k with
  | 0 => .array .int
  | 1 => .array .int
  | 2 => .array .int
  | 3 => .int
  | 4 => .int
  | _ => .int
abbrev wsX40 : List Cond := u_ws RX4 TX4 6
theorem nmX4 : ∀ a, a < 6 → ∀ b, b < 6 → a ≠ b → (TX4 a).2.1 ≠ (TX4 b).2.1 := by decide +kernel
theorem tyX4_ok : ∀ k, k < 6 → parseFieldDescriptor (TX4 k).2.2.1 = some (tyX4 k) := by decide +kernel
abbrev cX4_init : ByteArray := prog_6_method_1_code
def yX4_init : MethodName := ⟨RX4, "<init>", "()V"⟩
abbrev cX4_append : ByteArray := prog_6_method_2_code
def yX4_append : MethodName := ⟨RX4, "append", "(I)I"⟩
abbrev cX4_empty : ByteArray := prog_6_method_3_code
def yX4_empty : MethodName := ⟨RX4, "empty", "()I"⟩
abbrev cX4_scan : ByteArray := prog_6_method_4_code
def yX4_scan : MethodName := ⟨RX4, "scan", "()I"⟩
abbrev cX4_perform : ByteArray := prog_6_method_5_code
def yX4_perform : MethodName := ⟨RX4, "perform", "(ILUnitTurns$Setup;)I"⟩
abbrev cX4_scanOrder : ByteArray := prog_6_method_6_code
def yX4_scanOrder : MethodName := ⟨RX4, "scanOrder", "()Z"⟩
abbrev cX4_scanNumber : ByteArray := prog_6_method_7_code
def yX4_scanNumber : MethodName := ⟨RX4, "scanNumber", "(I)Z"⟩
abbrev cX4_numbersBehind : ByteArray := prog_6_method_8_code
def yX4_numbersBehind : MethodName := ⟨RX4, "numbersBehind", "(I)I"⟩
abbrev cX4_skipBlanks : ByteArray := prog_6_method_9_code
def yX4_skipBlanks : MethodName := ⟨RX4, "skipBlanks", "()V"⟩
abbrev cX4_isFigureHere : ByteArray := prog_6_method_10_code
def yX4_isFigureHere : MethodName := ⟨RX4, "isFigureHere", "()Z"⟩
abbrev cX4_byteHere : ByteArray := prog_6_method_11_code
def yX4_byteHere : MethodName := ⟨RX4, "byteHere", "()I"⟩
def RX5 : String := "UnitTurns$Search"
def TX5 : u_T := fun k => match k with
  | 0 => ("UnitTurns$Search", "open", "[I", true)
  | 1 => ("UnitTurns$Search", "gap", "[I", true)
  | 2 => ("UnitTurns$Search", "trial", "[I", true)
  | 3 => ("UnitTurns$Search", "turns", "[I", true)
  | 4 => ("UnitTurns$Search", "rows", "LUnitTurns$Rows;", true)
  | 5 => ("UnitTurns$Search", "length", "I", false)
  | _ => ("UnitTurns$Search", "known", "Z", false)
def tyX5 : Nat → FieldType := fun k => match k with
  | 0 => .array .int
  | 1 => .array .int
  | 2 => .array .int
  | 3 => .array .int
  | 4 => .object "UnitTurns$Rows"
  | 5 => .int
  | _ => .boolean
abbrev wsX50 : List Cond := u_ws RX5 TX5 7
theorem nmX5 : ∀ a, a < 7 → ∀ b, b < 7 → a ≠ b → (TX5 a).2.1 ≠ (TX5 b).2.1 := by decide +kernel
theorem tyX5_ok : ∀ k, k < 7 → parseFieldDescriptor (TX5 k).2.2.1 = some (tyX5 k) := by decide +kernel
abbrev cX5_init : ByteArray := prog_7_method_1_code
def yX5_init : MethodName := ⟨RX5, "<init>", "()V"⟩
abbrev cX5_learn : ByteArray := prog_7_method_2_code
def yX5_learn : MethodName := ⟨RX5, "learn", "(LUnitTurns$Block;)V"⟩
abbrev cX5_measureGaps : ByteArray := prog_7_method_3_code
def yX5_measureGaps : MethodName := ⟨RX5, "measureGaps", "(LUnitTurns$Block;)V"⟩
abbrev cX5_widenGap : ByteArray := prog_7_method_4_code
def yX5_widenGap : MethodName := ⟨RX5, "widenGap", "(III)V"⟩
abbrev cX5_areLike : ByteArray := prog_7_method_5_code
def yX5_areLike : MethodName := ⟨RX5, "areLike", "(LUnitTurns$Block;II)Z"⟩
abbrev cX5_hasPlan : ByteArray := prog_7_method_6_code
def yX5_hasPlan : MethodName := ⟨RX5, "hasPlan", "(LUnitTurns$Block;)Z"⟩
abbrev cX5_openAll : ByteArray := prog_7_method_7_code
def yX5_openAll : MethodName := ⟨RX5, "openAll", "(LUnitTurns$Block;)Z"⟩
abbrev cX5_place : ByteArray := prog_7_method_8_code
def yX5_place : MethodName := ⟨RX5, "place", "(LUnitTurns$Block;II)Z"⟩
abbrev cX5_tightest : ByteArray := prog_7_method_9_code
def yX5_tightest : MethodName := ⟨RX5, "tightest", "(LUnitTurns$Block;II)I"⟩
abbrev cX5_narrow : ByteArray := prog_7_method_10_code
def yX5_narrow : MethodName := ⟨RX5, "narrow", "(LUnitTurns$Block;III)Z"⟩
abbrev cX5_isFull : ByteArray := prog_7_method_11_code
def yX5_isFull : MethodName := ⟨RX5, "isFull", "(LUnitTurns$Block;II)Z"⟩
abbrev cX5_takeTrial : ByteArray := prog_7_method_12_code
def yX5_takeTrial : MethodName := ⟨RX5, "takeTrial", "(LUnitTurns$Block;)V"⟩
abbrev cX5_takeFirst : ByteArray := prog_7_method_13_code
def yX5_takeFirst : MethodName := ⟨RX5, "takeFirst", "(LUnitTurns$Block;)V"⟩
abbrev cX5_isPossible : ByteArray := prog_7_method_14_code
def yX5_isPossible : MethodName := ⟨RX5, "isPossible", "(LUnitTurns$Block;II)Z"⟩
abbrev cX5_from : ByteArray := prog_7_method_15_code
def yX5_from : MethodName := ⟨RX5, "from", "(I)I"⟩
abbrev cX5_upTo : ByteArray := prog_7_method_16_code
def yX5_upTo : MethodName := ⟨RX5, "upTo", "(I)I"⟩
def RX6 : String := "UnitTurns$Setup"
def TX6 : u_T := fun k => match k with
  | 0 => ("UnitTurns$Setup", "holds", "[I", true)
  | 1 => ("UnitTurns$Setup", "latency", "[I", true)
  | 2 => ("UnitTurns$Setup", "kindOf", "[I", true)
  | 3 => ("UnitTurns$Setup", "sorts", "[I", true)
  | 4 => ("UnitTurns$Setup", "kinds", "I", false)
  | 5 => ("UnitTurns$Setup", "instructions", "I", false)
  | 6 => ("UnitTurns$Setup", "width", "I", false)
  | _ => ("UnitTurns$Setup", "renamed", "I", false)
def tyX6 : Nat → FieldType := fun k => match k with
  | 0 => .array .int
  | 1 => .array .int
  | 2 => .array .int
  | 3 => .array .int
  | 4 => .int
  | 5 => .int
  | 6 => .int
  | _ => .int
abbrev wsX60 : List Cond := u_ws RX6 TX6 8
theorem nmX6 : ∀ a, a < 8 → ∀ b, b < 8 → a ≠ b → (TX6 a).2.1 ≠ (TX6 b).2.1 := by decide +kernel
theorem tyX6_ok : ∀ k, k < 8 → parseFieldDescriptor (TX6 k).2.2.1 = some (tyX6 k) := by decide +kernel
abbrev cX6_init : ByteArray := prog_8_method_1_code
def yX6_init : MethodName := ⟨RX6, "<init>", "()V"⟩
abbrev cX6_copyFrom : ByteArray := prog_8_method_2_code
def yX6_copyFrom : MethodName := ⟨RX6, "copyFrom", "(LUnitTurns$Setup;)V"⟩
abbrev cX6_hasKind : ByteArray := prog_8_method_3_code
def yX6_hasKind : MethodName := ⟨RX6, "hasKind", "(I)Z"⟩
abbrev cX6_hasInstruction : ByteArray := prog_8_method_4_code
def yX6_hasInstruction : MethodName := ⟨RX6, "hasInstruction", "(I)Z"⟩
abbrev cX6_addKind : ByteArray := prog_8_method_5_code
def yX6_addKind : MethodName := ⟨RX6, "addKind", "(IIII)I"⟩
abbrev cX6_change : ByteArray := prog_8_method_6_code
def yX6_change : MethodName := ⟨RX6, "change", "(II)I"⟩
abbrev cX6_addInstruction : ByteArray := prog_8_method_7_code
def yX6_addInstruction : MethodName := ⟨RX6, "addInstruction", "(I)I"⟩
abbrev cX6_changeNeed : ByteArray := prog_8_method_8_code
def yX6_changeNeed : MethodName := ⟨RX6, "changeNeed", "(III)I"⟩
abbrev cX6_removeInstruction : ByteArray := prog_8_method_9_code
def yX6_removeInstruction : MethodName := ⟨RX6, "removeInstruction", "(I)I"⟩
abbrev cX6_instructionsOf : ByteArray := prog_8_method_10_code
def yX6_instructionsOf : MethodName := ⟨RX6, "instructionsOf", "(I)I"⟩
abbrev cX6_needsOf : ByteArray := prog_8_method_11_code
def yX6_needsOf : MethodName := ⟨RX6, "needsOf", "(II)I"⟩
abbrev cX6_delay : ByteArray := prog_8_method_12_code
def yX6_delay : MethodName := ⟨RX6, "delay", "(II)I"⟩
abbrev cX6_isHold : ByteArray := prog_8_method_13_code
def yX6_isHold : MethodName := ⟨RX6, "isHold", "(I)Z"⟩
abbrev cX6_clearNeedsFrom : ByteArray := prog_8_method_14_code
def yX6_clearNeedsFrom : MethodName := ⟨RX6, "clearNeedsFrom", "(I)V"⟩
abbrev cX6_reaches : ByteArray := prog_8_method_15_code
def yX6_reaches : MethodName := ⟨RX6, "reaches", "(II)Z"⟩
abbrev cX6_neededBy : ByteArray := prog_8_method_16_code
def yX6_neededBy : MethodName := ⟨RX6, "neededBy", "(I)I"⟩
def RX7 : String := "UnitTurns$Trail"
def TX7 : u_T := fun k => match k with
  | 0 => ("UnitTurns$Trail", "kept", "[LUnitTurns$Setup;", true)
  | 1 => ("UnitTurns$Trail", "next", "I", false)
  | _ => ("UnitTurns$Trail", "size", "I", false)
def tyX7 : Nat → FieldType := fun k => match k with
  | 0 => .array (.object "UnitTurns$Setup")
  | 1 => .int
  | _ => .int
abbrev wsX70 : List Cond := u_ws RX7 TX7 3
theorem nmX7 : ∀ a, a < 3 → ∀ b, b < 3 → a ≠ b → (TX7 a).2.1 ≠ (TX7 b).2.1 := by decide +kernel
theorem tyX7_ok : ∀ k, k < 3 → parseFieldDescriptor (TX7 k).2.2.1 = some (tyX7 k) := by decide +kernel
abbrev cX7_init : ByteArray := prog_9_method_1_code
def yX7_init : MethodName := ⟨RX7, "<init>", "()V"⟩
abbrev cX7_keep : ByteArray := prog_9_method_2_code
def yX7_keep : MethodName := ⟨RX7, "keep", "(LUnitTurns$Setup;)V"⟩
abbrev cX7_takeInto : ByteArray := prog_9_method_3_code
def yX7_takeInto : MethodName := ⟨RX7, "takeInto", "(LUnitTurns$Setup;)Z"⟩
def RX8 : String := "UnitTurns"
def TX8 : u_T := fun k => match k with
  | 0 => ("UnitTurns", "current", "LUnitTurns$Setup;", true)
  | 1 => ("UnitTurns", "draft", "LUnitTurns$Setup;", true)
  | 2 => ("UnitTurns", "trail", "LUnitTurns$Trail;", true)
  | 3 => ("UnitTurns", "chart", "LUnitTurns$Chart;", true)
  | 4 => ("UnitTurns", "block", "LUnitTurns$Block;", true)
  | 5 => ("UnitTurns", "ranks", "LUnitTurns$Ranks;", true)
  | 6 => ("UnitTurns", "search", "LUnitTurns$Search;", true)
  | 7 => ("UnitTurns", "script", "LUnitTurns$Script;", true)
  | _ => ("UnitTurns", "refusals", "[I", true)
def tyX8 : Nat → FieldType := fun k => match k with
  | 0 => .object "UnitTurns$Setup"
  | 1 => .object "UnitTurns$Setup"
  | 2 => .object "UnitTurns$Trail"
  | 3 => .object "UnitTurns$Chart"
  | 4 => .object "UnitTurns$Block"
  | 5 => .object "UnitTurns$Ranks"
  | 6 => .object "UnitTurns$Search"
  | 7 => .object "UnitTurns$Script"
  | _ => .array .int
abbrev wsX80 : List Cond := u_ws RX8 TX8 9
theorem nmX8 : ∀ a, a < 9 → ∀ b, b < 9 → a ≠ b → (TX8 a).2.1 ≠ (TX8 b).2.1 := by decide +kernel
theorem tyX8_ok : ∀ k, k < 9 → parseFieldDescriptor (TX8 k).2.2.1 = some (tyX8 k) := by decide +kernel
abbrev cX8_init : ByteArray := prog_1_method_1_code
def yX8_init : MethodName := ⟨RX8, "<init>", "()V"⟩
abbrev cX8_kind : ByteArray := prog_1_method_2_code
def yX8_kind : MethodName := ⟨RX8, "kind", "(IIII)I"⟩
abbrev cX8_sets : ByteArray := prog_1_method_3_code
def yX8_sets : MethodName := ⟨RX8, "sets", "(II)I"⟩
abbrev cX8_of : ByteArray := prog_1_method_4_code
def yX8_of : MethodName := ⟨RX8, "of", "(II)I"⟩
abbrev cX8_states : ByteArray := prog_1_method_5_code
def yX8_states : MethodName := ⟨RX8, "states", "()I"⟩
abbrev cX8_state : ByteArray := prog_1_method_6_code
def yX8_state : MethodName := ⟨RX8, "state", "(II)I"⟩
abbrev cX8_classes : ByteArray := prog_1_method_7_code
def yX8_classes : MethodName := ⟨RX8, "classes", "()I"⟩
abbrev cX8_alike : ByteArray := prog_1_method_8_code
def yX8_alike : MethodName := ⟨RX8, "alike", "(II)I"⟩
abbrev cX8_instruction : ByteArray := prog_1_method_9_code
def yX8_instruction : MethodName := ⟨RX8, "instruction", "(I)I"⟩
abbrev cX8_needs : ByteArray := prog_1_method_10_code
def yX8_needs : MethodName := ⟨RX8, "needs", "(III)I"⟩
abbrev cX8_drops : ByteArray := prog_1_method_11_code
def yX8_drops : MethodName := ⟨RX8, "drops", "(I)I"⟩
abbrev cX8_about : ByteArray := prog_1_method_12_code
def yX8_about : MethodName := ⟨RX8, "about", "(II)I"⟩
abbrev cX8_bound : ByteArray := prog_1_method_13_code
def yX8_bound : MethodName := ⟨RX8, "bound", "()I"⟩
abbrev cX8_best : ByteArray := prog_1_method_14_code
def yX8_best : MethodName := ⟨RX8, "best", "(I)I"⟩
abbrev cX8_ranked : ByteArray := prog_1_method_15_code
def yX8_ranked : MethodName := ⟨RX8, "ranked", "(II)I"⟩
abbrev cX8_plan : ByteArray := prog_1_method_16_code
def yX8_plan : MethodName := ⟨RX8, "plan", "(I)I"⟩
abbrev cX8_type : ByteArray := prog_1_method_17_code
def yX8_type : MethodName := ⟨RX8, "type", "(I)I"⟩
abbrev cX8_clear : ByteArray := prog_1_method_18_code
def yX8_clear : MethodName := ⟨RX8, "clear", "()I"⟩
abbrev cX8_reads : ByteArray := prog_1_method_19_code
def yX8_reads : MethodName := ⟨RX8, "reads", "()I"⟩
abbrev cX8_back : ByteArray := prog_1_method_20_code
def yX8_back : MethodName := ⟨RX8, "back", "()I"⟩
abbrev cX8_told : ByteArray := prog_1_method_21_code
def yX8_told : MethodName := ⟨RX8, "told", "(I)I"⟩
abbrev cX8_digest : ByteArray := prog_1_method_22_code
def yX8_digest : MethodName := ⟨RX8, "digest", "()J"⟩
abbrev cX8_settled : ByteArray := prog_1_method_23_code
def yX8_settled : MethodName := ⟨RX8, "settled", "(I)I"⟩
abbrev cX8_counted : ByteArray := prog_1_method_24_code
def yX8_counted : MethodName := ⟨RX8, "counted", "(I)I"⟩
abbrev cX8_forgetAnswers : ByteArray := prog_1_method_25_code
def yX8_forgetAnswers : MethodName := ⟨RX8, "forgetAnswers", "()V"⟩
abbrev cX8_kindFact : ByteArray := prog_1_method_26_code
def yX8_kindFact : MethodName := ⟨RX8, "kindFact", "(II)I"⟩
abbrev cX8_instructionFact : ByteArray := prog_1_method_27_code
def yX8_instructionFact : MethodName := ⟨RX8, "instructionFact", "(II)I"⟩
abbrev cX8_rankedLength : ByteArray := prog_1_method_28_code
def yX8_rankedLength : MethodName := ⟨RX8, "rankedLength", "(I)I"⟩
abbrev cX8_figure : ByteArray := prog_1_method_29_code
def yX8_figure : MethodName := ⟨RX8, "figure", "(I)I"⟩
abbrev cX8_unitOf : ByteArray := prog_1_method_30_code
def yX8_unitOf : MethodName := ⟨RX8, "unitOf", "(II)I"⟩
abbrev cX8_passed : ByteArray := prog_1_method_31_code
def yX8_passed : MethodName := ⟨RX8, "passed", "(II)I"⟩
abbrev cX8_powerOfTen : ByteArray := prog_1_method_32_code
def yX8_powerOfTen : MethodName := ⟨RX8, "powerOfTen", "(I)I"⟩
abbrev cX8_pair : ByteArray := prog_1_method_33_code
def yX8_pair : MethodName := ⟨RX8, "pair", "(II)I"⟩
def RX9 : String := "UnitTurnsModel"
def TX9 : u_T := fun k => match k with
  | 0 => ("UnitTurnsModel", "now", "[I", true)
  | 1 => ("UnitTurnsModel", "held", "[I", true)
  | 2 => ("UnitTurnsModel", "past", "[I", true)
  | 3 => ("UnitTurnsModel", "pasts", "I", false)
  | 4 => ("UnitTurnsModel", "refused", "[I", true)
  | 5 => ("UnitTurnsModel", "isLaid", "Z", false)
  | 6 => ("UnitTurnsModel", "stateMany", "I", false)
  | 7 => ("UnitTurnsModel", "states", "[I", true)
  | 8 => ("UnitTurnsModel", "leadsTo", "[I", true)
  | 9 => ("UnitTurnsModel", "classMany", "I", false)
  | 10 => ("UnitTurnsModel", "classOf", "[I", true)
  | 11 => ("UnitTurnsModel", "finer", "[I", true)
  | 12 => ("UnitTurnsModel", "ways", "[I", true)
  | 13 => ("UnitTurnsModel", "firsts", "[I", true)
  | 14 => ("UnitTurnsModel", "turns", "[I", true)
  | 15 => ("UnitTurnsModel", "busy", "[J", true)
  | 16 => ("UnitTurnsModel", "order", "[I", true)
  | 17 => ("UnitTurnsModel", "text", "[I", true)
  | 18 => ("UnitTurnsModel", "typed", "I", false)
  | 19 => ("UnitTurnsModel", "at", "I", false)
  | 20 => ("UnitTurnsModel", "fault", "I", false)
  | 21 => ("UnitTurnsModel", "orders", "I", false)
  | 22 => ("UnitTurnsModel", "letters", "[I", true)
  | 23 => ("UnitTurnsModel", "numbers", "[I", true)
  | _ => ("UnitTurnsModel", "h", "J", false)
def tyX9 : Nat → FieldType := fun k => match k with
  | 0 => .array .int
  | 1 => .array .int
  | 2 => .array .int
  | 3 => .int
  | 4 => .array .int
  | 5 => .boolean
  | 6 => .int
  | 7 => .array .int
  | 8 => .array .int
  | 9 => .int
  | 10 => .array .int
  | 11 => .array .int
  | 12 => .array .int
  | 13 => .array .int
  | 14 => .array .int
  | 15 => .array .long
  | 16 => .array .int
  | 17 => .array .int
  | 18 => .int
  | 19 => .int
  | 20 => .int
  | 21 => .int
  | 22 => .array .int
  | 23 => .array .int
  | _ => .long
abbrev wsX90 : List Cond := u_ws RX9 TX9 25
theorem nmX9 : ∀ a, a < 25 → ∀ b, b < 25 → a ≠ b → (TX9 a).2.1 ≠ (TX9 b).2.1 := by decide +kernel
theorem tyX9_ok : ∀ k, k < 25 → parseFieldDescriptor (TX9 k).2.2.1 = some (tyX9 k) := by decide +kernel
abbrev cX9_init : ByteArray := prog_11_method_1_code
def yX9_init : MethodName := ⟨RX9, "<init>", "()V"⟩
abbrev cX9_in : ByteArray := prog_11_method_2_code
def yX9_in : MethodName := ⟨RX9, "in", "(III)Z"⟩
abbrev cX9_has : ByteArray := prog_11_method_3_code
def yX9_has : MethodName := ⟨RX9, "has", "(II)Z"⟩
abbrev cX9_refuses : ByteArray := prog_11_method_4_code
def yX9_refuses : MethodName := ⟨RX9, "refuses", "(I)I"⟩
abbrev cX9_hold : ByteArray := prog_11_method_5_code
def yX9_hold : MethodName := ⟨RX9, "hold", "()V"⟩
abbrev cX9_push : ByteArray := prog_11_method_6_code
def yX9_push : MethodName := ⟨RX9, "push", "()V"⟩
abbrev cX9_ends : ByteArray := prog_11_method_7_code
def yX9_ends : MethodName := ⟨RX9, "ends", "(I)I"⟩
abbrev cX9_back : ByteArray := prog_11_method_8_code
def yX9_back : MethodName := ⟨RX9, "back", "()I"⟩
abbrev cX9_isKind : ByteArray := prog_11_method_9_code
def yX9_isKind : MethodName := ⟨RX9, "isKind", "(I)Z"⟩
abbrev cX9_isOne : ByteArray := prog_11_method_10_code
def yX9_isOne : MethodName := ⟨RX9, "isOne", "(I)Z"⟩
abbrev cX9_ofKind : ByteArray := prog_11_method_11_code
def yX9_ofKind : MethodName := ⟨RX9, "ofKind", "(II)I"⟩
abbrev cX9_ofOne : ByteArray := prog_11_method_12_code
def yX9_ofOne : MethodName := ⟨RX9, "ofOne", "(II)I"⟩
abbrev cX9_latency : ByteArray := prog_11_method_13_code
def yX9_latency : MethodName := ⟨RX9, "latency", "(I)I"⟩
abbrev cX9_needOf : ByteArray := prog_11_method_14_code
def yX9_needOf : MethodName := ⟨RX9, "needOf", "(II)I"⟩
abbrev cX9_counts : ByteArray := prog_11_method_15_code
def yX9_counts : MethodName := ⟨RX9, "counts", "(II)I"⟩
abbrev cX9_doKind : ByteArray := prog_11_method_16_code
def yX9_doKind : MethodName := ⟨RX9, "doKind", "(IIII)I"⟩
abbrev cX9_doSets : ByteArray := prog_11_method_17_code
def yX9_doSets : MethodName := ⟨RX9, "doSets", "(II)I"⟩
abbrev cX9_doInstruction : ByteArray := prog_11_method_18_code
def yX9_doInstruction : MethodName := ⟨RX9, "doInstruction", "(I)I"⟩
abbrev cX9_leads : ByteArray := prog_11_method_19_code
def yX9_leads : MethodName := ⟨RX9, "leads", "(II)Z"⟩
abbrev cX9_doNeeds : ByteArray := prog_11_method_20_code
def yX9_doNeeds : MethodName := ⟨RX9, "doNeeds", "(III)I"⟩
abbrev cX9_doDrops : ByteArray := prog_11_method_21_code
def yX9_doDrops : MethodName := ⟨RX9, "doDrops", "(I)I"⟩
abbrev cX9_kind : ByteArray := prog_11_method_22_code
def yX9_kind : MethodName := ⟨RX9, "kind", "(IIII)I"⟩
abbrev cX9_sets : ByteArray := prog_11_method_23_code
def yX9_sets : MethodName := ⟨RX9, "sets", "(II)I"⟩
abbrev cX9_instruction : ByteArray := prog_11_method_24_code
def yX9_instruction : MethodName := ⟨RX9, "instruction", "(I)I"⟩
abbrev cX9_needs : ByteArray := prog_11_method_25_code
def yX9_needs : MethodName := ⟨RX9, "needs", "(III)I"⟩
abbrev cX9_drops : ByteArray := prog_11_method_26_code
def yX9_drops : MethodName := ⟨RX9, "drops", "(I)I"⟩
abbrev cX9_holds : ByteArray := prog_11_method_27_code
def yX9_holds : MethodName := ⟨RX9, "holds", "(I)I"⟩
abbrev cX9_read : ByteArray := prog_11_method_28_code
def yX9_read : MethodName := ⟨RX9, "read", "(II)I"⟩
abbrev cX9_number : ByteArray := prog_11_method_29_code
def yX9_number : MethodName := ⟨RX9, "number", "(I)I"⟩
abbrev cX9_findStates : ByteArray := prog_11_method_30_code
def yX9_findStates : MethodName := ⟨RX9, "findStates", "()V"⟩
abbrev cX9_areAlike : ByteArray := prog_11_method_31_code
def yX9_areAlike : MethodName := ⟨RX9, "areAlike", "(II)Z"⟩
abbrev cX9_findClasses : ByteArray := prog_11_method_32_code
def yX9_findClasses : MethodName := ⟨RX9, "findClasses", "()V"⟩
abbrev cX9_isMuch : ByteArray := prog_11_method_33_code
def yX9_isMuch : MethodName := ⟨RX9, "isMuch", "()Z"⟩
abbrev cX9_states : ByteArray := prog_11_method_34_code
def yX9_states : MethodName := ⟨RX9, "states", "()I"⟩
abbrev cX9_state : ByteArray := prog_11_method_35_code
def yX9_state : MethodName := ⟨RX9, "state", "(II)I"⟩
abbrev cX9_classes : ByteArray := prog_11_method_36_code
def yX9_classes : MethodName := ⟨RX9, "classes", "()I"⟩
abbrev cX9_alike : ByteArray := prog_11_method_37_code
def yX9_alike : MethodName := ⟨RX9, "alike", "(II)I"⟩
abbrev cX9_span : ByteArray := prog_11_method_38_code
def yX9_span : MethodName := ⟨RX9, "span", "(I)I"⟩
abbrev cX9_behind : ByteArray := prog_11_method_39_code
def yX9_behind : MethodName := ⟨RX9, "behind", "(II)I"⟩
abbrev cX9_findWays : ByteArray := prog_11_method_40_code
def yX9_findWays : MethodName := ⟨RX9, "findWays", "()V"⟩
abbrev cX9_heldTurns : ByteArray := prog_11_method_41_code
def yX9_heldTurns : MethodName := ⟨RX9, "heldTurns", "(I)I"⟩
abbrev cX9_boundOf : ByteArray := prog_11_method_42_code
def yX9_boundOf : MethodName := ⟨RX9, "boundOf", "()I"⟩
abbrev cX9_bound : ByteArray := prog_11_method_43_code
def yX9_bound : MethodName := ⟨RX9, "bound", "()I"⟩
abbrev cX9_isFree : ByteArray := prog_11_method_44_code
def yX9_isFree : MethodName := ⟨RX9, "isFree", "(II)Z"⟩
abbrev cX9_exchange : ByteArray := prog_11_method_45_code
def yX9_exchange : MethodName := ⟨RX9, "exchange", "(II)V"⟩
abbrev cX9_clearAll : ByteArray := prog_11_method_46_code
def yX9_clearAll : MethodName := ⟨RX9, "clearAll", "()V"⟩
abbrev cX9_mayBegin : ByteArray := prog_11_method_47_code
def yX9_mayBegin : MethodName := ⟨RX9, "mayBegin", "(III)Z"⟩
abbrev cX9_isFound : ByteArray := prog_11_method_48_code
def yX9_isFound : MethodName := ⟨RX9, "isFound", "(I)Z"⟩
abbrev cX9_lengthOf : ByteArray := prog_11_method_49_code
def yX9_lengthOf : MethodName := ⟨RX9, "lengthOf", "()I"⟩
abbrev cX9_findBest : ByteArray := prog_11_method_50_code
def yX9_findBest : MethodName := ⟨RX9, "findBest", "()I"⟩
abbrev cX9_best : ByteArray := prog_11_method_51_code
def yX9_best : MethodName := ⟨RX9, "best", "(I)I"⟩
abbrev cX9_rank : ByteArray := prog_11_method_52_code
def yX9_rank : MethodName := ⟨RX9, "rank", "(II)I"⟩
abbrev cX9_findOrder : ByteArray := prog_11_method_53_code
def yX9_findOrder : MethodName := ⟨RX9, "findOrder", "(I)V"⟩
abbrev cX9_isReady : ByteArray := prog_11_method_54_code
def yX9_isReady : MethodName := ⟨RX9, "isReady", "(II)Z"⟩
abbrev cX9_findRanked : ByteArray := prog_11_method_55_code
def yX9_findRanked : MethodName := ⟨RX9, "findRanked", "(I)I"⟩
abbrev cX9_ranked : ByteArray := prog_11_method_56_code
def yX9_ranked : MethodName := ⟨RX9, "ranked", "(II)I"⟩
abbrev cX9_plan : ByteArray := prog_11_method_57_code
def yX9_plan : MethodName := ⟨RX9, "plan", "(I)I"⟩
abbrev cX9_toldOfKind : ByteArray := prog_11_method_58_code
def yX9_toldOfKind : MethodName := ⟨RX9, "toldOfKind", "(II)I"⟩
abbrev cX9_of : ByteArray := prog_11_method_59_code
def yX9_of : MethodName := ⟨RX9, "of", "(II)I"⟩
abbrev cX9_aboutOne : ByteArray := prog_11_method_60_code
def yX9_aboutOne : MethodName := ⟨RX9, "aboutOne", "(II)I"⟩
abbrev cX9_about : ByteArray := prog_11_method_61_code
def yX9_about : MethodName := ⟨RX9, "about", "(II)I"⟩
abbrev cX9_type : ByteArray := prog_11_method_62_code
def yX9_type : MethodName := ⟨RX9, "type", "(I)I"⟩
abbrev cX9_clear : ByteArray := prog_11_method_63_code
def yX9_clear : MethodName := ⟨RX9, "clear", "()I"⟩
abbrev cX9_here : ByteArray := prog_11_method_64_code
def yX9_here : MethodName := ⟨RX9, "here", "()I"⟩
abbrev cX9_must : ByteArray := prog_11_method_65_code
def yX9_must : MethodName := ⟨RX9, "must", "(Z)V"⟩
abbrev cX9_isFigure : ByteArray := prog_11_method_66_code
def yX9_isFigure : MethodName := ⟨RX9, "isFigure", "()Z"⟩
abbrev cX9_figures : ByteArray := prog_11_method_67_code
def yX9_figures : MethodName := ⟨RX9, "figures", "()I"⟩
abbrev cX9_numbersOf : ByteArray := prog_11_method_68_code
def yX9_numbersOf : MethodName := ⟨RX9, "numbersOf", "(I)I"⟩
abbrev cX9_readOrder : ByteArray := prog_11_method_69_code
def yX9_readOrder : MethodName := ⟨RX9, "readOrder", "()V"⟩
abbrev cX9_doOrder : ByteArray := prog_11_method_70_code
def yX9_doOrder : MethodName := ⟨RX9, "doOrder", "(I)I"⟩
abbrev cX9_reads : ByteArray := prog_11_method_71_code
def yX9_reads : MethodName := ⟨RX9, "reads", "()I"⟩
abbrev cX9_toldOf : ByteArray := prog_11_method_72_code
def yX9_toldOf : MethodName := ⟨RX9, "toldOf", "(I)I"⟩
abbrev cX9_told : ByteArray := prog_11_method_73_code
def yX9_told : MethodName := ⟨RX9, "told", "(I)I"⟩
abbrev cX9_mix : ByteArray := prog_11_method_74_code
def yX9_mix : MethodName := ⟨RX9, "mix", "(I)V"⟩
abbrev cX9_digest : ByteArray := prog_11_method_75_code
def yX9_digest : MethodName := ⟨RX9, "digest", "()J"⟩
def RJ6 : String := "java/lang/Integer"
def TJ6 : u_T := fun k => match k with
  | _ => ("", "", "", false)
def tyJ6 : Nat → FieldType := fun k => match k with
  | _ => .int
abbrev wsJ60 : List Cond := u_ws RJ6 TJ6 0
theorem nmJ6 : ∀ a, a < 0 → ∀ b, b < 0 → a ≠ b → (TJ6 a).2.1 ≠ (TJ6 b).2.1 := by decide +kernel
theorem tyJ6_ok : ∀ k, k < 0 → parseFieldDescriptor (TJ6 k).2.2.1 = some (tyJ6 k) := by decide +kernel
abbrev cJ6_bitCount_0f7a4 : ByteArray := prog_12_method_49_code
def yJ6_bitCount_0f7a4 : MethodName := ⟨RJ6, "bitCount", "(I)I"⟩
def RJ9 : String := "java/lang/Math"
def TJ9 : u_T := fun k => match k with
  | _ => ("", "", "", false)
def tyJ9 : Nat → FieldType := fun k => match k with
  | _ => .int
abbrev wsJ90 : List Cond := u_ws RJ9 TJ9 0
theorem nmJ9 : ∀ a, a < 0 → ∀ b, b < 0 → a ≠ b → (TJ9 a).2.1 ≠ (TJ9 b).2.1 := by decide +kernel
theorem tyJ9_ok : ∀ k, k < 0 → parseFieldDescriptor (TJ9 k).2.2.1 = some (tyJ9 k) := by decide +kernel
abbrev cJ9_max_7cf53 : ByteArray := prog_13_method_65_code
def yJ9_max_7cf53 : MethodName := ⟨RJ9, "max", "(II)I"⟩
abbrev cJ9_min_7cf53 : ByteArray := prog_13_method_69_code
def yJ9_min_7cf53 : MethodName := ⟨RJ9, "min", "(II)I"⟩
def RJ10 : String := "java/lang/System"
def TJ10 : u_T := fun k => match k with
  | _ => ("", "", "", false)
def tyJ10 : Nat → FieldType := fun k => match k with
  | _ => .int
abbrev wsJ100 : List Cond := u_ws RJ10 TJ10 0
theorem nmJ10 : ∀ a, a < 0 → ∀ b, b < 0 → a ≠ b → (TJ10 a).2.1 ≠ (TJ10 b).2.1 := by decide +kernel
theorem tyJ10_ok : ∀ k, k < 0 → parseFieldDescriptor (TJ10 k).2.2.1 = some (tyJ10 k) := by decide +kernel
def RJ7 : String := "java/util/Arrays"
def TJ7 : u_T := fun k => match k with
  | _ => ("", "", "", false)
def tyJ7 : Nat → FieldType := fun k => match k with
  | _ => .int
abbrev wsJ70 : List Cond := u_ws RJ7 TJ7 0
theorem nmJ7 : ∀ a, a < 0 → ∀ b, b < 0 → a ≠ b → (TJ7 a).2.1 ≠ (TJ7 b).2.1 := by decide +kernel
theorem tyJ7_ok : ∀ k, k < 0 → parseFieldDescriptor (TJ7 k).2.2.1 = some (tyJ7 k) := by decide +kernel
abbrev cJ7_fill_53178 : ByteArray := prog_15_method_103_code
def yJ7_fill_53178 : MethodName := ⟨RJ7, "fill", "([II)V"⟩
def RL : String := "UnitTurnsLaw"
abbrev cL_law : ByteArray := code
def yL_law : MethodName := ⟨RL, "law", "([I)Z"⟩
abbrev vwCl : List vw_C := [(RX0, TX0, 10), (RX1, TX1, 7), (RX2, TX2, 3), (RX3, TX3, 2), (RX4, TX4, 6), (RX5, TX5, 7), (RX6, TX6, 8), (RX7, TX7, 3), (RX8, TX8, 9), (RX9, TX9, 25)]
end
section
abbrev HS : Type := (Nat → Nat → Int32) × (Nat → Nat → Int64)
abbrev HG : Type := (Nat → ClassId) × (Nat → Nat → Nat) × (Nat → Nat) × ClassId × ClassId × ClassId
def hs_N : Nat := 84
def hs_sl : List ((Nat × Nat) ⊕ (Nat × List Nat)) := [.inr (8, [3, 8, 13, 40, 44, 52, 56, 64, 68]), .inr (6, [4, 5, 6, 7, 0, 0, 0, 0]), .inl (0, 5), .inl (0, 5), .inl (0, 6), .inl (0, 36), .inr (6, [9, 10, 11, 12, 0, 0, 0, 0]), .inl (0, 5), .inl (0, 5), .inl (0, 6), .inl (0, 36), .inr (7, [14, 0, 0]), .inl (2, 5), .inr (6, [16, 17, 18, 19, 0, 0, 0, 0]), .inl (0, 5), .inl (0, 5), .inl (0, 6), .inl (0, 36), .inr (6, [21, 22, 23, 24, 0, 0, 0, 0]), .inl (0, 5), .inl (0, 5), .inl (0, 6), .inl (0, 36), .inr (6, [26, 27, 28, 29, 0, 0, 0, 0]), .inl (0, 5), .inl (0, 5), .inl (0, 6), .inl (0, 36), .inr (6, [31, 32, 33, 34, 0, 0, 0, 0]), .inl (0, 5), .inl (0, 5), .inl (0, 6), .inl (0, 36), .inr (6, [36, 37, 38, 39, 0, 0, 0, 0]), .inl (0, 5), .inl (0, 5), .inl (0, 6), .inl (0, 36), .inr (1, [41, 42, 43, 0, 0, 0, 0]), .inl (0, 150), .inl (0, 150), .inl (0, 4096), .inr (0, [45, 46, 47, 48, 49, 50, 51, 0, 0, 0]), .inl (0, 6), .inl (0, 6), .inl (0, 6), .inl (0, 6), .inl (0, 36), .inl (0, 36), .inl (0, 6), .inr (2, [53, 54, 55]), .inl (0, 6), .inl (0, 6), .inl (0, 6), .inr (5, [57, 58, 59, 60, 61, 0, 0]), .inl (0, 42), .inl (0, 36), .inl (0, 6), .inl (0, 6), .inr (3, [62, 63]), .inl (0, 384), .inl (0, 36), .inr (4, [65, 66, 67, 0, 0, 0]), .inl (0, 120), .inl (0, 40), .inl (0, 160), .inl (0, 4), .inr (9, [70, 71, 72, 0, 73, 0, 0, 74, 75, 0, 76, 77, 78, 79, 80, 81, 82, 83, 0, 0, 0, 0, 84, 85, 1]), .inl (0, 66), .inl (0, 66), .inl (0, 330), .inl (0, 4), .inl (0, 151), .inl (0, 906), .inl (0, 150), .inl (0, 150), .inl (0, 6), .inl (0, 6), .inl (0, 6), .inl (1, 3), .inl (0, 6), .inl (0, 120), .inl (0, 50), .inl (0, 200)]
def hs_shp (i : Nat) : (Nat × Nat) ⊕ (Nat × List Nat) := hs_sl.getD i (.inl (0, 0))
end
section
-- values, cells, the world of all cells
def hs_rl (ad : Nat → Nat) (v : Value) : Value := match v with
  | .ref i => .ref (ad i)
  | w => w
theorem hs_rl_cat (ad : Nat → Nat) (v : Value) : (hs_rl ad v).category = v.category := by cases v <;> rfl
def hs_fv (G : HG) (σ : HS) (i k t : Nat) : Value := match t with
  | 0 => .int (σ.1 i k)
  | 1 => .long (σ.2 i k)
  | t + 2 => .ref (G.2.2.1 t)
def hs_cell (G : HG) (σ : HS) (i : Nat) : va_E := match hs_shp i with
  | .inl (0, n) => .inl (G.2.2.2.1, n, .inl (σ.1 i))
  | .inl (1, n) => .inl (G.2.2.2.2.1, n, .inr (.inl (σ.2 i)))
  | .inl (_ + 2, n) => .inl (G.2.2.2.2.2, n, .inr (.inr (.inr (.inr (fun j => some (G.2.2.1 (13 + 5 * j)))))))
  | .inr (ci, tg) => .inr (ci, tg.mapIdx (fun k t => hs_fv G σ i k t))
def hs_w (G : HG) (σ : HS) : va_W := (List.range hs_N).map (fun i => (G.2.2.1 i, hs_cell G σ i))
abbrev hs_D (G : HG) : va_G := (G.1, G.2.1)
def hs_ty (G : HG) : List (ClassId × FieldType) := [(G.2.2.2.1, .int), (G.2.2.2.2.1, .long), (G.2.2.2.2.2, .object "UnitTurns$Setup")]
def hs_inj (G : HG) : Prop := ∀ i j, i < hs_N → j < hs_N → G.2.2.1 i = G.2.2.1 j → i = j
theorem hs_at (G : HG) (σ : HS) {i : Nat} (h : i < hs_N) : (hs_w G σ)[i]? = some (G.2.2.1 i, hs_cell G σ i) := by
  simp [hs_w, List.getElem?_map, List.getElem?_range h]
theorem hs_at_inv {G : HG} {σ : HS} {i : Nat} {q : Nat × va_E} (h : (hs_w G σ)[i]? = some q) : i < hs_N ∧ q = (G.2.2.1 i, hs_cell G σ i) := by
  by_cases hi : i < hs_N
  · rw [hs_at G σ hi] at h
    exact ⟨hi, (Option.some.inj h).symm⟩
  · exfalso
    have : (hs_w G σ)[i]? = none := by simp [hs_w]; omega
    rw [this] at h
    cases h
theorem hs_dis {G : HG} {σ : HS} {A : Nat → Prop} (hj : hs_inj G) (hA : ∀ i, i < hs_N → A (G.2.2.1 i)) : va_D A (hs_w G σ) := by
  refine ⟨fun i j p q hp hq e => ?_, fun k q hq => ?_⟩
  · obtain ⟨h1, rfl⟩ := hs_at_inv hp
    obtain ⟨h2, rfl⟩ := hs_at_inv hq
    exact hj i j h1 h2 e
  · obtain ⟨h1, rfl⟩ := hs_at_inv hq
    exact hA k h1
-- writing
def sA (σ : HS) (o : Nat) (f : Nat → Int32) : HS := (fun a => if a = o then f else σ.1 a, σ.2)
def sI (σ : HS) (o k : Nat) (x : Int32) : HS := sA σ o (upd (σ.1 o) k x)
def sB (σ : HS) (o : Nat) (f : Nat → Int64) : HS := (σ.1, fun a => if a = o then f else σ.2 a)
def sL (σ : HS) (o k : Nat) (x : Int64) : HS := sB σ o (vp_updL (σ.2 o) k x)
theorem hs_cell_ne {G : HG} {σ : HS} {o i : Nat} {f : Nat → Int32} (h : i ≠ o) : hs_cell G (sA σ o f) i = hs_cell G σ i := by
  simp only [hs_cell, hs_fv, sA, if_neg h]
theorem hs_cell_neB {G : HG} {σ : HS} {o i : Nat} {f : Nat → Int64} (h : i ≠ o) : hs_cell G (sB σ o f) i = hs_cell G σ i := by
  simp only [hs_cell, hs_fv, sB, if_neg h]
theorem hs_w_set {G : HG} {σ σ' : HS} {o : Nat} {e : va_E} (h : ∀ i, i ≠ o → hs_cell G σ' i = hs_cell G σ i) (ho : hs_cell G σ' o = e) : (hs_w G σ).set o (G.2.2.1 o, e) = hs_w G σ' := by
  apply List.ext_getElem?
  intro i
  by_cases hi : i < hs_N
  · rw [List.getElem?_set, hs_at G σ' hi]
    by_cases hio : o = i
    · subst hio
      have : o < (hs_w G σ).length := by simp [hs_w]; exact hi
      simp [this, ho]
    · simp only [if_neg hio]
      rw [hs_at G σ hi, h i (fun e => hio e.symm)]
  · have h1 : ((hs_w G σ).set o (G.2.2.1 o, e))[i]? = none := by simp [hs_w]; omega
    have h2 : (hs_w G σ')[i]? = none := by simp [hs_w]; omega
    rw [h1, h2]
def hs_AI (o n : Nat) : Prop := o < hs_N ∧ hs_shp o = .inl (0, n)
def hs_AL (o n : Nat) : Prop := o < hs_N ∧ hs_shp o = .inl (1, n)
def hs_AR (o n : Nat) : Prop := o < hs_N ∧ hs_shp o = .inl (2, n)
def hs_OB (o ci : Nat) (tg : List Nat) : Prop := o < hs_N ∧ hs_shp o = .inr (ci, tg)
theorem hs_atI {G : HG} {σ : HS} {o n : Nat} (h : hs_AI o n) : (hs_w G σ)[o]? = some (G.2.2.1 o, .inl (G.2.2.2.1, n, .inl (σ.1 o))) := by
  rw [hs_at G σ h.1]; simp only [hs_cell, h.2]
theorem hs_atL {G : HG} {σ : HS} {o n : Nat} (h : hs_AL o n) : (hs_w G σ)[o]? = some (G.2.2.1 o, .inl (G.2.2.2.2.1, n, .inr (.inl (σ.2 o)))) := by
  rw [hs_at G σ h.1]; simp only [hs_cell, h.2]
theorem hs_atR {G : HG} {σ : HS} {o n : Nat} (h : hs_AR o n) : (hs_w G σ)[o]? = some (G.2.2.1 o, .inl (G.2.2.2.2.2, n, .inr (.inr (.inr (.inr (fun j => some (G.2.2.1 (13 + 5 * j)))))))) := by
  rw [hs_at G σ h.1]; simp only [hs_cell, h.2]
theorem hs_atO {G : HG} {σ : HS} {o ci : Nat} {tg : List Nat} (h : hs_OB o ci tg) : (hs_w G σ)[o]? = some (G.2.2.1 o, .inr (ci, tg.mapIdx (fun k t => hs_fv G σ o k t))) := by
  rw [hs_at G σ h.1]; simp only [hs_cell, h.2]
theorem hs_setI {G : HG} {σ : HS} {o n k : Nat} {x : Int32} (h : hs_AI o n) : (hs_w G σ).set o (G.2.2.1 o, .inl (G.2.2.2.1, n, .inl (upd (σ.1 o) k x))) = hs_w G (sI σ o k x) :=
  hs_w_set (fun i hi => hs_cell_ne hi) (by simp [hs_cell, h.2, sI, sA])
theorem hs_setA {G : HG} {σ : HS} {o n : Nat} {f : Nat → Int32} (h : hs_AI o n) : (hs_w G σ).set o (G.2.2.1 o, .inl (G.2.2.2.1, n, .inl f)) = hs_w G (sA σ o f) :=
  hs_w_set (fun i hi => hs_cell_ne hi) (by simp [hs_cell, h.2, sA])
theorem hs_setL {G : HG} {σ : HS} {o n k : Nat} {x : Int64} (h : hs_AL o n) : (hs_w G σ).set o (G.2.2.1 o, .inl (G.2.2.2.2.1, n, .inr (.inl (vp_updL (σ.2 o) k x)))) = hs_w G (sL σ o k x) :=
  hs_w_set (fun i hi => hs_cell_neB hi) (by simp [hs_cell, h.2, sL, sB])
theorem hs_setF {G : HG} {σ : HS} {o ci k : Nat} {tg : List Nat} {x : Int32} (h : hs_OB o ci tg) (hk : tg[k]? = some 0) : (hs_w G σ).set o (G.2.2.1 o, .inr (ci, (tg.mapIdx (fun k t => hs_fv G σ o k t)).set k (.int x))) = hs_w G (sI σ o k x) := by
  refine hs_w_set (fun i hi => hs_cell_ne hi) ?_
  simp only [hs_cell, h.2]
  refine congrArg (fun l => Sum.inr (ci, l)) ?_
  apply List.ext_getElem?
  intro i
  rw [List.getElem?_set, List.getElem?_mapIdx, List.getElem?_mapIdx]
  by_cases e : k = i
  · subst e
    have : k < (tg.mapIdx (fun k t => hs_fv G σ o k t)).length := by
      have := (List.getElem?_eq_some_iff.mp hk).1
      simpa using this
    rw [if_pos rfl, if_pos this, hk]
    simp [hs_fv, sI, sA, upd]
  · simp only [if_neg e]
    cases ht : tg[i]? with
    | none => rfl
    | some t =>
      have e' : ¬ i = k := fun h => e h.symm
      match t with
      | 0 => simp [hs_fv, sI, sA, upd, e']
      | 1 => simp [hs_fv, sI, sA]
      | t + 2 => simp [hs_fv]
theorem hs_setFL {G : HG} {σ : HS} {o ci k : Nat} {tg : List Nat} {x : Int64} (h : hs_OB o ci tg) (hk : tg[k]? = some 1) : (hs_w G σ).set o (G.2.2.1 o, .inr (ci, (tg.mapIdx (fun k t => hs_fv G σ o k t)).set k (.long x))) = hs_w G (sL σ o k x) := by
  refine hs_w_set (fun i hi => hs_cell_neB hi) ?_
  simp only [hs_cell, h.2]
  refine congrArg (fun l => Sum.inr (ci, l)) ?_
  apply List.ext_getElem?
  intro i
  rw [List.getElem?_set, List.getElem?_mapIdx, List.getElem?_mapIdx]
  by_cases e : k = i
  · subst e
    have : k < (tg.mapIdx (fun k t => hs_fv G σ o k t)).length := by
      have := (List.getElem?_eq_some_iff.mp hk).1
      simpa using this
    rw [if_pos rfl, if_pos this, hk]
    simp [hs_fv, sL, sB, vp_updL]
  · simp only [if_neg e]
    cases ht : tg[i]? with
    | none => rfl
    | some t =>
      have e' : ¬ i = k := fun h => e h.symm
      match t with
      | 0 => simp [hs_fv, sL, sB]
      | 1 => simp [hs_fv, sL, sB, vp_updL, e']
      | t + 2 => simp [hs_fv]
-- locals
def hs_lv (ad : Nat → Nat) (A : Array Slot) (nL : Nat) (ls : List (Option Value)) : Prop := A.size = nL ∧ lv_wf A ∧ ∀ (i : Nat) (v : Value), ls[i]? = some (some v) → A[i]? = some (Slot.val (hs_rl ad v))
def hs_pr (ad : Nat → Nat) : Nat → List (Option Value) → List (Nat × Value)
  | _, [] => []
  | i, none :: r => hs_pr ad (i + 1) r
  | i, some v :: r => (i, hs_rl ad v) :: hs_pr ad (i + 1) r
theorem hs_pr_mem {ad : Nat → Nat} : ∀ (ls : List (Option Value)) (b : Nat) (q : Nat × Value), q ∈ hs_pr ad b ls ↔ ∃ i v, ls[i]? = some (some v) ∧ q = (b + i, hs_rl ad v) := by
  intro ls
  induction ls with
  | nil => intro b q; simp [hs_pr]
  | cons a r ih =>
    intro b q
    cases a with
    | none =>
      rw [hs_pr, ih]
      constructor
      · rintro ⟨i, v, h, e⟩
        exact ⟨i + 1, v, by simpa using h, by rw [e]; congr 1; omega⟩
      · rintro ⟨i, v, h, e⟩
        cases i with
        | zero => simp at h
        | succ i => exact ⟨i, v, by simpa using h, by rw [e]; congr 1; omega⟩
    | some w =>
      rw [hs_pr, List.mem_cons, ih]
      constructor
      · rintro (e | ⟨i, v, h, e⟩)
        · exact ⟨0, w, by simp, by rw [e]; rfl⟩
        · exact ⟨i + 1, v, by simpa using h, by rw [e]; congr 1; omega⟩
      · rintro ⟨i, v, h, e⟩
        cases i with
        | zero =>
          left
          simp at h
          rw [e, h]
          rfl
        | succ i => exact Or.inr ⟨i, v, by simpa using h, by rw [e]; congr 1; omega⟩
theorem hs_lv_has {ad : Nat → Nat} {A : Array Slot} {nL : Nat} {ls : List (Option Value)} : hs_lv ad A nL ls ↔ lv_has A nL (hs_pr ad 0 ls) := by
  constructor
  · rintro ⟨h1, h2, h3⟩
    refine ⟨h1, h2, fun q hq => ?_⟩
    obtain ⟨i, v, h, rfl⟩ := (hs_pr_mem ls 0 q).mp hq
    simpa using h3 i v h
  · rintro ⟨h1, h2, h3⟩
    refine ⟨h1, h2, fun i v h => ?_⟩
    simpa using h3 (0 + i, hs_rl ad v) ((hs_pr_mem ls 0 _).mpr ⟨i, v, h, rfl⟩)
/-- no long begins right ahead of place i -/
def hs_no2 (ls : List (Option Value)) (i : Nat) : Bool := match i with
  | 0 => true
  | j + 1 => match ls[j]? with
    | some (some v) => v.category == 1
    | _ => true
theorem hs_lv_st {ad : Nat → Nat} {A : Array Slot} {nL : Nat} {ls : List (Option Value)} {i : Nat} {w : Value} (hn : hs_no2 ls i = true)
    (h : lv_has A nL ((i, hs_rl ad w) :: (hs_pr ad 0 ls).filter (fun q => !(q.1 == i) && !(q.1 + 1 == i && q.2.category == 2)))) : hs_lv ad A nL (ls.set i (some w)) := by
  obtain ⟨h1, h2, h3⟩ := h
  refine ⟨h1, h2, fun j v hj => ?_⟩
  rw [List.getElem?_set] at hj
  by_cases e : i = j
  · subst e
    by_cases hl : i < ls.length
    · rw [if_pos rfl, if_pos hl] at hj
      cases hj
      exact h3 (i, hs_rl ad w) List.mem_cons_self
    · rw [if_pos rfl, if_neg hl] at hj
      cases hj
  · rw [if_neg e] at hj
    refine h3 (j, hs_rl ad v) (List.mem_cons_of_mem _ (List.mem_filter.mpr ⟨(hs_pr_mem ls 0 _).mpr ⟨j, v, hj, by simp⟩, ?_⟩))
    have e1 : (j == i) = false := by simp; exact fun q => e q.symm
    simp only [e1, Bool.not_false, Bool.true_and, hs_rl_cat]
    cases hji : (j + 1 == i) with
    | false => rfl
    | true =>
      have : i = j + 1 := by simp at hji; omega
      subst this
      simp only [hs_no2, hj] at hn
      have hc : v.category = 1 := by simpa using hn
      simp [hc]
theorem hs_lv_stL {ad : Nat → Nat} {A : Array Slot} {nL : Nat} {ls : List (Option Value)} {i : Nat} {x : Int64} (hn : hs_no2 ls i = true)
    (h : lv_has A nL ((i, Value.long x) :: (hs_pr ad 0 ls).filter (fun q => !(q.1 == i) && (!(q.1 == i + 1) && !(q.1 + 1 == i && q.2.category == 2))))) : hs_lv ad A nL ((ls.set i (some (.long x))).set (i + 1) none) := by
  obtain ⟨h1, h2, h3⟩ := h
  refine ⟨h1, h2, fun j v hj => ?_⟩
  rw [List.getElem?_set] at hj
  by_cases e2 : i + 1 = j
  · rw [if_pos e2] at hj
    split at hj <;> cases hj
  · rw [if_neg e2, List.getElem?_set] at hj
    by_cases e : i = j
    · subst e
      by_cases hl : i < ls.length
      · rw [if_pos rfl, if_pos hl] at hj
        cases hj
        exact h3 (i, Value.long x) List.mem_cons_self
      · rw [if_pos rfl, if_neg hl] at hj
        cases hj
    · rw [if_neg e] at hj
      refine h3 (j, hs_rl ad v) (List.mem_cons_of_mem _ (List.mem_filter.mpr ⟨(hs_pr_mem ls 0 _).mpr ⟨j, v, hj, by simp⟩, ?_⟩))
      have e1 : (j == i) = false := by simp; exact fun q => e q.symm
      have e3 : (j == i + 1) = false := by simp; exact fun q => e2 q.symm
      simp only [e1, e3, Bool.not_false, Bool.true_and, hs_rl_cat]
      cases hji : (j + 1 == i) with
      | false => rfl
      | true =>
        have : i = j + 1 := by simp at hji; omega
        subst this
        simp only [hs_no2, hj] at hn
        have hc : v.category = 1 := by simpa using hn
        simp [hc]
-- the words
def hs_tbl : List Cond := lw_tbl.filter goodWord
abbrev hs_NW : Type := String × Nat × MethodName × String
def hs_nest : List hs_NW := [("UnitTurns", 11, ⟨"UnitTurns$Setup", "<init>", "()V"⟩, "UnitTurns"), ("UnitTurns$Trail", 17, ⟨"UnitTurns$Setup", "<init>", "()V"⟩, "UnitTurns"), ("UnitTurns", 28, ⟨"UnitTurns$Chart", "<init>", "()V"⟩, "UnitTurns"), ("UnitTurns", 35, ⟨"UnitTurns$Block", "<init>", "()V"⟩, "UnitTurns"), ("UnitTurns", 42, ⟨"UnitTurns$Ranks", "<init>", "()V"⟩, "UnitTurns"), ("UnitTurns", 49, ⟨"UnitTurns$Search", "<init>", "()V"⟩, "UnitTurns"), ("UnitTurns$Search", 26, ⟨"UnitTurns$Rows", "<init>", "()V"⟩, "UnitTurns"), ("UnitTurns", 56, ⟨"UnitTurns$Script", "<init>", "()V"⟩, "UnitTurns"), ("UnitTurns$Chart", 49, ⟨"UnitTurns", "passed", "(II)I"⟩, "UnitTurns"), ("UnitTurns$Chart", 45, ⟨"UnitTurns", "unitOf", "(II)I"⟩, "UnitTurns"), ("UnitTurns$Setup", 57, ⟨"UnitTurns", "pair", "(II)I"⟩, "UnitTurns"), ("UnitTurns$Block", 98, ⟨"UnitTurns", "passed", "(II)I"⟩, "UnitTurns"), ("UnitTurns$Block", 67, ⟨"UnitTurns", "pair", "(II)I"⟩, "UnitTurns"), ("UnitTurns$Block", 78, ⟨"UnitTurns", "unitOf", "(II)I"⟩, "UnitTurns"), ("UnitTurns$Search", 74, ⟨"UnitTurns", "pair", "(II)I"⟩, "UnitTurns"), ("UnitTurns$Rows", 38, ⟨"UnitTurns", "pair", "(II)I"⟩, "UnitTurns"), ("UnitTurns$Ranks", 51, ⟨"UnitTurns", "pair", "(II)I"⟩, "UnitTurns")]
def hs_Nest (U : State) : Prop := ∀ q ∈ hs_nest, va_Nw (.methodLinkNest q.1 q.2.1 q.2.2.1 q.2.2.2) U
theorem hs_Nest.warm {s U : State} (hW : s.WarmedH U.vm) (h : hs_Nest s) : hs_Nest U := fun q hq => va_Nw.warmM hW (h q hq)
theorem hs_Nest.same {s U : State} (e : s.vm = U.vm) (h : hs_Nest s) : hs_Nest U := fun q hq => va_Nw.same rfl e (h q hq)
def hs_In (G : HG) (σ : HS) (U : State) : Prop := va_P (hs_D G) vwCl (hs_w G σ) U.heap ∧ va_K (hs_D G) vwCl (hs_ty G) U ∧ hs_Nest U
def hs_A (G : HG) : Nat → Prop := fun q => ∃ i, i < hs_N ∧ q = G.2.2.1 i
def hs_rm (d : Nat) : Room := { frames := d, cells := 0, slots := 0, locals := 64 * d }
def hs_Pc (G : HG) (av : List Value) (σ : HS) : Array Value → State → Prop := va_Pc (av.map (hs_rl G.2.2.1)) (fun U => hs_In G σ U ∧ hs_inj G)
def hs_Qc (G : HG) (rs : Option Value × HS) : Array Value → State → Outcome → State → Prop := fun _ st oc t => oc = .returned rs.1 ∧ hs_In G rs.2 t ∧ va_F (hs_A G) st t
def hs_ws (y : MethodName) (cc : ByteArray) (nL : Nat) (ret : Option FieldType) : List Cond := .code y cc nL ret :: hs_tbl
/-- the contract of a method: called with av over σ it returns, with rs.1, over rs.2 -/
def hs_Spec (d : Nat) (y : MethodName) (cc : ByteArray) (nL : Nat) (ret : Option FieldType) (av : List Value) (σ : HS) (rs : Option Value × HS) : Prop :=
  ∀ (l : Launch) (G : HG), Met l y (hs_ws y cc nL ret) (hs_rm d) (hs_Pc G av σ) (hs_Qc G rs) 0 0 (hs_A G)
-- what a walk ends in: room, cells, slots; what holds of the frame; which cells may be written; the end
abbrev HZ : Type := Room × Nat × Nat × (HG → State → Array Value → Method → Prop) × (HG → State → Nat → Prop) × (HG → State → Array Value → List Frame → State → Prop)
def hs_C (own : String) (cc : ByteArray) (nL : Nat) (Z : HZ) (p : Program) (s : State) (m : MethodId) (args : Array Value) (meth : Method) (c : Code) (G : HG) : Prop :=
  p.tables.exec = Jvm.exec ∧ c.code = cc ∧ c.maxLocals = nL ∧ s.vm.findClass own = some m.cls ∧ (∀ w ∈ hs_tbl, w.before args s = true) ∧ hs_Nest s ∧ va_K (hs_D G) vwCl (hs_ty G) s ∧ hs_inj G ∧ (∀ i, i < hs_N → Z.2.2.2.2.1 G s (G.2.2.1 i)) ∧ Z.2.2.2.1 G s args meth
def hs_H (Z : HZ) (s : State) (G : HG) (σ : HS) (H : Heap) (locs : List Loc) : Prop := va_P (hs_D G) vwCl (hs_w G σ) H ∧ va_S (Z.2.2.2.2.1 G s) s.heap H locs
def PW (own : String) (cc : ByteArray) (nL : Nat) (Z : HZ) (pc : Nat) (ls : List (Option Value)) (st : List Value) (σ : HS) : Prop :=
  ∀ (p : Program) (l : Launch) (e : Env) (s : State) (m : MethodId) (args : Array Value) (below : List Frame) (meth : Method) (c : Code) (G : HG) (H : Heap) (locs : List Loc) (A : Array Slot),
    hs_C own cc nL Z p s m args meth c G → hs_H Z s G σ H locs → hs_lv G.2.2.1 A nL ls → W p l e Z.1 s m args below meth c H locs Z.2.1 Z.2.2.1 (Z.2.2.2.2.2 G s args below) (F0 m pc A (st.map (hs_rl G.2.2.1)))
def hs_zM (d : Nat) (ret : Option FieldType) (rs : Option Value × HS) : HZ :=
  (hs_rm d, 0, 0, fun _ _ _ meth => meth.sig.returnType = ret ∧ meth.locks = false, fun G _ => hs_A G, fun G s args below => MQ below (hs_Qc G rs) args s 0 0 (hs_A G))
def Dc (cc : ByteArray) (pc : Nat) (i : Instr) (n pc' : Nat) : Prop := decode cc pc = .ok (i, n) ∧ pc + n = pc'
section PWr
variable {own : String} {cc : ByteArray} {nL : Nat} {Z : HZ} {pc pc' : Nat} {ls : List (Option Value)} {st : List Value} {σ : HS}
theorem pw_drop {ls' : List (Option Value)} (h : ∀ (i : Nat) (v : Value), ls'[i]? = some (some v) → ls[i]? = some (some v)) (k : PW own cc nL Z pc ls' st σ) : PW own cc nL Z pc ls st σ := by
  intro p l e s m args below meth c G H locs A C D L
  exact k p l e s m args below meth c G H locs A C D ⟨L.1, L.2.1, fun i v hi => L.2.2 i v (h i v hi)⟩
theorem pw_iload_n {kk : Fin 4} {x : Int32} (hd : Dc cc pc (.iload_n kk) 1 pc') (hl : ls[(kk : Nat)]? = some (some (.int x))) (k : PW own cc nL Z pc' ls (.int x :: st) σ) : PW own cc nL Z pc ls st σ := by
  intro p l e s m args below meth c G H locs A C D L
  obtain ⟨hd, rfl⟩ := hd
  exact lv_iload_n C.1 C.2.1 hd rfl (L.2.2 _ _ hl) (k p l e s m args below meth c G H locs A C D L)
theorem pw_iload {i : Nat} {x : Int32} (hd : Dc cc pc (.iload i) 2 pc') (hl : ls[i]? = some (some (.int x))) (k : PW own cc nL Z pc' ls (.int x :: st) σ) : PW own cc nL Z pc ls st σ := by
  intro p l e s m args below meth c G H locs A C D L
  obtain ⟨hd, rfl⟩ := hd
  exact lv_iload C.1 C.2.1 hd (L.2.2 _ _ hl) (k p l e s m args below meth c G H locs A C D L)
theorem pw_aload_n {kk : Fin 4} {x : Nat} (hd : Dc cc pc (.aload_n kk) 1 pc') (hl : ls[(kk : Nat)]? = some (some (.ref x))) (k : PW own cc nL Z pc' ls (.ref x :: st) σ) : PW own cc nL Z pc ls st σ := by
  intro p l e s m args below meth c G H locs A C D L
  obtain ⟨hd, rfl⟩ := hd
  exact lv_aload_n C.1 C.2.1 hd rfl (L.2.2 _ _ hl) (k p l e s m args below meth c G H locs A C D L)
theorem pw_aload {i : Nat} {x : Nat} (hd : Dc cc pc (.aload i) 2 pc') (hl : ls[i]? = some (some (.ref x))) (k : PW own cc nL Z pc' ls (.ref x :: st) σ) : PW own cc nL Z pc ls st σ := by
  intro p l e s m args below meth c G H locs A C D L
  obtain ⟨hd, rfl⟩ := hd
  exact lv_aload C.1 C.2.1 hd (L.2.2 _ _ hl) (k p l e s m args below meth c G H locs A C D L)
theorem pw_lload_n {kk : Fin 4} {x : Int64} (hd : Dc cc pc (.lload_n kk) 1 pc') (hl : ls[(kk : Nat)]? = some (some (.long x))) (k : PW own cc nL Z pc' ls (.long x :: st) σ) : PW own cc nL Z pc ls st σ := by
  intro p l e s m args below meth c G H locs A C D L
  obtain ⟨hd, rfl⟩ := hd
  exact lv_lload_n C.1 C.2.1 hd rfl (L.2.2 _ _ hl) (k p l e s m args below meth c G H locs A C D L)
theorem pw_lload {i : Nat} {x : Int64} (hd : Dc cc pc (.lload i) 2 pc') (hl : ls[i]? = some (some (.long x))) (k : PW own cc nL Z pc' ls (.long x :: st) σ) : PW own cc nL Z pc ls st σ := by
  intro p l e s m args below meth c G H locs A C D L
  obtain ⟨hd, rfl⟩ := hd
  exact lv_lload C.1 C.2.1 hd (L.2.2 _ _ hl) (k p l e s m args below meth c G H locs A C D L)
theorem pw_iconst {n : Int} {v : Int32} (hd : Dc cc pc (.iconst n) 1 pc') (hv : Int32.ofInt n = v) (k : PW own cc nL Z pc' ls (.int v :: st) σ) : PW own cc nL Z pc ls st σ := by
  intro p l e s m args below meth c G H locs A C D L
  obtain ⟨hd, rfl⟩ := hd
  exact lv_iconst C.1 C.2.1 hd hv (k p l e s m args below meth c G H locs A C D L)
theorem pw_bipush {n : Int} {v : Int32} (hd : Dc cc pc (.bipush n) 2 pc') (hv : (Int8.ofInt n).toInt32 = v) (k : PW own cc nL Z pc' ls (.int v :: st) σ) : PW own cc nL Z pc ls st σ := by
  intro p l e s m args below meth c G H locs A C D L
  obtain ⟨hd, rfl⟩ := hd
  exact lv_bipush C.1 C.2.1 hd hv (k p l e s m args below meth c G H locs A C D L)
theorem pw_sipush {n : Int} {v : Int32} (hd : Dc cc pc (.sipush n) 3 pc') (hv : (Int16.ofInt n).toInt32 = v) (k : PW own cc nL Z pc' ls (.int v :: st) σ) : PW own cc nL Z pc ls st σ := by
  intro p l e s m args below meth c G H locs A C D L
  obtain ⟨hd, rfl⟩ := hd
  exact lv_sipush C.1 C.2.1 hd hv (k p l e s m args below meth c G H locs A C D L)
theorem pw_lconst {n : Fin 2} {v : Int64} (hd : Dc cc pc (.lconst n) 1 pc') (hv : Int64.ofNat (n : Nat) = v) (k : PW own cc nL Z pc' ls (.long v :: st) σ) : PW own cc nL Z pc ls st σ := by
  intro p l e s m args below meth c G H locs A C D L
  obtain ⟨hd, rfl⟩ := hd
  exact lv_lconst C.1 C.2.1 hd hv (k p l e s m args below meth c G H locs A C D L)
theorem pw_ldc {ix : Nat} {v : Int32} (hd : Dc cc pc (.ldc ix) 2 pc') (hc : Cond.constant own ix v ∈ hs_tbl) (k : PW own cc nL Z pc' ls (.int v :: st) σ) : PW own cc nL Z pc ls st σ := by
  intro p l e s m args below meth c G H locs A C D L
  obtain ⟨hd, rfl⟩ := hd
  exact lv_ldc C.1 C.2.1 C.2.2.2.1 (C.2.2.2.2.1 _ hc) hd (k p l e s m args below meth c G H locs A C D L)
theorem pw_ldc2 {ix : Nat} {v : Int64} (hd : Dc cc pc (.ldc2_w ix) 3 pc') (hc : Cond.constantLong own ix v ∈ hs_tbl) (k : PW own cc nL Z pc' ls (.long v :: st) σ) : PW own cc nL Z pc ls st σ := by
  intro p l e s m args below meth c G H locs A C D L
  obtain ⟨hd, rfl⟩ := hd
  exact lv_ldc2 C.1 C.2.1 C.2.2.2.1 (C.2.2.2.2.1 _ hc) hd (k p l e s m args below meth c G H locs A C D L)
theorem pw_iadd {x y : Int32} (hd : Dc cc pc .iadd 1 pc')  (k : PW own cc nL Z pc' ls (.int (x + y) :: st) σ) : PW own cc nL Z pc ls (.int y :: .int x :: st) σ := by
  intro p l e s m args below meth c G H locs A C D L
  obtain ⟨hd, rfl⟩ := hd
  exact lv_iadd C.1 C.2.1 hd (k p l e s m args below meth c G H locs A C D L)
theorem pw_isub {x y : Int32} (hd : Dc cc pc .isub 1 pc')  (k : PW own cc nL Z pc' ls (.int (x - y) :: st) σ) : PW own cc nL Z pc ls (.int y :: .int x :: st) σ := by
  intro p l e s m args below meth c G H locs A C D L
  obtain ⟨hd, rfl⟩ := hd
  exact lv_isub C.1 C.2.1 hd (k p l e s m args below meth c G H locs A C D L)
theorem pw_imul {x y : Int32} (hd : Dc cc pc .imul 1 pc')  (k : PW own cc nL Z pc' ls (.int (x * y) :: st) σ) : PW own cc nL Z pc ls (.int y :: .int x :: st) σ := by
  intro p l e s m args below meth c G H locs A C D L
  obtain ⟨hd, rfl⟩ := hd
  exact lv_imul C.1 C.2.1 hd (k p l e s m args below meth c G H locs A C D L)
theorem pw_iand {x y : Int32} (hd : Dc cc pc .iand 1 pc')  (k : PW own cc nL Z pc' ls (.int (x &&& y) :: st) σ) : PW own cc nL Z pc ls (.int y :: .int x :: st) σ := by
  intro p l e s m args below meth c G H locs A C D L
  obtain ⟨hd, rfl⟩ := hd
  exact lv_iand C.1 C.2.1 hd (k p l e s m args below meth c G H locs A C D L)
theorem pw_ior {x y : Int32} (hd : Dc cc pc .ior 1 pc')  (k : PW own cc nL Z pc' ls (.int (x ||| y) :: st) σ) : PW own cc nL Z pc ls (.int y :: .int x :: st) σ := by
  intro p l e s m args below meth c G H locs A C D L
  obtain ⟨hd, rfl⟩ := hd
  exact lv_ior C.1 C.2.1 hd (k p l e s m args below meth c G H locs A C D L)
theorem pw_ixor {x y : Int32} (hd : Dc cc pc .ixor 1 pc')  (k : PW own cc nL Z pc' ls (.int (x ^^^ y) :: st) σ) : PW own cc nL Z pc ls (.int y :: .int x :: st) σ := by
  intro p l e s m args below meth c G H locs A C D L
  obtain ⟨hd, rfl⟩ := hd
  exact lv_ixor C.1 C.2.1 hd (k p l e s m args below meth c G H locs A C D L)
theorem pw_ishl {x y : Int32} (hd : Dc cc pc .ishl 1 pc')  (k : PW own cc nL Z pc' ls (.int (x <<< (y &&& 31)) :: st) σ) : PW own cc nL Z pc ls (.int y :: .int x :: st) σ := by
  intro p l e s m args below meth c G H locs A C D L
  obtain ⟨hd, rfl⟩ := hd
  exact lv_ishl C.1 C.2.1 hd (k p l e s m args below meth c G H locs A C D L)
theorem pw_ishr {x y : Int32} (hd : Dc cc pc .ishr 1 pc')  (k : PW own cc nL Z pc' ls (.int (x >>> (y &&& 31)) :: st) σ) : PW own cc nL Z pc ls (.int y :: .int x :: st) σ := by
  intro p l e s m args below meth c G H locs A C D L
  obtain ⟨hd, rfl⟩ := hd
  exact lv_ishr C.1 C.2.1 hd (k p l e s m args below meth c G H locs A C D L)
theorem pw_idiv {x y : Int32} (hd : Dc cc pc .idiv 1 pc') (hne : ¬ y = 0) (k : PW own cc nL Z pc' ls (.int (x / y) :: st) σ) : PW own cc nL Z pc ls (.int y :: .int x :: st) σ := by
  intro p l e s m args below meth c G H locs A C D L
  obtain ⟨hd, rfl⟩ := hd
  exact lv_idiv C.1 C.2.1 hd hne (k p l e s m args below meth c G H locs A C D L)
theorem pw_irem {x y : Int32} (hd : Dc cc pc .irem 1 pc') (hne : ¬ y = 0) (k : PW own cc nL Z pc' ls (.int (x - x / y * y) :: st) σ) : PW own cc nL Z pc ls (.int y :: .int x :: st) σ := by
  intro p l e s m args below meth c G H locs A C D L
  obtain ⟨hd, rfl⟩ := hd
  exact lv_irem C.1 C.2.1 hd hne (k p l e s m args below meth c G H locs A C D L)
theorem pw_iushr {x y : Int32} (hd : Dc cc pc .iushr 1 pc')  (k : PW own cc nL Z pc' ls (.int ((x.toUInt32 >>> (y.toUInt32 &&& Int32.toUInt32 31)).toInt32) :: st) σ) : PW own cc nL Z pc ls (.int y :: .int x :: st) σ := by
  intro p l e s m args below meth c G H locs A C D L
  obtain ⟨hd, rfl⟩ := hd
  exact lv_iushr C.1 C.2.1 hd rfl (k p l e s m args below meth c G H locs A C D L)
theorem pw_ladd {x y : Int64} (hd : Dc cc pc .ladd 1 pc')  (k : PW own cc nL Z pc' ls (.long (x + y) :: st) σ) : PW own cc nL Z pc ls (.long y :: .long x :: st) σ := by
  intro p l e s m args below meth c G H locs A C D L
  obtain ⟨hd, rfl⟩ := hd
  exact lv_ladd C.1 C.2.1 hd (k p l e s m args below meth c G H locs A C D L)
theorem pw_lmul {x y : Int64} (hd : Dc cc pc .lmul 1 pc')  (k : PW own cc nL Z pc' ls (.long (x * y) :: st) σ) : PW own cc nL Z pc ls (.long y :: .long x :: st) σ := by
  intro p l e s m args below meth c G H locs A C D L
  obtain ⟨hd, rfl⟩ := hd
  exact lv_lmul C.1 C.2.1 hd (k p l e s m args below meth c G H locs A C D L)
theorem pw_land {x y : Int64} (hd : Dc cc pc .land 1 pc')  (k : PW own cc nL Z pc' ls (.long (x &&& y) :: st) σ) : PW own cc nL Z pc ls (.long y :: .long x :: st) σ := by
  intro p l e s m args below meth c G H locs A C D L
  obtain ⟨hd, rfl⟩ := hd
  exact lv_land C.1 C.2.1 hd (k p l e s m args below meth c G H locs A C D L)
theorem pw_lxor {x y : Int64} (hd : Dc cc pc .lxor 1 pc')  (k : PW own cc nL Z pc' ls (.long (x ^^^ y) :: st) σ) : PW own cc nL Z pc ls (.long y :: .long x :: st) σ := by
  intro p l e s m args below meth c G H locs A C D L
  obtain ⟨hd, rfl⟩ := hd
  exact lv_lxor C.1 C.2.1 hd (k p l e s m args below meth c G H locs A C D L)
theorem pw_lshl {x : Int64} {y : Int32} (hd : Dc cc pc .lshl 1 pc')  (k : PW own cc nL Z pc' ls (.long (x <<< (y.toInt64 &&& 63)) :: st) σ) : PW own cc nL Z pc ls (.int y :: .long x :: st) σ := by
  intro p l e s m args below meth c G H locs A C D L
  obtain ⟨hd, rfl⟩ := hd
  exact lv_lshl C.1 C.2.1 hd rfl (k p l e s m args below meth c G H locs A C D L)
theorem pw_i2l {x : Int32} (hd : Dc cc pc .i2l 1 pc')  (k : PW own cc nL Z pc' ls (.long x.toInt64 :: st) σ) : PW own cc nL Z pc ls (.int x :: st) σ := by
  intro p l e s m args below meth c G H locs A C D L
  obtain ⟨hd, rfl⟩ := hd
  exact lv_i2l C.1 C.2.1 hd rfl (k p l e s m args below meth c G H locs A C D L)
theorem pw_lcmp {x y : Int64} (hd : Dc cc pc .lcmp 1 pc')  (k : PW own cc nL Z pc' ls (.int (lg_cmp x y) :: st) σ) : PW own cc nL Z pc ls (.long y :: .long x :: st) σ := by
  intro p l e s m args below meth c G H locs A C D L
  obtain ⟨hd, rfl⟩ := hd
  exact W.lcmp C.1 C.2.1 hd (k p l e s m args below meth c G H locs A C D L)
theorem pw_dup {v : Value} (hd : Dc cc pc .dup 1 pc') (hc : v.category = 1) (k : PW own cc nL Z pc' ls (v :: v :: st) σ) : PW own cc nL Z pc ls (v :: st) σ := by
  intro p l e s m args below meth c G H locs A C D L
  obtain ⟨hd, rfl⟩ := hd
  exact lv_dup C.1 C.2.1 hd (by rw [hs_rl_cat]; exact hc) (k p l e s m args below meth c G H locs A C D L)
theorem pw_pop {v : Value} (hd : Dc cc pc .pop 1 pc') (hc : v.category = 1) (k : PW own cc nL Z pc' ls st σ) : PW own cc nL Z pc ls (v :: st) σ := by
  intro p l e s m args below meth c G H locs A C D L
  obtain ⟨hd, rfl⟩ := hd
  exact lv_pop C.1 C.2.1 hd (by rw [hs_rl_cat]; exact hc) (k p l e s m args below meth c G H locs A C D L)
theorem pw_dup2 {v w : Value} (hd : Dc cc pc .dup2 1 pc') (hv : v.category = 1) (hw : w.category = 1) (k : PW own cc nL Z pc' ls (v :: w :: v :: w :: st) σ) : PW own cc nL Z pc ls (v :: w :: st) σ := by
  intro p l e s m args below meth c G H locs A C D L
  obtain ⟨hd, rfl⟩ := hd
  exact lv_dup2_11 C.1 C.2.1 hd (by rw [hs_rl_cat]; exact hv) (by rw [hs_rl_cat]; exact hw) (k p l e s m args below meth c G H locs A C D L)
theorem pw_goto {off : Int} {n : Nat} (hd : Dc cc pc (.goto off) 3 n) (ht : (pc : Int) + off = (pc' : Int)) (k : PW own cc nL Z pc' ls st σ) : PW own cc nL Z pc ls st σ := by
  intro p l e s m args below meth c G H locs A C D L
  exact lv_goto C.1 C.2.1 hd.1 ht (k p l e s m args below meth c G H locs A C D L)
theorem pw_icmp_eq {x y : Int32} {off : Int} {tgt : Nat} (hd : Dc cc pc (.if_icmp .eq off) 3 pc') (ht : (pc : Int) + off = (tgt : Int)) (kt : (x = y) → PW own cc nL Z tgt ls st σ) (kf : ¬ (x = y) → PW own cc nL Z pc' ls st σ) : PW own cc nL Z pc ls (.int y :: .int x :: st) σ := by
  intro p l e s m args below meth c G H locs A C D L
  obtain ⟨hd, rfl⟩ := hd
  exact lv_icmp_eq C.1 C.2.1 hd ht (fun h => kt h p l e s m args below meth c G H locs A C D L) (fun h => kf h p l e s m args below meth c G H locs A C D L)
theorem pw_if_eq {x : Int32} {off : Int} {tgt : Nat} (hd : Dc cc pc (.ifCond .eq off) 3 pc') (ht : (pc : Int) + off = (tgt : Int)) (kt : (x = 0) → PW own cc nL Z tgt ls st σ) (kf : ¬ (x = 0) → PW own cc nL Z pc' ls st σ) : PW own cc nL Z pc ls (.int x :: st) σ := by
  intro p l e s m args below meth c G H locs A C D L
  obtain ⟨hd, rfl⟩ := hd
  exact lv_if_eq C.1 C.2.1 hd ht (fun h => kt h p l e s m args below meth c G H locs A C D L) (fun h => kf h p l e s m args below meth c G H locs A C D L)
theorem pw_icmp_ne {x y : Int32} {off : Int} {tgt : Nat} (hd : Dc cc pc (.if_icmp .ne off) 3 pc') (ht : (pc : Int) + off = (tgt : Int)) (kt : ¬ x = y → PW own cc nL Z tgt ls st σ) (kf : x = y → PW own cc nL Z pc' ls st σ) : PW own cc nL Z pc ls (.int y :: .int x :: st) σ := by
  intro p l e s m args below meth c G H locs A C D L
  obtain ⟨hd, rfl⟩ := hd
  exact lv_icmp_ne C.1 C.2.1 hd ht (fun h => kt h p l e s m args below meth c G H locs A C D L) (fun h => kf h p l e s m args below meth c G H locs A C D L)
theorem pw_if_ne {x : Int32} {off : Int} {tgt : Nat} (hd : Dc cc pc (.ifCond .ne off) 3 pc') (ht : (pc : Int) + off = (tgt : Int)) (kt : ¬ x = 0 → PW own cc nL Z tgt ls st σ) (kf : x = 0 → PW own cc nL Z pc' ls st σ) : PW own cc nL Z pc ls (.int x :: st) σ := by
  intro p l e s m args below meth c G H locs A C D L
  obtain ⟨hd, rfl⟩ := hd
  exact lv_if_ne C.1 C.2.1 hd ht (fun h => kt h p l e s m args below meth c G H locs A C D L) (fun h => kf h p l e s m args below meth c G H locs A C D L)
theorem pw_icmp_lt {x y : Int32} {off : Int} {tgt : Nat} (hd : Dc cc pc (.if_icmp .lt off) 3 pc') (ht : (pc : Int) + off = (tgt : Int)) (kt : (x < y) → PW own cc nL Z tgt ls st σ) (kf : ¬ (x < y) → PW own cc nL Z pc' ls st σ) : PW own cc nL Z pc ls (.int y :: .int x :: st) σ := by
  intro p l e s m args below meth c G H locs A C D L
  obtain ⟨hd, rfl⟩ := hd
  exact lv_icmp_lt C.1 C.2.1 hd ht (fun h => kt h p l e s m args below meth c G H locs A C D L) (fun h => kf h p l e s m args below meth c G H locs A C D L)
theorem pw_if_lt {x : Int32} {off : Int} {tgt : Nat} (hd : Dc cc pc (.ifCond .lt off) 3 pc') (ht : (pc : Int) + off = (tgt : Int)) (kt : (x < 0) → PW own cc nL Z tgt ls st σ) (kf : ¬ (x < 0) → PW own cc nL Z pc' ls st σ) : PW own cc nL Z pc ls (.int x :: st) σ := by
  intro p l e s m args below meth c G H locs A C D L
  obtain ⟨hd, rfl⟩ := hd
  exact lv_if_lt C.1 C.2.1 hd ht (fun h => kt h p l e s m args below meth c G H locs A C D L) (fun h => kf h p l e s m args below meth c G H locs A C D L)
theorem pw_icmp_ge {x y : Int32} {off : Int} {tgt : Nat} (hd : Dc cc pc (.if_icmp .ge off) 3 pc') (ht : (pc : Int) + off = (tgt : Int)) (kt : (y ≤ x) → PW own cc nL Z tgt ls st σ) (kf : ¬ (y ≤ x) → PW own cc nL Z pc' ls st σ) : PW own cc nL Z pc ls (.int y :: .int x :: st) σ := by
  intro p l e s m args below meth c G H locs A C D L
  obtain ⟨hd, rfl⟩ := hd
  exact lv_icmp_ge C.1 C.2.1 hd ht (fun h => kt h p l e s m args below meth c G H locs A C D L) (fun h => kf h p l e s m args below meth c G H locs A C D L)
theorem pw_if_ge {x : Int32} {off : Int} {tgt : Nat} (hd : Dc cc pc (.ifCond .ge off) 3 pc') (ht : (pc : Int) + off = (tgt : Int)) (kt : (0 ≤ x) → PW own cc nL Z tgt ls st σ) (kf : ¬ (0 ≤ x) → PW own cc nL Z pc' ls st σ) : PW own cc nL Z pc ls (.int x :: st) σ := by
  intro p l e s m args below meth c G H locs A C D L
  obtain ⟨hd, rfl⟩ := hd
  exact lv_if_ge C.1 C.2.1 hd ht (fun h => kt h p l e s m args below meth c G H locs A C D L) (fun h => kf h p l e s m args below meth c G H locs A C D L)
theorem pw_icmp_gt {x y : Int32} {off : Int} {tgt : Nat} (hd : Dc cc pc (.if_icmp .gt off) 3 pc') (ht : (pc : Int) + off = (tgt : Int)) (kt : (y < x) → PW own cc nL Z tgt ls st σ) (kf : ¬ (y < x) → PW own cc nL Z pc' ls st σ) : PW own cc nL Z pc ls (.int y :: .int x :: st) σ := by
  intro p l e s m args below meth c G H locs A C D L
  obtain ⟨hd, rfl⟩ := hd
  exact lv_icmp_gt C.1 C.2.1 hd ht (fun h => kt h p l e s m args below meth c G H locs A C D L) (fun h => kf h p l e s m args below meth c G H locs A C D L)
theorem pw_if_gt {x : Int32} {off : Int} {tgt : Nat} (hd : Dc cc pc (.ifCond .gt off) 3 pc') (ht : (pc : Int) + off = (tgt : Int)) (kt : (0 < x) → PW own cc nL Z tgt ls st σ) (kf : ¬ (0 < x) → PW own cc nL Z pc' ls st σ) : PW own cc nL Z pc ls (.int x :: st) σ := by
  intro p l e s m args below meth c G H locs A C D L
  obtain ⟨hd, rfl⟩ := hd
  exact lv_if_gt C.1 C.2.1 hd ht (fun h => kt h p l e s m args below meth c G H locs A C D L) (fun h => kf h p l e s m args below meth c G H locs A C D L)
theorem pw_icmp_le {x y : Int32} {off : Int} {tgt : Nat} (hd : Dc cc pc (.if_icmp .le off) 3 pc') (ht : (pc : Int) + off = (tgt : Int)) (kt : (x ≤ y) → PW own cc nL Z tgt ls st σ) (kf : ¬ (x ≤ y) → PW own cc nL Z pc' ls st σ) : PW own cc nL Z pc ls (.int y :: .int x :: st) σ := by
  intro p l e s m args below meth c G H locs A C D L
  obtain ⟨hd, rfl⟩ := hd
  exact lv_icmp_le C.1 C.2.1 hd ht (fun h => kt h p l e s m args below meth c G H locs A C D L) (fun h => kf h p l e s m args below meth c G H locs A C D L)
theorem pw_if_le {x : Int32} {off : Int} {tgt : Nat} (hd : Dc cc pc (.ifCond .le off) 3 pc') (ht : (pc : Int) + off = (tgt : Int)) (kt : (x ≤ 0) → PW own cc nL Z tgt ls st σ) (kf : ¬ (x ≤ 0) → PW own cc nL Z pc' ls st σ) : PW own cc nL Z pc ls (.int x :: st) σ := by
  intro p l e s m args below meth c G H locs A C D L
  obtain ⟨hd, rfl⟩ := hd
  exact lv_if_le C.1 C.2.1 hd ht (fun h => kt h p l e s m args below meth c G H locs A C D L) (fun h => kf h p l e s m args below meth c G H locs A C D L)
theorem pw_istore_n {kk : Fin 4} {i : Nat} {x : Int32} {ls' : List (Option Value)} (hd : Dc cc pc (.istore_n kk) 1 pc') (hi : (kk : Nat) = i) (hn : i < nL) (h2 : hs_no2 ls i = true) (hs : ls.set i (some (.int x)) = ls') (k : PW own cc nL Z pc' ls' st σ) : PW own cc nL Z pc ls (.int x :: st) σ := by
  intro p l e s m args below meth c G H locs A C D L
  obtain ⟨hd, rfl⟩ := hd
  subst hs
  exact lv_istore_n C.1 C.2.1 hd hi (hs_lv_has.mp L) hn rfl (fun A' hA => k p l e s m args below meth c G H locs A' C D (hs_lv_st (w := .int x) h2 hA))
theorem pw_istore {i : Nat} {x : Int32} {ls' : List (Option Value)} (hd : Dc cc pc (.istore i) 2 pc') (hn : i < nL) (h2 : hs_no2 ls i = true) (hs : ls.set i (some (.int x)) = ls') (k : PW own cc nL Z pc' ls' st σ) : PW own cc nL Z pc ls (.int x :: st) σ := by
  intro p l e s m args below meth c G H locs A C D L
  obtain ⟨hd, rfl⟩ := hd
  subst hs
  exact lv_istore C.1 C.2.1 hd (hs_lv_has.mp L) hn rfl (fun A' hA => k p l e s m args below meth c G H locs A' C D (hs_lv_st (w := .int x) h2 hA))
theorem pw_astore_n {kk : Fin 4} {i : Nat} {x : Nat} {ls' : List (Option Value)} (hd : Dc cc pc (.astore_n kk) 1 pc') (hi : (kk : Nat) = i) (hn : i < nL) (h2 : hs_no2 ls i = true) (hs : ls.set i (some (.ref x)) = ls') (k : PW own cc nL Z pc' ls' st σ) : PW own cc nL Z pc ls (.ref x :: st) σ := by
  intro p l e s m args below meth c G H locs A C D L
  obtain ⟨hd, rfl⟩ := hd
  subst hs
  exact lv_astore_n C.1 C.2.1 hd hi (hs_lv_has.mp L) hn rfl (fun A' hA => k p l e s m args below meth c G H locs A' C D (hs_lv_st (w := .ref x) h2 hA))
theorem pw_lstore_n {kk : Fin 4} {i : Nat} {x : Int64} {ls' : List (Option Value)} (hd : Dc cc pc (.lstore_n kk) 1 pc') (hi : (kk : Nat) = i) (hn : i + 1 < nL) (h2 : hs_no2 ls i = true) (hs : (ls.set i (some (.long x))).set (i + 1) none = ls') (k : PW own cc nL Z pc' ls' st σ) : PW own cc nL Z pc ls (.long x :: st) σ := by
  intro p l e s m args below meth c G H locs A C D L
  obtain ⟨hd, rfl⟩ := hd
  subst hs
  exact lv_lstore_n C.1 C.2.1 hd hi (hs_lv_has.mp L) hn rfl (fun A' hA => k p l e s m args below meth c G H locs A' C D (hs_lv_stL h2 hA))
theorem pw_iinc {i : Nat} {n : Int} {x v : Int32} {ls' : List (Option Value)} (hd : Dc cc pc (.iinc i n) 3 pc') (hn : i < nL) (hl : ls[i]? = some (some (.int x))) (hv : Int32.ofInt n = v) (h2 : hs_no2 ls i = true) (hs : ls.set i (some (.int (x + v))) = ls') (k : PW own cc nL Z pc' ls' st σ) : PW own cc nL Z pc ls st σ := by
  intro p l e s m args below meth c G H locs A C D L
  obtain ⟨hd, rfl⟩ := hd
  subst hs; subst hv
  obtain ⟨j, hj⟩ := List.getElem?_of_mem ((hs_pr_mem (ad := G.2.2.1) ls 0 (i, .int x)).mpr ⟨i, .int x, hl, by simp [hs_rl]⟩)
  exact lv_iinc C.1 C.2.1 hd (hs_lv_has.mp L) hj rfl hn rfl (fun A' hA => k p l e s m args below meth c G H locs A' C D (hs_lv_st (w := .int (x + Int32.ofInt n)) h2 hA))
theorem pw_tin {dflt lo hi : Int} {offs : Array Int} {n n' : Nat} {x : Int32} {off : Int} (hd : Dc cc pc (.tableswitch dflt lo hi offs) n n') (h1 : ¬ x.toInt < lo) (h2 : ¬ hi < x.toInt) (ho : offs[(x.toInt - lo).toNat]? = some off) (ht : (pc : Int) + off = (pc' : Int)) (k : PW own cc nL Z pc' ls st σ) : PW own cc nL Z pc ls (.int x :: st) σ := by
  intro p l e s m args below meth c G H locs A C D L
  exact lv_tableIn C.1 C.2.1 hd.1 h1 h2 ho ht (k p l e s m args below meth c G H locs A C D L)
theorem pw_tout {dflt lo hi : Int} {offs : Array Int} {n n' : Nat} {x : Int32} (hd : Dc cc pc (.tableswitch dflt lo hi offs) n n') (h : x.toInt < lo ∨ hi < x.toInt) (ht : (pc : Int) + dflt = (pc' : Int)) (k : PW own cc nL Z pc' ls st σ) : PW own cc nL Z pc ls (.int x :: st) σ := by
  intro p l e s m args below meth c G H locs A C D L
  exact lv_tableOut C.1 C.2.1 hd.1 h ht (k p l e s m args below meth c G H locs A C D L)
theorem pw_look {dflt : Int} {ps : Array (Int × Int)} {n n' : Nat} {x : Int32} {off : Int} (hd : Dc cc pc (.lookupswitch dflt ps) n n') (hp : (ps.toList.zip (ps.toList.drop 1)).all (fun (a, next) => a.1 < next.1) = true) (ho : Op.lookupswitch.offset ps.toList dflt x.toInt = off) (ht : (pc : Int) + off = (pc' : Int)) (k : PW own cc nL Z pc' ls st σ) : PW own cc nL Z pc ls (.int x :: st) σ := by
  intro p l e s m args below meth c G H locs A C D L
  exact lv_lookup C.1 C.2.1 hd.1 hp ho ht (k p l e s m args below meth c G H locs A C D L)
theorem pw_iald {o n : Nat} {i : Int32} (hd : Dc cc pc .iaload 1 pc') (ho : hs_AI o n) (hin : vp_in i n) (k : PW own cc nL Z pc' ls (.int (σ.1 o i.toNatClampNeg) :: st) σ) : PW own cc nL Z pc ls (.int i :: .ref o :: st) σ := by
  intro p l e s m args below meth c G H locs A C D L
  obtain ⟨hd, rfl⟩ := hd
  exact va_iald (a := G.2.2.1 o) (ws := hs_w G σ) C.1 C.2.1 C.2.2.2.2.2.2.1 D.1 o 0 (hs_atI ho) rfl hin hd (k p l e s m args below meth c G H locs A C D L)
theorem pw_lald {o n : Nat} {i : Int32} (hd : Dc cc pc .laload 1 pc') (ho : hs_AL o n) (hin : vp_in i n) (k : PW own cc nL Z pc' ls (.long (σ.2 o i.toNatClampNeg) :: st) σ) : PW own cc nL Z pc ls (.int i :: .ref o :: st) σ := by
  intro p l e s m args below meth c G H locs A C D L
  obtain ⟨hd, rfl⟩ := hd
  exact va_lald (a := G.2.2.1 o) (ws := hs_w G σ) C.1 C.2.1 C.2.2.2.2.2.2.1 D.1 o 1 (hs_atL ho) rfl hin hd (k p l e s m args below meth c G H locs A C D L)
theorem pw_aald {o n : Nat} {i : Int32} (hd : Dc cc pc .aaload 1 pc') (ho : hs_AR o n) (hin : vp_in i n) (k : PW own cc nL Z pc' ls (.ref (13 + 5 * i.toNatClampNeg) :: st) σ) : PW own cc nL Z pc ls (.int i :: .ref o :: st) σ := by
  intro p l e s m args below meth c G H locs A C D L
  obtain ⟨hd, rfl⟩ := hd
  exact va_aldq (a := G.2.2.1 o) (ws := hs_w G σ) C.1 C.2.1 C.2.2.2.2.2.2.1 D.1 o 2 (hs_atR ho) rfl hin hd (k p l e s m args below meth c G H locs A C D L)
theorem pw_alen {o n : Nat} {v : Int32} (hd : Dc cc pc .arraylength 1 pc') (ho : hs_AI o n) (hv : Int32.ofNat n = v) (k : PW own cc nL Z pc' ls (.int v :: st) σ) : PW own cc nL Z pc ls (.ref o :: st) σ := by
  intro p l e s m args below meth c G H locs A C D L
  obtain ⟨hd, rfl⟩ := hd
  exact va_alen (a := G.2.2.1 o) (ws := hs_w G σ) C.1 C.2.1 C.2.2.2.2.2.2.1 D.1 o 0 (hs_atI ho) rfl hv hd (k p l e s m args below meth c G H locs A C D L)
theorem pw_iast {o n : Nat} {i x : Int32} (hd : Dc cc pc .iastore 1 pc') (ho : hs_AI o n) (hin : vp_in i n) (k : PW own cc nL Z pc' ls st (sI σ o i.toNatClampNeg x)) : PW own cc nL Z pc ls (.int x :: .int i :: .ref o :: st) σ := by
  intro p l e s m args below meth c G H locs A C D L
  obtain ⟨hd, rfl⟩ := hd
  refine va_iast (a := G.2.2.1 o) (ws := hs_w G σ) C.1 C.2.1 C.2.2.2.2.2.2.1 D.1 (hs_dis C.2.2.2.2.2.2.2.1 C.2.2.2.2.2.2.2.2.1) D.2 o 0 (hs_atI ho) rfl hin hd (fun H1 locs1 hP hD hS => ?_)
  rw [hs_setI ho] at hP
  exact k p l e s m args below meth c G H1 locs1 A C ⟨hP, hS⟩ L
theorem pw_last {o n : Nat} {i : Int32} {x : Int64} (hd : Dc cc pc .lastore 1 pc') (ho : hs_AL o n) (hin : vp_in i n) (k : PW own cc nL Z pc' ls st (sL σ o i.toNatClampNeg x)) : PW own cc nL Z pc ls (.long x :: .int i :: .ref o :: st) σ := by
  intro p l e s m args below meth c G H locs A C D L
  obtain ⟨hd, rfl⟩ := hd
  refine va_last (a := G.2.2.1 o) (ws := hs_w G σ) C.1 C.2.1 C.2.2.2.2.2.2.1 D.1 (hs_dis C.2.2.2.2.2.2.2.1 C.2.2.2.2.2.2.2.2.1) D.2 o 1 (hs_atL ho) rfl hin hd (fun H1 locs1 hP hD hS => ?_)
  rw [hs_setL ho] at hP
  exact k p l e s m args below meth c G H1 locs1 A C ⟨hP, hS⟩ L
end PWr
def hs_FL (own : String) (ix ci k : Nat) : Prop := ∃ (C : String) (T : u_T) (N : Nat) (ty0 : Nat → FieldType), vwCl[ci]? = some (C, T, N) ∧ k < N ∧ Cond.fieldLink own ix (T k).1 (T k).2.1 (T k).2.2.1 ∈ hs_tbl ∧ (∀ w ∈ u_ws C T N, w ∈ hs_tbl) ∧ (∀ k, k < N → parseFieldDescriptor (T k).2.2.1 = some (ty0 k)) ∧ (∀ a, a < N → ∀ b, b < N → a ≠ b → (T a).2.1 ≠ (T b).2.1)
def hs_FW (own : String) (ix ci k : Nat) (ty : FieldType) : Prop := ∃ (C : String) (T : u_T) (N : Nat) (ty0 : Nat → FieldType), vwCl[ci]? = some (C, T, N) ∧ k < N ∧ Cond.fieldLink own ix (T k).1 (T k).2.1 (T k).2.2.1 ∈ hs_tbl ∧ (∀ w ∈ u_ws C T N, w ∈ hs_tbl) ∧ (∀ k, k < N → parseFieldDescriptor (T k).2.2.1 = some (ty0 k)) ∧ (∀ a, a < N → ∀ b, b < N → a ≠ b → (T a).2.1 ≠ (T b).2.1) ∧ (T k).2.2.2 = false ∧ parseFieldDescriptor (T k).2.2.1 = some ty
section PWf
variable {own : String} {cc : ByteArray} {nL : Nat} {Z : HZ} {pc pc' : Nat} {ls : List (Option Value)} {st : List Value} {σ : HS}
theorem pw_getI {ix ci kf o : Nat} {tg : List Nat} (hd : Dc cc pc (.getfield ix) 3 pc') (hf : hs_FL own ix ci kf) (ho : hs_OB o ci tg) (ht : tg[kf]? = some 0) (k : PW own cc nL Z pc' ls (.int (σ.1 o kf) :: st) σ) : PW own cc nL Z pc ls (.ref o :: st) σ := by
  intro p l e s m args below meth c G H locs A C D L
  obtain ⟨hd, rfl⟩ := hd
  obtain ⟨CC, T, N, ty0, h1, h2, h3, h4, h5, h6⟩ := hf
  refine va_get (a := G.2.2.1 o) (ws := hs_w G σ) (fs := tg.mapIdx (fun k t => hs_fv G σ o k t)) C.1 C.2.1 C.2.2.2.2.1 h4 C.2.2.2.1 C.2.2.2.2.2.2.1 D.1 o (hs_atO ho) h1 kf h2 (C.2.2.2.2.1 _ h3) (fun _ h => h) (v := hs_rl G.2.2.1 (.int (σ.1 o kf))) ?_ hd (k p l e s m args below meth c G H locs A C D L)
  rw [List.getElem?_mapIdx, ht]
  rfl
theorem pw_getL {ix ci kf o : Nat} {tg : List Nat} (hd : Dc cc pc (.getfield ix) 3 pc') (hf : hs_FL own ix ci kf) (ho : hs_OB o ci tg) (ht : tg[kf]? = some 1) (k : PW own cc nL Z pc' ls (.long (σ.2 o kf) :: st) σ) : PW own cc nL Z pc ls (.ref o :: st) σ := by
  intro p l e s m args below meth c G H locs A C D L
  obtain ⟨hd, rfl⟩ := hd
  obtain ⟨CC, T, N, ty0, h1, h2, h3, h4, h5, h6⟩ := hf
  refine va_get (a := G.2.2.1 o) (ws := hs_w G σ) (fs := tg.mapIdx (fun k t => hs_fv G σ o k t)) C.1 C.2.1 C.2.2.2.2.1 h4 C.2.2.2.1 C.2.2.2.2.2.2.1 D.1 o (hs_atO ho) h1 kf h2 (C.2.2.2.2.1 _ h3) (fun _ h => h) (v := hs_rl G.2.2.1 (.long (σ.2 o kf))) ?_ hd (k p l e s m args below meth c G H locs A C D L)
  rw [List.getElem?_mapIdx, ht]
  rfl
theorem pw_getR {ix ci kf o r : Nat} {tg : List Nat} (hd : Dc cc pc (.getfield ix) 3 pc') (hf : hs_FL own ix ci kf) (ho : hs_OB o ci tg) (ht : tg[kf]? = some (r + 2)) (k : PW own cc nL Z pc' ls (.ref r :: st) σ) : PW own cc nL Z pc ls (.ref o :: st) σ := by
  intro p l e s m args below meth c G H locs A C D L
  obtain ⟨hd, rfl⟩ := hd
  obtain ⟨CC, T, N, ty0, h1, h2, h3, h4, h5, h6⟩ := hf
  refine va_get (a := G.2.2.1 o) (ws := hs_w G σ) (fs := tg.mapIdx (fun k t => hs_fv G σ o k t)) C.1 C.2.1 C.2.2.2.2.1 h4 C.2.2.2.1 C.2.2.2.2.2.2.1 D.1 o (hs_atO ho) h1 kf h2 (C.2.2.2.2.1 _ h3) (fun _ h => h) (v := hs_rl G.2.2.1 (.ref r)) ?_ hd (k p l e s m args below meth c G H locs A C D L)
  rw [List.getElem?_mapIdx, ht]
  rfl
theorem pw_putI {ix ci kf o : Nat} {tg : List Nat} {x : Int32} (hd : Dc cc pc (.putfield ix) 3 pc') (hf : hs_FW own ix ci kf .int) (ho : hs_OB o ci tg) (ht : tg[kf]? = some 0) (k : PW own cc nL Z pc' ls st (sI σ o kf x)) : PW own cc nL Z pc ls (.int x :: .ref o :: st) σ := by
  intro p l e s m args below meth c G H locs A C D L
  obtain ⟨hd, rfl⟩ := hd
  obtain ⟨CC, T, N, ty0, h1, h2, h3, h4, h5, h6, h7, h8⟩ := hf
  refine va_put (a := G.2.2.1 o) (ws := hs_w G σ) (fs := tg.mapIdx (fun k t => hs_fv G σ o k t)) (v := .int x) C.1 C.2.1 C.2.2.2.2.1 h4 ty0 h5 h6 C.2.2.2.1 C.2.2.2.2.2.2.1 D.1 (hs_dis C.2.2.2.2.2.2.2.1 C.2.2.2.2.2.2.2.2.1) D.2 o (hs_atO ho) h1 kf h2 (C.2.2.2.2.1 _ h3) (fun _ h => h) h7 h8 rfl rfl ?_ hd (fun H1 locs1 hP hD hS => ?_)
  · simpa using (List.getElem?_eq_some_iff.mp ht).1
  · rw [hs_setF ho ht] at hP
    exact k p l e s m args below meth c G H1 locs1 A C ⟨hP, hS⟩ L
theorem pw_putZ {ix ci kf o : Nat} {tg : List Nat} {x : Int32} (hd : Dc cc pc (.putfield ix) 3 pc') (hf : hs_FW own ix ci kf .boolean) (ho : hs_OB o ci tg) (ht : tg[kf]? = some 0) (hx : narrow .boolean (.int x) = .int x) (hy : fits .boolean (.int x) = true) (k : PW own cc nL Z pc' ls st (sI σ o kf x)) : PW own cc nL Z pc ls (.int x :: .ref o :: st) σ := by
  intro p l e s m args below meth c G H locs A C D L
  obtain ⟨hd, rfl⟩ := hd
  obtain ⟨CC, T, N, ty0, h1, h2, h3, h4, h5, h6, h7, h8⟩ := hf
  refine va_put (a := G.2.2.1 o) (ws := hs_w G σ) (fs := tg.mapIdx (fun k t => hs_fv G σ o k t)) (v := .int x) C.1 C.2.1 C.2.2.2.2.1 h4 ty0 h5 h6 C.2.2.2.1 C.2.2.2.2.2.2.1 D.1 (hs_dis C.2.2.2.2.2.2.2.1 C.2.2.2.2.2.2.2.2.1) D.2 o (hs_atO ho) h1 kf h2 (C.2.2.2.2.1 _ h3) (fun _ h => h) h7 h8 hx hy ?_ hd (fun H1 locs1 hP hD hS => ?_)
  · simpa using (List.getElem?_eq_some_iff.mp ht).1
  · rw [hs_setF ho ht] at hP
    exact k p l e s m args below meth c G H1 locs1 A C ⟨hP, hS⟩ L
theorem pw_putJ {ix ci kf o : Nat} {tg : List Nat} {x : Int64} (hd : Dc cc pc (.putfield ix) 3 pc') (hf : hs_FW own ix ci kf .long) (ho : hs_OB o ci tg) (ht : tg[kf]? = some 1) (k : PW own cc nL Z pc' ls st (sL σ o kf x)) : PW own cc nL Z pc ls (.long x :: .ref o :: st) σ := by
  intro p l e s m args below meth c G H locs A C D L
  obtain ⟨hd, rfl⟩ := hd
  obtain ⟨CC, T, N, ty0, h1, h2, h3, h4, h5, h6, h7, h8⟩ := hf
  refine va_put (a := G.2.2.1 o) (ws := hs_w G σ) (fs := tg.mapIdx (fun k t => hs_fv G σ o k t)) (v := .long x) C.1 C.2.1 C.2.2.2.2.1 h4 ty0 h5 h6 C.2.2.2.1 C.2.2.2.2.2.2.1 D.1 (hs_dis C.2.2.2.2.2.2.2.1 C.2.2.2.2.2.2.2.2.1) D.2 o (hs_atO ho) h1 kf h2 (C.2.2.2.2.1 _ h3) (fun _ h => h) h7 h8 rfl rfl ?_ hd (fun H1 locs1 hP hD hS => ?_)
  · simpa using (List.getElem?_eq_some_iff.mp ht).1
  · rw [hs_setFL ho ht] at hP
    exact k p l e s m args below meth c G H1 locs1 A C ⟨hP, hS⟩ L
end PWf
-- returns, calls, contracts
section PWc
variable {own : String} {cc : ByteArray} {nL : Nat} {Z : HZ} {pc pc' : Nat} {ls : List (Option Value)} {st : List Value} {σ : HS}
theorem pw_iret {d : Nat} {x : Int32} (hd : Dc cc pc .ireturn 1 pc') : PW own cc nL (hs_zM d (some .int) (some (.int x), σ)) pc ls [.int x] σ := by
  intro p l e s m args below meth c G H locs A C D L
  obtain ⟨hx, hb, hml, hown, hts, hne, hK, hj, hA, hr, hlocks⟩ := C
  exact W.iret (v := x) hx hb hr (fun t ht hW => ⟨rfl, ⟨by rw [ht]; exact D.1, va_K.moved hW.alike hK, hne.warm hW⟩, D.2.F ht⟩) D.2.2.2 hd.1 hlocks
theorem pw_zret {d : Nat} {x : Int32} (hd : Dc cc pc .ireturn 1 pc') (hn : narrow .boolean (.int x) = .int x) : PW own cc nL (hs_zM d (some .boolean) (some (.int x), σ)) pc ls [.int x] σ := by
  intro p l e s m args below meth c G H locs A C D L
  obtain ⟨hx, hb, hml, hown, hts, hne, hK, hj, hA, hr, hlocks⟩ := C
  exact W.zret (v := x) hx hb hr hn (fun t ht hW => ⟨rfl, ⟨by rw [ht]; exact D.1, va_K.moved hW.alike hK, hne.warm hW⟩, D.2.F ht⟩) D.2.2.2 hd.1 hlocks
theorem pw_lret {d : Nat} {x : Int64} (hd : Dc cc pc .lreturn 1 pc') : PW own cc nL (hs_zM d (some .long) (some (.long x), σ)) pc ls [.long x] σ := by
  intro p l e s m args below meth c G H locs A C D L
  obtain ⟨hx, hb, hml, hown, hts, hne, hK, hj, hA, hr, hlocks⟩ := C
  exact W.lret (v := x) hx hb hr (fun t ht hW => ⟨rfl, ⟨by rw [ht]; exact D.1, va_K.moved hW.alike hK, hne.warm hW⟩, D.2.F ht⟩) D.2.2.2 hd.1 hlocks
theorem pw_vret {d : Nat} (hd : Dc cc pc .return_ 1 pc') : PW own cc nL (hs_zM d none (none, σ)) pc ls [] σ := by
  intro p l e s m args below meth c G H locs A C D L
  obtain ⟨hx, hb, hml, hown, hts, hne, hK, hj, hA, hr, hlocks⟩ := C
  exact W.vret hx hb hr (fun t ht hW => ⟨rfl, ⟨by rw [ht]; exact D.1, va_K.moved hW.alike hK, hne.warm hW⟩, D.2.F ht⟩) D.2.2.2 hd.1 hlocks
end PWc
theorem hs_args_lv (ad : Nat → Nat) : ∀ (av : List Value) (b : Nat), (∀ v ∈ av, v.category = 1) → ∀ (i : Nat) (v : Value), av[i]? = some v → (b + i, hs_rl ad v) ∈ lv_args b (av.map (hs_rl ad)) := by
  intro av
  induction av with
  | nil => intro b _ i v h; simp at h
  | cons a r ih =>
    intro b hc i v h
    have ha : (hs_rl ad a).category = 1 := by rw [hs_rl_cat]; exact hc a List.mem_cons_self
    rw [List.map_cons, lv_args, if_neg (by omega)]
    cases i with
    | zero => simp at h; rw [h]; exact List.mem_cons_self
    | succ i =>
      have := ih (b + 1) (fun v hv => hc v (List.mem_cons_of_mem _ hv)) i v (by simpa using h)
      rw [show b + (i + 1) = b + 1 + i by omega]
      exact List.mem_cons_of_mem _ this
theorem hs_sl_len (ad : Nat → Nat) : ∀ (av : List Value), (∀ v ∈ av, v.category = 1) → (lg_sl (av.map (hs_rl ad))).length = av.length := by
  intro av
  induction av with
  | nil => intro _; rfl
  | cons a r ih =>
    intro hc
    have ha : (hs_rl ad a).category = 1 := by rw [hs_rl_cat]; exact hc a List.mem_cons_self
    have := ih (fun v hv => hc v (List.mem_cons_of_mem _ hv))
    simp [lg_sl, ha] at this ⊢
    omega
/-- a method's contract out of a walk from its entry -/
theorem hs_spec {d : Nat} {y : MethodName} {cc : ByteArray} {nL : Nat} {ret : Option FieldType} {av : List Value} {σ : HS} {rs : Option Value × HS} (hy : plainName y.cls = true) (hc : ∀ v ∈ av, v.category = 1) (hn : av.length ≤ nL)
    (h : PW y.cls cc nL (hs_zM d ret rs) 0 (av.map some ++ List.replicate (nL - av.length) none) [] σ) : hs_Spec d y cc nL ret av σ rs := by
  intro l G
  refine Met.ofW (cc := cc) (maxL := nL) (ret := ret) hy rfl ?_
  intro p e s m args below meth c s₁ B hml hv
  obtain ⟨rfl, ⟨hP, hK, hN⟩, hj⟩ := hv
  have hts := atoms_spec (ws := hs_ws y cc nL ret) B.pre
  have hl := lv_entry (av.map (hs_rl G.2.2.1)) (n := nL) (by rw [hs_sl_len _ _ hc]; exact hn)
  rw [lg_entry_eq]
  refine h p l e s m _ below meth c G s.heap [] _ ⟨B.exec, B.bytes, hml, findClass_of_methodNamed B.named, fun w hw => hts w (List.mem_cons_of_mem _ hw), hN, hK, hj, fun i hi => ⟨i, hi, rfl⟩, B.returns, B.notSynchronized⟩ ⟨hP, va_S.rf⟩ ⟨hl.1, hl.2.1, fun i v hi => ?_⟩
  have hi' : av[i]? = some v := by
    rw [List.getElem?_append] at hi
    split at hi
    · simpa [List.getElem?_map] using hi
    · simp [List.getElem?_replicate] at hi
  have := hl.2.2 _ (hs_args_lv G.2.2.1 av 0 hc i v hi')
  simpa using this
theorem hs_good : ∀ w ∈ hs_tbl, goodWord w = true := fun w hw => (List.mem_filter.mp hw).2
theorem hs_GoodIn {y : MethodName} {cc : ByteArray} {nL : Nat} {ret : Option FieldType} (h : Cond.code y cc nL ret ∈ hs_tbl) : GoodIn hs_tbl (hs_ws y cc nL ret) := by
  intro w hw
  rcases List.mem_cons.mp hw with e | hw
  · subst e
    exact ⟨h, good_of_word (hs_good _ h)⟩
  · exact ⟨hw, good_of_word (hs_good _ hw)⟩
/-- the words of a call: the code, what the call links -/
def hs_MB (own : String) (ix : Nat) (y : MethodName) (cc : ByteArray) (nL : Nat) (ret : Option FieldType) (n : Nat) : Prop :=
  Cond.code y cc nL ret ∈ hs_tbl ∧ Cond.initialized y.cls ∈ hs_tbl ∧ Cond.methodLink own ix y ∈ hs_tbl ∧ (y.cls ≠ "java/lang/invoke/MethodHandle" ∧ y.cls ≠ "java/lang/invoke/VarHandle" ∧ (parseMethodDescriptor y.desc).map (fun d => d.parameters.length) = some n) ∧ nL ≤ 45
def hs_MV (own : String) (ix : Nat) (y : MethodName) (cc : ByteArray) (nL : Nat) (ret : Option FieldType) (n ci : Nat) : Prop :=
  hs_MB own ix y cc nL ret n ∧ Cond.instanceMethod y ∈ hs_tbl ∧ Cond.selects y.cls y y ∈ hs_tbl ∧ ∃ q : vw_C, vwCl[ci]? = some q ∧ q.1 = y.cls
def hs_MS (own : String) (ix : Nat) (y : MethodName) (cc : ByteArray) (nL : Nat) (ret : Option FieldType) (n : Nat) : Prop :=
  hs_MB own ix y cc nL ret n ∧ Cond.static y ∈ hs_tbl
def hs_MN (own : String) (ix : Nat) (y : MethodName) (host : String) (cc : ByteArray) (nL : Nat) (ret : Option FieldType) (n : Nat) : Prop :=
  Cond.code y cc nL ret ∈ hs_tbl ∧ Cond.initialized y.cls ∈ hs_tbl ∧ (own, ix, y, host) ∈ hs_nest ∧ (y.cls ≠ "java/lang/invoke/MethodHandle" ∧ y.cls ≠ "java/lang/invoke/VarHandle" ∧ (parseMethodDescriptor y.desc).map (fun d => d.parameters.length) = some n) ∧ nL ≤ 45 ∧ Cond.static y ∈ hs_tbl
theorem hs_blind (G : HG) (av : List Value) (σ : HS) : FrameBlind (hs_Pc G av σ) := by
  intro a U g mk ⟨h1, ⟨hP, hK, hN⟩, hj⟩
  exact ⟨h1, ⟨hP, va_K.moved (u := U) (U := U.calling g mk a) (Vm.Alike.refl U.vm) hK, hN.same (U := U.calling g mk a) rfl⟩, hj⟩
section PWd
variable {own : String} {cc : ByteArray} {nL : Nat} {Z : HZ} {pc pc' : Nat} {ls : List (Option Value)} {st : List Value} {σ : HS}
/-- behind a call -/
theorem hs_after {p : Program} {l : Launch} {e : Env} {s : State} {m : MethodId} {args : Array Value} {below : List Frame} {meth : Method} {c : Code} {G : HG} {H : Heap} {locs : List Loc} {A : Array Slot} {v : Option Value} {σ' : HS} {st0 rest : List Value} {a : Array Value}
    (C : hs_C own cc nL Z p s m args meth c G) (D : hs_H Z s G σ H locs) (L : hs_lv G.2.2.1 A nL ls) (hv : ∀ w, v = some w → hs_rl G.2.2.1 w = w)
    (hr : va_Run p l e Z.1 s m args below meth c H locs Z.2.1 Z.2.2.1 0 0 (F0 m pc A st0) (rest.map (hs_rl G.2.2.1)) (hs_Qc G (v, σ') a) (hs_A G))
    (k : PW own cc nL Z (pc + 3) ls (v.toList ++ rest) σ') : W p l e Z.1 s m args below meth c H locs Z.2.1 Z.2.2.1 (Z.2.2.2.2.2 G s args below) (F0 m pc A st0) := by
  intro T hT X
  obtain ⟨v', st₀, t, T', LL, h0, X', hL, e1, e2, ⟨hv', ⟨hP, hK, hN⟩, hz, hk⟩, go⟩ := hr T hT X
  obtain rfl : v' = v := by cases hv'; rfl
  rw [h0] at hz hk
  have hA := C.2.2.2.2.2.2.2.2.1
  have hS : va_S (Z.2.2.2.2.1 G s) s.heap T'.heap (locs ++ LL) := ⟨Nat.le_trans D.2.1 (by rw [e1]; exact hz), fun q h1 h2 => by
      rw [e1, hk q (Nat.lt_of_lt_of_le h1 D.2.1) (fun z => h2 (by obtain ⟨i, hi, rfl⟩ := z; exact hA i hi))]; exact D.2.2.1 q h1 h2, fun q hq => by
      rcases List.mem_append.mp hq with h | h
      · exact D.2.2.2 q h
      · obtain ⟨i, hi, e⟩ := hL q h
        rw [e]; exact hA i hi⟩
  obtain ⟨t2, a1, b1⟩ := k p l e s m args below meth c G T'.heap (locs ++ LL) A C ⟨by rw [e1]; exact hP, hS⟩ L T' rfl X'
  refine ⟨t2, go t2 ?_, b1⟩
  have : (v'.toList ++ rest).map (hs_rl G.2.2.1) = v'.toList ++ rest.map (hs_rl G.2.2.1) := by
    cases v' with
    | none => rfl
    | some w => simp [hv w rfl]
  rw [this] at a1
  exact a1
def hs_isV (v : Option Value) : Prop := ∀ (ad : Nat → Nat) (w : Value), v = some w → hs_rl ad w = w
theorem hs_isV_none : hs_isV none := fun _ _ h => by cases h
theorem hs_isV_int {x : Int32} : hs_isV (some (.int x)) := fun _ _ h => by cases h; rfl
theorem hs_isV_long {x : Int64} : hs_isV (some (.long x)) := fun _ _ h => by cases h; rfl
theorem hs_sum {ad : Nat → Nat} {rest : List Value} : ((rest.map (hs_rl ad)).map fun v => v.category).sum = (rest.map fun v => v.category).sum := by
  rw [List.map_map]; congr 1; apply List.map_congr_left; intro v _; exact hs_rl_cat ad v
theorem pw_callV {d ix ci nL' o n : Nat} {y : MethodName} {cc' : ByteArray} {ret : Option FieldType} {tg : List Nat} {As rest : List Value} {v : Option Value} {σ' : HS} (hd : Dc cc pc (.invokevirtual ix) 3 pc') (hR : d + 1 ≤ Z.1.frames ∧ 64 * d + 64 ≤ Z.1.locals ∧ Z.2.1 ≤ Z.1.cells ∧ Z.2.2.1 ≤ Z.1.slots) (hm : hs_MV own ix y cc' nL' ret n ci) (ho : hs_OB o ci tg) (hn : As.length = n) (hs : hs_Spec d y cc' nL' ret (.ref o :: As) σ (v, σ')) (hv : hs_isV v) (hw : (rest.map fun v => v.category).sum ≤ 8)
    (k : PW own cc nL Z pc' ls (v.toList ++ rest) σ') : PW own cc nL Z pc ls (As.reverse ++ .ref o :: rest) σ := by
  intro p l e s m args below meth c G H locs A C D L
  obtain ⟨hd, rfl⟩ := hd
  obtain ⟨⟨w1, w2, w3, w4, w5⟩, w6, w7, q, w8, w9⟩ := hm
  have hts := C.2.2.2.2.1
  have cb : CallB Z.1 s args own ix y cc' nL' ret (hs_ws y cc' nL' ret) (hs_rm d) 0 0 n := callB_of n hts (hs_GoodIn w1) rfl rfl rfl (hts _ w2) (hts _ w3) w4 ⟨hR.1, by have := hR.2.1; simp only [hs_rm]; omega⟩
  refine hs_after (a := (Value.ref (G.2.2.1 o) :: As.map (hs_rl G.2.2.1)).toArray) (rest := rest) C D L (hv _) (va_runV (C := y.cls) (b := G.2.2.1 o) (As := As.map (hs_rl G.2.2.1)) ⟨C.1, C.2.1, C.2.2.1, C.2.2.2.1, hts⟩ (hs l G) ⟨cb, hts _ w6, hts _ w7⟩ ⟨hs_blind G _ σ, ?_, fun U hU hW => ⟨rfl, ⟨by rw [hU]; exact D.1, va_K.moved hW.alike C.2.2.2.2.2.2.1, C.2.2.2.2.2.1.warm hW⟩, C.2.2.2.2.2.2.2.1⟩⟩ rfl (by simpa using hn) L.1 (by simp [hs_rl]) (lv_room (by rw [hs_sum]; exact hw)) hd hR.2.2) k
  have := va_recv C.2.2.2.2.2.2.1 D.1 w8 (hs_atO ho)
  rw [w9] at this
  exact this
theorem pw_callS {d ix nL' n : Nat} {y : MethodName} {cc' : ByteArray} {ret : Option FieldType} {As rest : List Value} {v : Option Value} {σ' : HS} (hd : Dc cc pc (.invokestatic ix) 3 pc') (hR : d + 1 ≤ Z.1.frames ∧ 64 * d + 64 ≤ Z.1.locals ∧ Z.2.1 ≤ Z.1.cells ∧ Z.2.2.1 ≤ Z.1.slots) (hm : hs_MS own ix y cc' nL' ret n) (hn : As.length = n) (hs : hs_Spec d y cc' nL' ret As σ (v, σ')) (hv : hs_isV v) (hw : (rest.map fun v => v.category).sum ≤ 8)
    (k : PW own cc nL Z pc' ls (v.toList ++ rest) σ') : PW own cc nL Z pc ls (As.reverse ++ rest) σ := by
  intro p l e s m args below meth c G H locs A C D L
  obtain ⟨hd, rfl⟩ := hd
  obtain ⟨⟨w1, w2, w3, w4, w5⟩, w6⟩ := hm
  have hts := C.2.2.2.2.1
  have cb : CallB Z.1 s args own ix y cc' nL' ret (hs_ws y cc' nL' ret) (hs_rm d) 0 0 n := callB_of n hts (hs_GoodIn w1) rfl rfl rfl (hts _ w2) (hts _ w3) w4 ⟨hR.1, by have := hR.2.1; simp only [hs_rm]; omega⟩
  exact hs_after (a := (As.map (hs_rl G.2.2.1)).toArray) (rest := rest) C D L (hv _) (va_runS (As := As.map (hs_rl G.2.2.1)) ⟨C.1, C.2.1, C.2.2.1, C.2.2.2.1, hts⟩ (hs l G) ⟨cb, hts _ w6⟩ ⟨hs_blind G _ σ, fun U hU hW => ⟨rfl, ⟨by rw [hU]; exact D.1, va_K.moved hW.alike C.2.2.2.2.2.2.1, C.2.2.2.2.2.1.warm hW⟩, C.2.2.2.2.2.2.2.1⟩⟩ rfl (by simpa using hn) L.1 (by simp) (lv_room (by rw [hs_sum]; exact hw)) hd hR.2.2) k
theorem pw_callN {d ix nL' n : Nat} {y : MethodName} {host : String} {cc' : ByteArray} {ret : Option FieldType} {As rest : List Value} {v : Option Value} {σ' : HS} (hd : Dc cc pc (.invokestatic ix) 3 pc') (hR : d + 1 ≤ Z.1.frames ∧ 64 * d + 64 ≤ Z.1.locals ∧ Z.2.1 ≤ Z.1.cells ∧ Z.2.2.1 ≤ Z.1.slots) (hm : hs_MN own ix y host cc' nL' ret n) (hn : As.length = n) (hs : hs_Spec d y cc' nL' ret As σ (v, σ')) (hv : hs_isV v) (hw : (rest.map fun v => v.category).sum ≤ 8)
    (k : PW own cc nL Z pc' ls (v.toList ++ rest) σ') : PW own cc nL Z pc ls (As.reverse ++ rest) σ := by
  intro p l e s m args below meth c G H locs A C D L
  obtain ⟨hd, rfl⟩ := hd
  obtain ⟨w1, w2, w3, w4, w5, w6⟩ := hm
  have hts := C.2.2.2.2.1
  have cb : va_CN Z.1 s args own ix y host cc' nL' ret (hs_ws y cc' nL' ret) (hs_rm d) 0 0 n := va_cnB n hts (hs_GoodIn w1) rfl rfl rfl (C.2.2.2.2.2.1 _ w3) (hts _ w2) w4 ⟨hR.1, by have := hR.2.1; simp only [hs_rm]; omega⟩
  exact hs_after (a := (As.map (hs_rl G.2.2.1)).toArray) (rest := rest) C D L (hv _) (va_runSN (As := As.map (hs_rl G.2.2.1)) ⟨C.1, C.2.1, C.2.2.1, C.2.2.2.1, hts⟩ (hs l G) ⟨cb, hts _ w6, trivial⟩ ⟨hs_blind G _ σ, fun U hU hW => ⟨rfl, ⟨by rw [hU]; exact D.1, va_K.moved hW.alike C.2.2.2.2.2.2.1, C.2.2.2.2.2.1.warm hW⟩, C.2.2.2.2.2.2.2.1⟩⟩ rfl (by simpa using hn) L.1 (by simp) (lv_room (by rw [hs_sum]; exact hw)) hd hR.2.2) k
end PWd
end
