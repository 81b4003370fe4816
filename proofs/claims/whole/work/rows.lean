section
-- ===== PART A: goes FIRST, ahead of the names: the tables' words, and 'selects' of the private methods out of them =====
/-- a private method of a class that the tables say can be made, by its rows of tables_1 -/
def lw_okq (q : MethodName × Nat) : Prop := (q.1.cls ≠ "java/lang/invoke/MethodHandle" ∧ q.1.cls ≠ "java/lang/invoke/VarHandle") ∧ Cond.instantiable q.1.cls q.2 ∈ tables_1 ∧ Cond.privateMethod q.1 ∈ tables_1 ∧ Cond.instanceMethod q.1 ∈ tables_1
theorem lw_p0 : lw_okq (⟨"SeesawPark$Told", "readToken", "()V"⟩, 7) := ⟨⟨by decide +kernel, by decide +kernel⟩, List.mem_of_getElem? (i := 124) (by decide +kernel), List.mem_of_getElem? (i := 352) (by decide +kernel), List.mem_of_getElem? (i := 353) (by decide +kernel)⟩
theorem lw_p1 : lw_okq (⟨"SeesawPark$Told", "readWord", "()V"⟩, 7) := ⟨⟨by decide +kernel, by decide +kernel⟩, List.mem_of_getElem? (i := 124) (by decide +kernel), List.mem_of_getElem? (i := 359) (by decide +kernel), List.mem_of_getElem? (i := 360) (by decide +kernel)⟩
theorem lw_p2 : lw_okq (⟨"SeesawPark$Told", "spells", "(Ljava/lang/String;)Z"⟩, 7) := ⟨⟨by decide +kernel, by decide +kernel⟩, List.mem_of_getElem? (i := 124) (by decide +kernel), List.mem_of_getElem? (i := 364) (by decide +kernel), List.mem_of_getElem? (i := 365) (by decide +kernel)⟩
theorem lw_p3 : lw_okq (⟨"SeesawPark$Told", "readDigits", "()V"⟩, 7) := ⟨⟨by decide +kernel, by decide +kernel⟩, List.mem_of_getElem? (i := 124) (by decide +kernel), List.mem_of_getElem? (i := 421) (by decide +kernel), List.mem_of_getElem? (i := 422) (by decide +kernel)⟩
theorem lw_p4 : lw_okq (⟨"SeesawPark$Told", "readPlank", "()Z"⟩, 7) := ⟨⟨by decide +kernel, by decide +kernel⟩, List.mem_of_getElem? (i := 124) (by decide +kernel), List.mem_of_getElem? (i := 428) (by decide +kernel), List.mem_of_getElem? (i := 429) (by decide +kernel)⟩
theorem lw_p5 : lw_okq (⟨"SeesawPark$Told", "readNumber", "(II)Z"⟩, 7) := ⟨⟨by decide +kernel, by decide +kernel⟩, List.mem_of_getElem? (i := 124) (by decide +kernel), List.mem_of_getElem? (i := 432) (by decide +kernel), List.mem_of_getElem? (i := 433) (by decide +kernel)⟩
theorem lw_p6 : lw_okq (⟨"SeesawPark$Told", "readSemicolon", "()Z"⟩, 7) := ⟨⟨by decide +kernel, by decide +kernel⟩, List.mem_of_getElem? (i := 124) (by decide +kernel), List.mem_of_getElem? (i := 436) (by decide +kernel), List.mem_of_getElem? (i := 437) (by decide +kernel)⟩
theorem lw_p7 : lw_okq (⟨"SeesawPark$Told", "readChild", "()Z"⟩, 7) := ⟨⟨by decide +kernel, by decide +kernel⟩, List.mem_of_getElem? (i := 124) (by decide +kernel), List.mem_of_getElem? (i := 440) (by decide +kernel), List.mem_of_getElem? (i := 441) (by decide +kernel)⟩
theorem lw_p8 : lw_okq (⟨"SeesawPark$Told", "readStone", "()Z"⟩, 7) := ⟨⟨by decide +kernel, by decide +kernel⟩, List.mem_of_getElem? (i := 124) (by decide +kernel), List.mem_of_getElem? (i := 444) (by decide +kernel), List.mem_of_getElem? (i := 445) (by decide +kernel)⟩
theorem lw_p9 : lw_okq (⟨"SeesawPark$Scene", "settle", "(II)I"⟩, 7) := ⟨⟨by decide +kernel, by decide +kernel⟩, List.mem_of_getElem? (i := 91) (by decide +kernel), List.mem_of_getElem? (i := 529) (by decide +kernel), List.mem_of_getElem? (i := 530) (by decide +kernel)⟩
theorem lw_p10 : lw_okq (⟨"SeesawPark", "askWays", "(II)V"⟩, 11) := ⟨⟨by decide +kernel, by decide +kernel⟩, List.mem_of_getElem? (i := 20) (by decide +kernel), List.mem_of_getElem? (i := 572) (by decide +kernel), List.mem_of_getElem? (i := 573) (by decide +kernel)⟩
theorem lw_p11 : lw_okq (⟨"SeesawPark$Seating", "measureReach", "()V"⟩, 10) := ⟨⟨by decide +kernel, by decide +kernel⟩, List.mem_of_getElem? (i := 157) (by decide +kernel), List.mem_of_getElem? (i := 596) (by decide +kernel), List.mem_of_getElem? (i := 597) (by decide +kernel)⟩
theorem lw_p12 : lw_okq (⟨"SeesawPark$Seating", "countFrom", "(III)I"⟩, 10) := ⟨⟨by decide +kernel, by decide +kernel⟩, List.mem_of_getElem? (i := 157) (by decide +kernel), List.mem_of_getElem? (i := 600) (by decide +kernel), List.mem_of_getElem? (i := 601) (by decide +kernel)⟩
theorem lw_p13 : lw_okq (⟨"SeesawPark$Seating", "isHopeless", "(II)Z"⟩, 10) := ⟨⟨by decide +kernel, by decide +kernel⟩, List.mem_of_getElem? (i := 157) (by decide +kernel), List.mem_of_getElem? (i := 604) (by decide +kernel), List.mem_of_getElem? (i := 605) (by decide +kernel)⟩
theorem lw_p14 : lw_okq (⟨"SeesawPark$Seating", "findFrom", "(III)Z"⟩, 10) := ⟨⟨by decide +kernel, by decide +kernel⟩, List.mem_of_getElem? (i := 157) (by decide +kernel), List.mem_of_getElem? (i := 613) (by decide +kernel), List.mem_of_getElem? (i := 614) (by decide +kernel)⟩
theorem lw_p15 : lw_okq (⟨"SeesawPark$Crowd", "addSeatOf", "(LSeesawPark$Roster;II)V"⟩, 1) := ⟨⟨by decide +kernel, by decide +kernel⟩, List.mem_of_getElem? (i := 194) (by decide +kernel), List.mem_of_getElem? (i := 634) (by decide +kernel), List.mem_of_getElem? (i := 635) (by decide +kernel)⟩
def lw_privs_1 : List (MethodName × Nat) := [(⟨"SeesawPark$Told", "readToken", "()V"⟩, 7), (⟨"SeesawPark$Told", "readWord", "()V"⟩, 7), (⟨"SeesawPark$Told", "spells", "(Ljava/lang/String;)Z"⟩, 7), (⟨"SeesawPark$Told", "readDigits", "()V"⟩, 7), (⟨"SeesawPark$Told", "readPlank", "()Z"⟩, 7), (⟨"SeesawPark$Told", "readNumber", "(II)Z"⟩, 7), (⟨"SeesawPark$Told", "readSemicolon", "()Z"⟩, 7), (⟨"SeesawPark$Told", "readChild", "()Z"⟩, 7), (⟨"SeesawPark$Told", "readStone", "()Z"⟩, 7), (⟨"SeesawPark$Scene", "settle", "(II)I"⟩, 7), (⟨"SeesawPark", "askWays", "(II)V"⟩, 11), (⟨"SeesawPark$Seating", "measureReach", "()V"⟩, 10), (⟨"SeesawPark$Seating", "countFrom", "(III)I"⟩, 10), (⟨"SeesawPark$Seating", "isHopeless", "(II)Z"⟩, 10), (⟨"SeesawPark$Seating", "findFrom", "(III)Z"⟩, 10), (⟨"SeesawPark$Crowd", "addSeatOf", "(LSeesawPark$Roster;II)V"⟩, 1)]
theorem lw_r1 : ∀ q ∈ lw_privs_1, lw_okq q := List.forall_mem_cons.mpr ⟨lw_p0, List.forall_mem_cons.mpr ⟨lw_p1, List.forall_mem_cons.mpr ⟨lw_p2, List.forall_mem_cons.mpr ⟨lw_p3, List.forall_mem_cons.mpr ⟨lw_p4, List.forall_mem_cons.mpr ⟨lw_p5, List.forall_mem_cons.mpr ⟨lw_p6, List.forall_mem_cons.mpr ⟨lw_p7, List.forall_mem_cons.mpr ⟨lw_p8, List.forall_mem_cons.mpr ⟨lw_p9, List.forall_mem_cons.mpr ⟨lw_p10, List.forall_mem_cons.mpr ⟨lw_p11, List.forall_mem_cons.mpr ⟨lw_p12, List.forall_mem_cons.mpr ⟨lw_p13, List.forall_mem_cons.mpr ⟨lw_p14, List.forall_mem_cons.mpr ⟨lw_p15, fun _ h => absurd h List.not_mem_nil⟩⟩⟩⟩⟩⟩⟩⟩⟩⟩⟩⟩⟩⟩⟩⟩
theorem lw_p16 : lw_okq (⟨"SeesawPark$Crowd", "mergeShifted", "(III)V"⟩, 1) := ⟨⟨by decide +kernel, by decide +kernel⟩, List.mem_of_getElem? (i := 194) (by decide +kernel), List.mem_of_getElem? (i := 638) (by decide +kernel), List.mem_of_getElem? (i := 639) (by decide +kernel)⟩
theorem lw_p17 : lw_okq (⟨"SeesawPark$Crowd", "wordAt", "(II)J"⟩, 1) := ⟨⟨by decide +kernel, by decide +kernel⟩, List.mem_of_getElem? (i := 194) (by decide +kernel), List.mem_of_getElem? (i := 642) (by decide +kernel), List.mem_of_getElem? (i := 643) (by decide +kernel)⟩
theorem lw_p18 : lw_okq (⟨"SeesawPark$Crowd", "canLevel", "(III)Z"⟩, 1) := ⟨⟨by decide +kernel, by decide +kernel⟩, List.mem_of_getElem? (i := 194) (by decide +kernel), List.mem_of_getElem? (i := 651) (by decide +kernel), List.mem_of_getElem? (i := 652) (by decide +kernel)⟩
theorem lw_p19 : lw_okq (⟨"SeesawPark$Seating", "changeFrom", "(IIII)V"⟩, 10) := ⟨⟨by decide +kernel, by decide +kernel⟩, List.mem_of_getElem? (i := 157) (by decide +kernel), List.mem_of_getElem? (i := 666) (by decide +kernel), List.mem_of_getElem? (i := 667) (by decide +kernel)⟩
theorem lw_p20 : lw_okq (⟨"SeesawPark", "leastBallast", "(I)I"⟩, 11) := ⟨⟨by decide +kernel, by decide +kernel⟩, List.mem_of_getElem? (i := 20) (by decide +kernel), List.mem_of_getElem? (i := 674) (by decide +kernel), List.mem_of_getElem? (i := 675) (by decide +kernel)⟩
theorem lw_p21 : lw_okq (⟨"SeesawPark", "canBallast", "(II)Z"⟩, 11) := ⟨⟨by decide +kernel, by decide +kernel⟩, List.mem_of_getElem? (i := 20) (by decide +kernel), List.mem_of_getElem? (i := 682) (by decide +kernel), List.mem_of_getElem? (i := 683) (by decide +kernel)⟩
theorem lw_p22 : lw_okq (⟨"SeesawPark$Contest", "moveFrom", "(IIII)I"⟩, 5) := ⟨⟨by decide +kernel, by decide +kernel⟩, List.mem_of_getElem? (i := 205) (by decide +kernel), List.mem_of_getElem? (i := 705) (by decide +kernel), List.mem_of_getElem? (i := 706) (by decide +kernel)⟩
theorem lw_p23 : lw_okq (⟨"SeesawPark$Weighing", "survey", "()V"⟩, 10) := ⟨⟨by decide +kernel, by decide +kernel⟩, List.mem_of_getElem? (i := 227) (by decide +kernel), List.mem_of_getElem? (i := 738) (by decide +kernel), List.mem_of_getElem? (i := 739) (by decide +kernel)⟩
theorem lw_p24 : lw_okq (⟨"SeesawPark$Weighing", "guessFrom", "(I)V"⟩, 10) := ⟨⟨by decide +kernel, by decide +kernel⟩, List.mem_of_getElem? (i := 227) (by decide +kernel), List.mem_of_getElem? (i := 745) (by decide +kernel), List.mem_of_getElem? (i := 746) (by decide +kernel)⟩
theorem lw_p25 : lw_okq (⟨"SeesawPark$Weighing", "guessFits", "()Z"⟩, 10) := ⟨⟨by decide +kernel, by decide +kernel⟩, List.mem_of_getElem? (i := 227) (by decide +kernel), List.mem_of_getElem? (i := 749) (by decide +kernel), List.mem_of_getElem? (i := 750) (by decide +kernel)⟩
theorem lw_p26 : lw_okq (⟨"SeesawPark$Weighing", "tally", "()V"⟩, 10) := ⟨⟨by decide +kernel, by decide +kernel⟩, List.mem_of_getElem? (i := 227) (by decide +kernel), List.mem_of_getElem? (i := 754) (by decide +kernel), List.mem_of_getElem? (i := 755) (by decide +kernel)⟩
theorem lw_p27 : lw_okq (⟨"SeesawPark$Queue", "joinRow", "(I)V"⟩, 6) := ⟨⟨by decide +kernel, by decide +kernel⟩, List.mem_of_getElem? (i := 266) (by decide +kernel), List.mem_of_getElem? (i := 798) (by decide +kernel), List.mem_of_getElem? (i := 799) (by decide +kernel)⟩
theorem lw_p28 : lw_okq (⟨"SeesawPark$Queue", "letOff", "(I)V"⟩, 6) := ⟨⟨by decide +kernel, by decide +kernel⟩, List.mem_of_getElem? (i := 266) (by decide +kernel), List.mem_of_getElem? (i := 802) (by decide +kernel), List.mem_of_getElem? (i := 803) (by decide +kernel)⟩
theorem lw_p29 : lw_okq (⟨"SeesawPark$Queue", "wantsMore", "(I)Z"⟩, 6) := ⟨⟨by decide +kernel, by decide +kernel⟩, List.mem_of_getElem? (i := 266) (by decide +kernel), List.mem_of_getElem? (i := 806) (by decide +kernel), List.mem_of_getElem? (i := 807) (by decide +kernel)⟩
theorem lw_p30 : lw_okq (⟨"SeesawPark$Queue", "letOn", "(I)V"⟩, 6) := ⟨⟨by decide +kernel, by decide +kernel⟩, List.mem_of_getElem? (i := 266) (by decide +kernel), List.mem_of_getElem? (i := 810) (by decide +kernel), List.mem_of_getElem? (i := 811) (by decide +kernel)⟩
theorem lw_p31 : lw_okq (⟨"SeesawPark$Queue", "leaveRow", "(I)V"⟩, 6) := ⟨⟨by decide +kernel, by decide +kernel⟩, List.mem_of_getElem? (i := 266) (by decide +kernel), List.mem_of_getElem? (i := 819) (by decide +kernel), List.mem_of_getElem? (i := 820) (by decide +kernel)⟩
def lw_privs_2 : List (MethodName × Nat) := [(⟨"SeesawPark$Crowd", "mergeShifted", "(III)V"⟩, 1), (⟨"SeesawPark$Crowd", "wordAt", "(II)J"⟩, 1), (⟨"SeesawPark$Crowd", "canLevel", "(III)Z"⟩, 1), (⟨"SeesawPark$Seating", "changeFrom", "(IIII)V"⟩, 10), (⟨"SeesawPark", "leastBallast", "(I)I"⟩, 11), (⟨"SeesawPark", "canBallast", "(II)Z"⟩, 11), (⟨"SeesawPark$Contest", "moveFrom", "(IIII)I"⟩, 5), (⟨"SeesawPark$Weighing", "survey", "()V"⟩, 10), (⟨"SeesawPark$Weighing", "guessFrom", "(I)V"⟩, 10), (⟨"SeesawPark$Weighing", "guessFits", "()Z"⟩, 10), (⟨"SeesawPark$Weighing", "tally", "()V"⟩, 10), (⟨"SeesawPark$Queue", "joinRow", "(I)V"⟩, 6), (⟨"SeesawPark$Queue", "letOff", "(I)V"⟩, 6), (⟨"SeesawPark$Queue", "wantsMore", "(I)Z"⟩, 6), (⟨"SeesawPark$Queue", "letOn", "(I)V"⟩, 6), (⟨"SeesawPark$Queue", "leaveRow", "(I)V"⟩, 6)]
theorem lw_r2 : ∀ q ∈ lw_privs_2, lw_okq q := List.forall_mem_cons.mpr ⟨lw_p16, List.forall_mem_cons.mpr ⟨lw_p17, List.forall_mem_cons.mpr ⟨lw_p18, List.forall_mem_cons.mpr ⟨lw_p19, List.forall_mem_cons.mpr ⟨lw_p20, List.forall_mem_cons.mpr ⟨lw_p21, List.forall_mem_cons.mpr ⟨lw_p22, List.forall_mem_cons.mpr ⟨lw_p23, List.forall_mem_cons.mpr ⟨lw_p24, List.forall_mem_cons.mpr ⟨lw_p25, List.forall_mem_cons.mpr ⟨lw_p26, List.forall_mem_cons.mpr ⟨lw_p27, List.forall_mem_cons.mpr ⟨lw_p28, List.forall_mem_cons.mpr ⟨lw_p29, List.forall_mem_cons.mpr ⟨lw_p30, List.forall_mem_cons.mpr ⟨lw_p31, fun _ h => absurd h List.not_mem_nil⟩⟩⟩⟩⟩⟩⟩⟩⟩⟩⟩⟩⟩⟩⟩⟩
theorem lw_p32 : lw_okq (⟨"SeesawPark$Queue", "rideOn", "()V"⟩, 6) := ⟨⟨by decide +kernel, by decide +kernel⟩, List.mem_of_getElem? (i := 266) (by decide +kernel), List.mem_of_getElem? (i := 823) (by decide +kernel), List.mem_of_getElem? (i := 824) (by decide +kernel)⟩
theorem lw_p33 : lw_okq (⟨"SeesawPark", "hasPartner", "(I)Z"⟩, 11) := ⟨⟨by decide +kernel, by decide +kernel⟩, List.mem_of_getElem? (i := 20) (by decide +kernel), List.mem_of_getElem? (i := 831) (by decide +kernel), List.mem_of_getElem? (i := 832) (by decide +kernel)⟩
theorem lw_p34 : lw_okq (⟨"SeesawPark", "rateAs", "(III)I"⟩, 11) := ⟨⟨by decide +kernel, by decide +kernel⟩, List.mem_of_getElem? (i := 20) (by decide +kernel), List.mem_of_getElem? (i := 840) (by decide +kernel), List.mem_of_getElem? (i := 841) (by decide +kernel)⟩
theorem lw_p35 : lw_okq (⟨"SeesawPark", "imageOf", "(I)LSeesawPark$Scene;"⟩, 11) := ⟨⟨by decide +kernel, by decide +kernel⟩, List.mem_of_getElem? (i := 20) (by decide +kernel), List.mem_of_getElem? (i := 852) (by decide +kernel), List.mem_of_getElem? (i := 853) (by decide +kernel)⟩
theorem lw_p36 : lw_okq (⟨"SeesawParkModel", "begins", "()V"⟩, 36) := ⟨⟨by decide +kernel, by decide +kernel⟩, List.mem_of_getElem? (i := 879) (by decide +kernel), List.mem_of_getElem? (i := 885) (by decide +kernel), List.mem_of_getElem? (i := 886) (by decide +kernel)⟩
theorem lw_p37 : lw_okq (⟨"SeesawParkModel", "advances", "()V"⟩, 36) := ⟨⟨by decide +kernel, by decide +kernel⟩, List.mem_of_getElem? (i := 879) (by decide +kernel), List.mem_of_getElem? (i := 1015) (by decide +kernel), List.mem_of_getElem? (i := 1016) (by decide +kernel)⟩
theorem lw_p38 : lw_okq (⟨"SeesawParkModel", "byteAt", "(I)I"⟩, 36) := ⟨⟨by decide +kernel, by decide +kernel⟩, List.mem_of_getElem? (i := 879) (by decide +kernel), List.mem_of_getElem? (i := 1019) (by decide +kernel), List.mem_of_getElem? (i := 1020) (by decide +kernel)⟩
theorem lw_p39 : lw_okq (⟨"SeesawParkModel", "isWell", "()Z"⟩, 36) := ⟨⟨by decide +kernel, by decide +kernel⟩, List.mem_of_getElem? (i := 879) (by decide +kernel), List.mem_of_getElem? (i := 1033) (by decide +kernel), List.mem_of_getElem? (i := 1034) (by decide +kernel)⟩
theorem lw_p40 : lw_okq (⟨"SeesawParkModel", "takes", "(Z)I"⟩, 36) := ⟨⟨by decide +kernel, by decide +kernel⟩, List.mem_of_getElem? (i := 879) (by decide +kernel), List.mem_of_getElem? (i := 1037) (by decide +kernel), List.mem_of_getElem? (i := 1038) (by decide +kernel)⟩
theorem lw_p41 : lw_okq (⟨"SeesawParkModel", "readsItem", "(I)V"⟩, 36) := ⟨⟨by decide +kernel, by decide +kernel⟩, List.mem_of_getElem? (i := 879) (by decide +kernel), List.mem_of_getElem? (i := 1041) (by decide +kernel), List.mem_of_getElem? (i := 1042) (by decide +kernel)⟩
theorem lw_p42 : lw_okq (⟨"SeesawParkModel", "number", "(II)I"⟩, 36) := ⟨⟨by decide +kernel, by decide +kernel⟩, List.mem_of_getElem? (i := 879) (by decide +kernel), List.mem_of_getElem? (i := 1045) (by decide +kernel), List.mem_of_getElem? (i := 1046) (by decide +kernel)⟩
theorem lw_p43 : lw_okq (⟨"SeesawParkModel", "isPlank", "(I)Z"⟩, 36) := ⟨⟨by decide +kernel, by decide +kernel⟩, List.mem_of_getElem? (i := 879) (by decide +kernel), List.mem_of_getElem? (i := 1053) (by decide +kernel), List.mem_of_getElem? (i := 1054) (by decide +kernel)⟩
theorem lw_p44 : lw_okq (⟨"SeesawParkModel", "momentOf", "(I)I"⟩, 36) := ⟨⟨by decide +kernel, by decide +kernel⟩, List.mem_of_getElem? (i := 879) (by decide +kernel), List.mem_of_getElem? (i := 1058) (by decide +kernel), List.mem_of_getElem? (i := 1059) (by decide +kernel)⟩
theorem lw_p45 : lw_okq (⟨"SeesawParkModel", "stonesOn", "(I)I"⟩, 36) := ⟨⟨by decide +kernel, by decide +kernel⟩, List.mem_of_getElem? (i := 879) (by decide +kernel), List.mem_of_getElem? (i := 1062) (by decide +kernel), List.mem_of_getElem? (i := 1063) (by decide +kernel)⟩
theorem lw_p46 : lw_okq (⟨"SeesawParkModel", "tiltOf", "(I)I"⟩, 36) := ⟨⟨by decide +kernel, by decide +kernel⟩, List.mem_of_getElem? (i := 879) (by decide +kernel), List.mem_of_getElem? (i := 1066) (by decide +kernel), List.mem_of_getElem? (i := 1067) (by decide +kernel)⟩
theorem lw_p47 : lw_okq (⟨"SeesawParkModel", "tiltBy", "(II)I"⟩, 36) := ⟨⟨by decide +kernel, by decide +kernel⟩, List.mem_of_getElem? (i := 879) (by decide +kernel), List.mem_of_getElem? (i := 1070) (by decide +kernel), List.mem_of_getElem? (i := 1071) (by decide +kernel)⟩
def lw_privs_3 : List (MethodName × Nat) := [(⟨"SeesawPark$Queue", "rideOn", "()V"⟩, 6), (⟨"SeesawPark", "hasPartner", "(I)Z"⟩, 11), (⟨"SeesawPark", "rateAs", "(III)I"⟩, 11), (⟨"SeesawPark", "imageOf", "(I)LSeesawPark$Scene;"⟩, 11), (⟨"SeesawParkModel", "begins", "()V"⟩, 36), (⟨"SeesawParkModel", "advances", "()V"⟩, 36), (⟨"SeesawParkModel", "byteAt", "(I)I"⟩, 36), (⟨"SeesawParkModel", "isWell", "()Z"⟩, 36), (⟨"SeesawParkModel", "takes", "(Z)I"⟩, 36), (⟨"SeesawParkModel", "readsItem", "(I)V"⟩, 36), (⟨"SeesawParkModel", "number", "(II)I"⟩, 36), (⟨"SeesawParkModel", "isPlank", "(I)Z"⟩, 36), (⟨"SeesawParkModel", "momentOf", "(I)I"⟩, 36), (⟨"SeesawParkModel", "stonesOn", "(I)I"⟩, 36), (⟨"SeesawParkModel", "tiltOf", "(I)I"⟩, 36), (⟨"SeesawParkModel", "tiltBy", "(II)I"⟩, 36)]
theorem lw_r3 : ∀ q ∈ lw_privs_3, lw_okq q := List.forall_mem_cons.mpr ⟨lw_p32, List.forall_mem_cons.mpr ⟨lw_p33, List.forall_mem_cons.mpr ⟨lw_p34, List.forall_mem_cons.mpr ⟨lw_p35, List.forall_mem_cons.mpr ⟨lw_p36, List.forall_mem_cons.mpr ⟨lw_p37, List.forall_mem_cons.mpr ⟨lw_p38, List.forall_mem_cons.mpr ⟨lw_p39, List.forall_mem_cons.mpr ⟨lw_p40, List.forall_mem_cons.mpr ⟨lw_p41, List.forall_mem_cons.mpr ⟨lw_p42, List.forall_mem_cons.mpr ⟨lw_p43, List.forall_mem_cons.mpr ⟨lw_p44, List.forall_mem_cons.mpr ⟨lw_p45, List.forall_mem_cons.mpr ⟨lw_p46, List.forall_mem_cons.mpr ⟨lw_p47, fun _ h => absurd h List.not_mem_nil⟩⟩⟩⟩⟩⟩⟩⟩⟩⟩⟩⟩⟩⟩⟩⟩
theorem lw_p48 : lw_okq (⟨"SeesawParkModel", "sittingOn", "(I)I"⟩, 36) := ⟨⟨by decide +kernel, by decide +kernel⟩, List.mem_of_getElem? (i := 879) (by decide +kernel), List.mem_of_getElem? (i := 1077) (by decide +kernel), List.mem_of_getElem? (i := 1078) (by decide +kernel)⟩
theorem lw_p49 : lw_okq (⟨"SeesawParkModel", "isChild", "(I)Z"⟩, 36) := ⟨⟨by decide +kernel, by decide +kernel⟩, List.mem_of_getElem? (i := 879) (by decide +kernel), List.mem_of_getElem? (i := 1085) (by decide +kernel), List.mem_of_getElem? (i := 1086) (by decide +kernel)⟩
theorem lw_p50 : lw_okq (⟨"SeesawParkModel", "isStone", "(I)Z"⟩, 36) := ⟨⟨by decide +kernel, by decide +kernel⟩, List.mem_of_getElem? (i := 879) (by decide +kernel), List.mem_of_getElem? (i := 1093) (by decide +kernel), List.mem_of_getElem? (i := 1094) (by decide +kernel)⟩
theorem lw_p51 : lw_okq (⟨"SeesawParkModel", "goes", "(II)I"⟩, 36) := ⟨⟨by decide +kernel, by decide +kernel⟩, List.mem_of_getElem? (i := 879) (by decide +kernel), List.mem_of_getElem? (i := 1101) (by decide +kernel), List.mem_of_getElem? (i := 1102) (by decide +kernel)⟩
theorem lw_p52 : lw_okq (⟨"SeesawParkModel", "bumps", "(II)I"⟩, 36) := ⟨⟨by decide +kernel, by decide +kernel⟩, List.mem_of_getElem? (i := 879) (by decide +kernel), List.mem_of_getElem? (i := 1105) (by decide +kernel), List.mem_of_getElem? (i := 1106) (by decide +kernel)⟩
theorem lw_p53 : lw_okq (⟨"SeesawParkModel", "comes", "(IIII)I"⟩, 36) := ⟨⟨by decide +kernel, by decide +kernel⟩, List.mem_of_getElem? (i := 879) (by decide +kernel), List.mem_of_getElem? (i := 1109) (by decide +kernel), List.mem_of_getElem? (i := 1110) (by decide +kernel)⟩
theorem lw_p54 : lw_okq (⟨"SeesawParkModel", "all", "()I"⟩, 36) := ⟨⟨by decide +kernel, by decide +kernel⟩, List.mem_of_getElem? (i := 879) (by decide +kernel), List.mem_of_getElem? (i := 1129) (by decide +kernel), List.mem_of_getElem? (i := 1130) (by decide +kernel)⟩
theorem lw_p55 : lw_okq (⟨"SeesawParkModel", "waysOf", "(III)I"⟩, 36) := ⟨⟨by decide +kernel, by decide +kernel⟩, List.mem_of_getElem? (i := 879) (by decide +kernel), List.mem_of_getElem? (i := 1134) (by decide +kernel), List.mem_of_getElem? (i := 1135) (by decide +kernel)⟩
theorem lw_p56 : lw_okq (⟨"SeesawParkModel", "seats", "(I)V"⟩, 36) := ⟨⟨by decide +kernel, by decide +kernel⟩, List.mem_of_getElem? (i := 879) (by decide +kernel), List.mem_of_getElem? (i := 1138) (by decide +kernel), List.mem_of_getElem? (i := 1139) (by decide +kernel)⟩
theorem lw_p57 : lw_okq (⟨"SeesawParkModel", "freeSeat", "(II)I"⟩, 36) := ⟨⟨by decide +kernel, by decide +kernel⟩, List.mem_of_getElem? (i := 879) (by decide +kernel), List.mem_of_getElem? (i := 1142) (by decide +kernel), List.mem_of_getElem? (i := 1143) (by decide +kernel)⟩
theorem lw_p58 : lw_okq (⟨"SeesawParkModel", "stepOf", "(II)I"⟩, 36) := ⟨⟨by decide +kernel, by decide +kernel⟩, List.mem_of_getElem? (i := 879) (by decide +kernel), List.mem_of_getElem? (i := 1146) (by decide +kernel), List.mem_of_getElem? (i := 1147) (by decide +kernel)⟩
theorem lw_p59 : lw_okq (⟨"SeesawParkModel", "levels", "(II)Z"⟩, 36) := ⟨⟨by decide +kernel, by decide +kernel⟩, List.mem_of_getElem? (i := 879) (by decide +kernel), List.mem_of_getElem? (i := 1165) (by decide +kernel), List.mem_of_getElem? (i := 1166) (by decide +kernel)⟩
theorem lw_p60 : lw_okq (⟨"SeesawParkModel", "hasStone", "(II)Z"⟩, 36) := ⟨⟨by decide +kernel, by decide +kernel⟩, List.mem_of_getElem? (i := 879) (by decide +kernel), List.mem_of_getElem? (i := 1169) (by decide +kernel), List.mem_of_getElem? (i := 1170) (by decide +kernel)⟩
theorem lw_p61 : lw_okq (⟨"SeesawParkModel", "fourMoves", "(II)I"⟩, 36) := ⟨⟨by decide +kernel, by decide +kernel⟩, List.mem_of_getElem? (i := 879) (by decide +kernel), List.mem_of_getElem? (i := 1177) (by decide +kernel), List.mem_of_getElem? (i := 1178) (by decide +kernel)⟩
theorem lw_p62 : lw_okq (⟨"SeesawParkModel", "mayPut", "(IIIIII)Z"⟩, 36) := ⟨⟨by decide +kernel, by decide +kernel⟩, List.mem_of_getElem? (i := 879) (by decide +kernel), List.mem_of_getElem? (i := 1181) (by decide +kernel), List.mem_of_getElem? (i := 1182) (by decide +kernel)⟩
theorem lw_p63 : lw_okq (⟨"SeesawParkModel", "isTaken", "(II)Z"⟩, 36) := ⟨⟨by decide +kernel, by decide +kernel⟩, List.mem_of_getElem? (i := 879) (by decide +kernel), List.mem_of_getElem? (i := 1185) (by decide +kernel), List.mem_of_getElem? (i := 1186) (by decide +kernel)⟩
def lw_privs_4 : List (MethodName × Nat) := [(⟨"SeesawParkModel", "sittingOn", "(I)I"⟩, 36), (⟨"SeesawParkModel", "isChild", "(I)Z"⟩, 36), (⟨"SeesawParkModel", "isStone", "(I)Z"⟩, 36), (⟨"SeesawParkModel", "goes", "(II)I"⟩, 36), (⟨"SeesawParkModel", "bumps", "(II)I"⟩, 36), (⟨"SeesawParkModel", "comes", "(IIII)I"⟩, 36), (⟨"SeesawParkModel", "all", "()I"⟩, 36), (⟨"SeesawParkModel", "waysOf", "(III)I"⟩, 36), (⟨"SeesawParkModel", "seats", "(I)V"⟩, 36), (⟨"SeesawParkModel", "freeSeat", "(II)I"⟩, 36), (⟨"SeesawParkModel", "stepOf", "(II)I"⟩, 36), (⟨"SeesawParkModel", "levels", "(II)Z"⟩, 36), (⟨"SeesawParkModel", "hasStone", "(II)Z"⟩, 36), (⟨"SeesawParkModel", "fourMoves", "(II)I"⟩, 36), (⟨"SeesawParkModel", "mayPut", "(IIIIII)Z"⟩, 36), (⟨"SeesawParkModel", "isTaken", "(II)Z"⟩, 36)]
theorem lw_r4 : ∀ q ∈ lw_privs_4, lw_okq q := List.forall_mem_cons.mpr ⟨lw_p48, List.forall_mem_cons.mpr ⟨lw_p49, List.forall_mem_cons.mpr ⟨lw_p50, List.forall_mem_cons.mpr ⟨lw_p51, List.forall_mem_cons.mpr ⟨lw_p52, List.forall_mem_cons.mpr ⟨lw_p53, List.forall_mem_cons.mpr ⟨lw_p54, List.forall_mem_cons.mpr ⟨lw_p55, List.forall_mem_cons.mpr ⟨lw_p56, List.forall_mem_cons.mpr ⟨lw_p57, List.forall_mem_cons.mpr ⟨lw_p58, List.forall_mem_cons.mpr ⟨lw_p59, List.forall_mem_cons.mpr ⟨lw_p60, List.forall_mem_cons.mpr ⟨lw_p61, List.forall_mem_cons.mpr ⟨lw_p62, List.forall_mem_cons.mpr ⟨lw_p63, fun _ h => absurd h List.not_mem_nil⟩⟩⟩⟩⟩⟩⟩⟩⟩⟩⟩⟩⟩⟩⟩⟩
theorem lw_p64 : lw_okq (⟨"SeesawParkModel", "threeMoves", "(IIII)I"⟩, 36) := ⟨⟨by decide +kernel, by decide +kernel⟩, List.mem_of_getElem? (i := 879) (by decide +kernel), List.mem_of_getElem? (i := 1189) (by decide +kernel), List.mem_of_getElem? (i := 1190) (by decide +kernel)⟩
theorem lw_p65 : lw_okq (⟨"SeesawParkModel", "twoMoves", "(IIII)I"⟩, 36) := ⟨⟨by decide +kernel, by decide +kernel⟩, List.mem_of_getElem? (i := 879) (by decide +kernel), List.mem_of_getElem? (i := 1193) (by decide +kernel), List.mem_of_getElem? (i := 1194) (by decide +kernel)⟩
theorem lw_p66 : lw_okq (⟨"SeesawParkModel", "lastMove", "(IIII)I"⟩, 36) := ⟨⟨by decide +kernel, by decide +kernel⟩, List.mem_of_getElem? (i := 879) (by decide +kernel), List.mem_of_getElem? (i := 1197) (by decide +kernel), List.mem_of_getElem? (i := 1198) (by decide +kernel)⟩
theorem lw_p67 : lw_okq (⟨"SeesawParkModel", "isStranger", "(I)Z"⟩, 36) := ⟨⟨by decide +kernel, by decide +kernel⟩, List.mem_of_getElem? (i := 879) (by decide +kernel), List.mem_of_getElem? (i := 1209) (by decide +kernel), List.mem_of_getElem? (i := 1210) (by decide +kernel)⟩
theorem lw_p68 : lw_okq (⟨"SeesawParkModel", "couldBe", "(II)I"⟩, 36) := ⟨⟨by decide +kernel, by decide +kernel⟩, List.mem_of_getElem? (i := 879) (by decide +kernel), List.mem_of_getElem? (i := 1217) (by decide +kernel), List.mem_of_getElem? (i := 1218) (by decide +kernel)⟩
theorem lw_p69 : lw_okq (⟨"SeesawParkModel", "allWays", "()I"⟩, 36) := ⟨⟨by decide +kernel, by decide +kernel⟩, List.mem_of_getElem? (i := 879) (by decide +kernel), List.mem_of_getElem? (i := 1221) (by decide +kernel), List.mem_of_getElem? (i := 1222) (by decide +kernel)⟩
theorem lw_p70 : lw_okq (⟨"SeesawParkModel", "fits", "(I)Z"⟩, 36) := ⟨⟨by decide +kernel, by decide +kernel⟩, List.mem_of_getElem? (i := 879) (by decide +kernel), List.mem_of_getElem? (i := 1225) (by decide +kernel), List.mem_of_getElem? (i := 1226) (by decide +kernel)⟩
theorem lw_p71 : lw_okq (⟨"SeesawParkModel", "goesBy", "(I)V"⟩, 36) := ⟨⟨by decide +kernel, by decide +kernel⟩, List.mem_of_getElem? (i := 879) (by decide +kernel), List.mem_of_getElem? (i := 1247) (by decide +kernel), List.mem_of_getElem? (i := 1248) (by decide +kernel)⟩
theorem lw_p72 : lw_okq (⟨"SeesawParkModel", "letsOff", "(I)V"⟩, 36) := ⟨⟨by decide +kernel, by decide +kernel⟩, List.mem_of_getElem? (i := 879) (by decide +kernel), List.mem_of_getElem? (i := 1251) (by decide +kernel), List.mem_of_getElem? (i := 1252) (by decide +kernel)⟩
theorem lw_p73 : lw_okq (⟨"SeesawParkModel", "waits", "(I)V"⟩, 36) := ⟨⟨by decide +kernel, by decide +kernel⟩, List.mem_of_getElem? (i := 879) (by decide +kernel), List.mem_of_getElem? (i := 1258) (by decide +kernel), List.mem_of_getElem? (i := 1259) (by decide +kernel)⟩
theorem lw_p74 : lw_okq (⟨"SeesawParkModel", "takesOn", "(II)V"⟩, 36) := ⟨⟨by decide +kernel, by decide +kernel⟩, List.mem_of_getElem? (i := 879) (by decide +kernel), List.mem_of_getElem? (i := 1262) (by decide +kernel), List.mem_of_getElem? (i := 1263) (by decide +kernel)⟩
theorem lw_p75 : lw_okq (⟨"SeesawParkModel", "areAPair", "(III)Z"⟩, 36) := ⟨⟨by decide +kernel, by decide +kernel⟩, List.mem_of_getElem? (i := 879) (by decide +kernel), List.mem_of_getElem? (i := 1266) (by decide +kernel), List.mem_of_getElem? (i := 1267) (by decide +kernel)⟩
theorem lw_p76 : lw_okq (⟨"SeesawParkModel", "outOfRow", "(I)V"⟩, 36) := ⟨⟨by decide +kernel, by decide +kernel⟩, List.mem_of_getElem? (i := 879) (by decide +kernel), List.mem_of_getElem? (i := 1270) (by decide +kernel), List.mem_of_getElem? (i := 1271) (by decide +kernel)⟩
theorem lw_p77 : lw_okq (⟨"SeesawParkModel", "sitting", "()I"⟩, 36) := ⟨⟨by decide +kernel, by decide +kernel⟩, List.mem_of_getElem? (i := 879) (by decide +kernel), List.mem_of_getElem? (i := 1291) (by decide +kernel), List.mem_of_getElem? (i := 1292) (by decide +kernel)⟩
def lw_privs_5 : List (MethodName × Nat) := [(⟨"SeesawParkModel", "threeMoves", "(IIII)I"⟩, 36), (⟨"SeesawParkModel", "twoMoves", "(IIII)I"⟩, 36), (⟨"SeesawParkModel", "lastMove", "(IIII)I"⟩, 36), (⟨"SeesawParkModel", "isStranger", "(I)Z"⟩, 36), (⟨"SeesawParkModel", "couldBe", "(II)I"⟩, 36), (⟨"SeesawParkModel", "allWays", "()I"⟩, 36), (⟨"SeesawParkModel", "fits", "(I)Z"⟩, 36), (⟨"SeesawParkModel", "goesBy", "(I)V"⟩, 36), (⟨"SeesawParkModel", "letsOff", "(I)V"⟩, 36), (⟨"SeesawParkModel", "waits", "(I)V"⟩, 36), (⟨"SeesawParkModel", "takesOn", "(II)V"⟩, 36), (⟨"SeesawParkModel", "areAPair", "(III)Z"⟩, 36), (⟨"SeesawParkModel", "outOfRow", "(I)V"⟩, 36), (⟨"SeesawParkModel", "sitting", "()I"⟩, 36)]
theorem lw_r5 : ∀ q ∈ lw_privs_5, lw_okq q := List.forall_mem_cons.mpr ⟨lw_p64, List.forall_mem_cons.mpr ⟨lw_p65, List.forall_mem_cons.mpr ⟨lw_p66, List.forall_mem_cons.mpr ⟨lw_p67, List.forall_mem_cons.mpr ⟨lw_p68, List.forall_mem_cons.mpr ⟨lw_p69, List.forall_mem_cons.mpr ⟨lw_p70, List.forall_mem_cons.mpr ⟨lw_p71, List.forall_mem_cons.mpr ⟨lw_p72, List.forall_mem_cons.mpr ⟨lw_p73, List.forall_mem_cons.mpr ⟨lw_p74, List.forall_mem_cons.mpr ⟨lw_p75, List.forall_mem_cons.mpr ⟨lw_p76, List.forall_mem_cons.mpr ⟨lw_p77, fun _ h => absurd h List.not_mem_nil⟩⟩⟩⟩⟩⟩⟩⟩⟩⟩⟩⟩⟩⟩
def lw_privs : List (MethodName × Nat) := lw_privs_1 ++ (lw_privs_2 ++ (lw_privs_3 ++ (lw_privs_4 ++ (lw_privs_5))))
def lw_tbl : List Cond := k2_sels lw_privs ++ tables_1
theorem lw_privs_ok : ∀ q ∈ lw_privs, lw_okq q := by
  show ∀ q ∈ lw_privs_1 ++ (lw_privs_2 ++ (lw_privs_3 ++ (lw_privs_4 ++ (lw_privs_5)))), lw_okq q
  exact List.forall_mem_append.mpr ⟨lw_r1, List.forall_mem_append.mpr ⟨lw_r2, List.forall_mem_append.mpr ⟨lw_r3, List.forall_mem_append.mpr ⟨lw_r4, lw_r5⟩⟩⟩⟩
def gw : List Cond := lw_tbl.filter goodWord
theorem gw_of {i : Nat} {w : Cond} (h : lw_tbl[i]? = some w) (hg : goodWord w = true) : w ∈ gw := List.mem_filter.mpr ⟨List.mem_of_getElem? h, hg⟩
end
section
def T0 : u_T := fun k => match k with
  | 0 => ("SeesawPark$Contest", "weights", "[I", true)
  | 1 => ("SeesawPark$Contest", "steps", "[I", true)
  | 2 => ("SeesawPark$Contest", "children", "I", false)
  | 3 => ("SeesawPark$Contest", "seats", "I", false)
  | _ => ("SeesawPark$Contest", "slack", "I", false)
def ty0 : Nat → FieldType := fun k => match k with
  | 0 => .array .int
  | 1 => .array .int
  | 2 => .int
  | 3 => .int
  | _ => .int
theorem nm0 : ∀ a, a < 5 → ∀ b, b < 5 → a ≠ b → (T0 a).2.1 ≠ (T0 b).2.1 := by decide +kernel
theorem tyok0 : ∀ k, k < 5 → parseFieldDescriptor (T0 k).2.2.1 = some (ty0 k) := by decide +kernel
def T1 : u_T := fun k => match k with
  | _ => ("SeesawPark$Crowd", "rows", "[J", true)
def ty1 : Nat → FieldType := fun k => match k with
  | _ => .array .long
theorem nm1 : ∀ a, a < 1 → ∀ b, b < 1 → a ≠ b → (T1 a).2.1 ≠ (T1 b).2.1 := by decide +kernel
theorem tyok1 : ∀ k, k < 1 → parseFieldDescriptor (T1 k).2.2.1 = some (ty1 k) := by decide +kernel
def T2 : u_T := fun k => match k with
  | 0 => ("SeesawPark$Queue", "roster", "LSeesawPark$Roster;", true)
  | 1 => ("SeesawPark$Queue", "ridden", "[I", true)
  | 2 => ("SeesawPark$Queue", "row", "[I", true)
  | 3 => ("SeesawPark$Queue", "rider", "[I", true)
  | 4 => ("SeesawPark$Queue", "partner", "[I", true)
  | _ => ("SeesawPark$Queue", "waiting", "I", false)
def ty2 : Nat → FieldType := fun k => match k with
  | 0 => .object "SeesawPark$Roster"
  | 1 => .array .int
  | 2 => .array .int
  | 3 => .array .int
  | 4 => .array .int
  | _ => .int
theorem nm2 : ∀ a, a < 6 → ∀ b, b < 6 → a ≠ b → (T2 a).2.1 ≠ (T2 b).2.1 := by decide +kernel
theorem tyok2 : ∀ k, k < 6 → parseFieldDescriptor (T2 k).2.2.1 = some (ty2 k) := by decide +kernel
def T3 : u_T := fun k => match k with
  | 0 => ("SeesawPark$Roster", "half", "[I", true)
  | 1 => ("SeesawPark$Roster", "slack", "[I", true)
  | 2 => ("SeesawPark$Roster", "weight", "[I", true)
  | 3 => ("SeesawPark$Roster", "wish", "[I", true)
  | 4 => ("SeesawPark$Roster", "stoneWeight", "[I", true)
  | 5 => ("SeesawPark$Roster", "planks", "I", false)
  | 6 => ("SeesawPark$Roster", "children", "I", false)
  | _ => ("SeesawPark$Roster", "stones", "I", false)
def ty3 : Nat → FieldType := fun k => match k with
  | 0 => .array .int
  | 1 => .array .int
  | 2 => .array .int
  | 3 => .array .int
  | 4 => .array .int
  | 5 => .int
  | 6 => .int
  | _ => .int
theorem nm3 : ∀ a, a < 8 → ∀ b, b < 8 → a ≠ b → (T3 a).2.1 ≠ (T3 b).2.1 := by decide +kernel
theorem tyok3 : ∀ k, k < 8 → parseFieldDescriptor (T3 k).2.2.1 = some (ty3 k) := by decide +kernel
def T4 : u_T := fun k => match k with
  | 0 => ("SeesawPark$Scene", "roster", "LSeesawPark$Roster;", true)
  | 1 => ("SeesawPark$Scene", "childPlank", "[I", true)
  | 2 => ("SeesawPark$Scene", "childStep", "[I", true)
  | 3 => ("SeesawPark$Scene", "bumped", "[I", true)
  | 4 => ("SeesawPark$Scene", "stonePlank", "[I", true)
  | 5 => ("SeesawPark$Scene", "stoneStep", "[I", true)
  | _ => ("SeesawPark$Scene", "filled", "Z", false)
def ty4 : Nat → FieldType := fun k => match k with
  | 0 => .object "SeesawPark$Roster"
  | 1 => .array .int
  | 2 => .array .int
  | 3 => .array .int
  | 4 => .array .int
  | 5 => .array .int
  | _ => .boolean
theorem nm4 : ∀ a, a < 7 → ∀ b, b < 7 → a ≠ b → (T4 a).2.1 ≠ (T4 b).2.1 := by decide +kernel
theorem tyok4 : ∀ k, k < 7 → parseFieldDescriptor (T4 k).2.2.1 = some (ty4 k) := by decide +kernel
def T5 : u_T := fun k => match k with
  | 0 => ("SeesawPark$Seating", "steps", "[I", true)
  | 1 => ("SeesawPark$Seating", "weights", "[I", true)
  | 2 => ("SeesawPark$Seating", "now", "[I", true)
  | 3 => ("SeesawPark$Seating", "chosen", "[I", true)
  | 4 => ("SeesawPark$Seating", "reach", "[I", true)
  | 5 => ("SeesawPark$Seating", "seats", "I", false)
  | 6 => ("SeesawPark$Seating", "bodies", "I", false)
  | 7 => ("SeesawPark$Seating", "startMoment", "I", false)
  | 8 => ("SeesawPark$Seating", "slack", "I", false)
  | _ => ("SeesawPark$Seating", "fewest", "I", false)
def ty5 : Nat → FieldType := fun k => match k with
  | 0 => .array .int
  | 1 => .array .int
  | 2 => .array .int
  | 3 => .array .int
  | 4 => .array .int
  | 5 => .int
  | 6 => .int
  | 7 => .int
  | 8 => .int
  | _ => .int
theorem nm5 : ∀ a, a < 10 → ∀ b, b < 10 → a ≠ b → (T5 a).2.1 ≠ (T5 b).2.1 := by decide +kernel
theorem tyok5 : ∀ k, k < 10 → parseFieldDescriptor (T5 k).2.2.1 = some (ty5 k) := by decide +kernel
def T6 : u_T := fun k => match k with
  | 0 => ("SeesawPark$Told", "draft", "LSeesawPark$Roster;", true)
  | 1 => ("SeesawPark$Told", "bytes", "[I", true)
  | 2 => ("SeesawPark$Told", "length", "I", false)
  | 3 => ("SeesawPark$Told", "tokenStart", "I", false)
  | 4 => ("SeesawPark$Told", "place", "I", false)
  | 5 => ("SeesawPark$Told", "token", "I", false)
  | _ => ("SeesawPark$Told", "value", "I", false)
def ty6 : Nat → FieldType := fun k => match k with
  | 0 => .object "SeesawPark$Roster"
  | 1 => .array .int
  | 2 => .int
  | 3 => .int
  | 4 => .int
  | 5 => .int
  | _ => .int
theorem nm6 : ∀ a, a < 7 → ∀ b, b < 7 → a ≠ b → (T6 a).2.1 ≠ (T6 b).2.1 := by decide +kernel
theorem tyok6 : ∀ k, k < 7 → parseFieldDescriptor (T6 k).2.2.1 = some (ty6 k) := by decide +kernel
def T7 : u_T := fun k => match k with
  | 0 => ("SeesawPark$Weighing", "first", "[I", true)
  | 1 => ("SeesawPark$Weighing", "second", "[I", true)
  | 2 => ("SeesawPark$Weighing", "outcome", "[I", true)
  | 3 => ("SeesawPark$Weighing", "guess", "[I", true)
  | 4 => ("SeesawPark$Weighing", "byWeight", "[I", true)
  | 5 => ("SeesawPark$Weighing", "byOutcome", "[I", true)
  | 6 => ("SeesawPark$Weighing", "strangers", "I", false)
  | 7 => ("SeesawPark$Weighing", "trials", "I", false)
  | 8 => ("SeesawPark$Weighing", "total", "I", false)
  | _ => ("SeesawPark$Weighing", "surveyed", "Z", false)
def ty7 : Nat → FieldType := fun k => match k with
  | 0 => .array .int
  | 1 => .array .int
  | 2 => .array .int
  | 3 => .array .int
  | 4 => .array .int
  | 5 => .array .int
  | 6 => .int
  | 7 => .int
  | 8 => .int
  | _ => .boolean
theorem nm7 : ∀ a, a < 10 → ∀ b, b < 10 → a ≠ b → (T7 a).2.1 ≠ (T7 b).2.1 := by decide +kernel
theorem tyok7 : ∀ k, k < 10 → parseFieldDescriptor (T7 k).2.2.1 = some (ty7 k) := by decide +kernel
def T8 : u_T := fun k => match k with
  | 0 => ("SeesawPark", "roster", "LSeesawPark$Roster;", true)
  | 1 => ("SeesawPark", "scene", "LSeesawPark$Scene;", true)
  | 2 => ("SeesawPark", "imageZero", "LSeesawPark$Scene;", true)
  | 3 => ("SeesawPark", "imageOne", "LSeesawPark$Scene;", true)
  | 4 => ("SeesawPark", "told", "LSeesawPark$Told;", true)
  | 5 => ("SeesawPark", "seating", "LSeesawPark$Seating;", true)
  | 6 => ("SeesawPark", "crowd", "LSeesawPark$Crowd;", true)
  | 7 => ("SeesawPark", "contest", "LSeesawPark$Contest;", true)
  | 8 => ("SeesawPark", "weighing", "LSeesawPark$Weighing;", true)
  | 9 => ("SeesawPark", "queue", "LSeesawPark$Queue;", true)
  | _ => ("SeesawPark", "marks", "J", false)
def ty8 : Nat → FieldType := fun k => match k with
  | 0 => .object "SeesawPark$Roster"
  | 1 => .object "SeesawPark$Scene"
  | 2 => .object "SeesawPark$Scene"
  | 3 => .object "SeesawPark$Scene"
  | 4 => .object "SeesawPark$Told"
  | 5 => .object "SeesawPark$Seating"
  | 6 => .object "SeesawPark$Crowd"
  | 7 => .object "SeesawPark$Contest"
  | 8 => .object "SeesawPark$Weighing"
  | 9 => .object "SeesawPark$Queue"
  | _ => .long
theorem nm8 : ∀ a, a < 11 → ∀ b, b < 11 → a ≠ b → (T8 a).2.1 ≠ (T8 b).2.1 := by decide +kernel
theorem tyok8 : ∀ k, k < 11 → parseFieldDescriptor (T8 k).2.2.1 = some (ty8 k) := by decide +kernel
def T9 : u_T := fun k => match k with
  | 0 => ("SeesawParkModel", "thrown", "I", false)
  | 1 => ("SeesawParkModel", "trace", "J", false)
  | 2 => ("SeesawParkModel", "text", "[I", true)
  | 3 => ("SeesawParkModel", "typed", "I", false)
  | 4 => ("SeesawParkModel", "next", "I", false)
  | 5 => ("SeesawParkModel", "token", "I", false)
  | 6 => ("SeesawParkModel", "place", "I", false)
  | 7 => ("SeesawParkModel", "value", "I", false)
  | 8 => ("SeesawParkModel", "fault", "I", false)
  | 9 => ("SeesawParkModel", "half", "[I", true)
  | 10 => ("SeesawParkModel", "slack", "[I", true)
  | 11 => ("SeesawParkModel", "weight", "[I", true)
  | 12 => ("SeesawParkModel", "wish", "[I", true)
  | 13 => ("SeesawParkModel", "stone", "[I", true)
  | 14 => ("SeesawParkModel", "planks", "I", false)
  | 15 => ("SeesawParkModel", "children", "I", false)
  | 16 => ("SeesawParkModel", "stones", "I", false)
  | 17 => ("SeesawParkModel", "draftPlanks", "I", false)
  | 18 => ("SeesawParkModel", "draftChildren", "I", false)
  | 19 => ("SeesawParkModel", "draftStones", "I", false)
  | 20 => ("SeesawParkModel", "s", "[I", true)
  | 21 => ("SeesawParkModel", "kept", "[I", true)
  | 22 => ("SeesawParkModel", "isKept", "[Z", true)
  | 23 => ("SeesawParkModel", "who", "[I", true)
  | 24 => ("SeesawParkModel", "many", "I", false)
  | 25 => ("SeesawParkModel", "seat", "[I", true)
  | 26 => ("SeesawParkModel", "first", "[I", true)
  | 27 => ("SeesawParkModel", "strangers", "I", false)
  | 28 => ("SeesawParkModel", "tried", "[I", true)
  | 29 => ("SeesawParkModel", "trials", "I", false)
  | 30 => ("SeesawParkModel", "rode", "[I", true)
  | 31 => ("SeesawParkModel", "row", "[I", true)
  | 32 => ("SeesawParkModel", "waiting", "I", false)
  | 33 => ("SeesawParkModel", "one", "[I", true)
  | 34 => ("SeesawParkModel", "other", "[I", true)
  | _ => ("SeesawParkModel", "until", "[I", true)
def ty9 : Nat → FieldType := fun k => match k with
  | 0 => .int
  | 1 => .long
  | 2 => .array .int
  | 3 => .int
  | 4 => .int
  | 5 => .int
  | 6 => .int
  | 7 => .int
  | 8 => .int
  | 9 => .array .int
  | 10 => .array .int
  | 11 => .array .int
  | 12 => .array .int
  | 13 => .array .int
  | 14 => .int
  | 15 => .int
  | 16 => .int
  | 17 => .int
  | 18 => .int
  | 19 => .int
  | 20 => .array .int
  | 21 => .array .int
  | 22 => .array .boolean
  | 23 => .array .int
  | 24 => .int
  | 25 => .array .int
  | 26 => .array .int
  | 27 => .int
  | 28 => .array .int
  | 29 => .int
  | 30 => .array .int
  | 31 => .array .int
  | 32 => .int
  | 33 => .array .int
  | 34 => .array .int
  | _ => .array .int
theorem nm9 : ∀ a, a < 36 → ∀ b, b < 36 → a ≠ b → (T9 a).2.1 ≠ (T9 b).2.1 := by decide +kernel
theorem tyok9 : ∀ k, k < 36 → parseFieldDescriptor (T9 k).2.2.1 = some (ty9 k) := by decide +kernel
abbrev cls : List vw_C := [("SeesawPark$Contest", T0, 5), ("SeesawPark$Crowd", T1, 1), ("SeesawPark$Queue", T2, 6), ("SeesawPark$Roster", T3, 8), ("SeesawPark$Scene", T4, 7), ("SeesawPark$Seating", T5, 10), ("SeesawPark$Told", T6, 7), ("SeesawPark$Weighing", T7, 10), ("SeesawPark", T8, 11), ("SeesawParkModel", T9, 36)]
def tyc : List (Nat → FieldType) := [ty0, ty1, ty2, ty3, ty4, ty5, ty6, ty7, ty8, ty9]
def cnm : List String := ["SeesawPark$Contest", "SeesawPark$Crowd", "SeesawPark$Queue", "SeesawPark$Roster", "SeesawPark$Scene", "SeesawPark$Seating", "SeesawPark$Told", "SeesawPark$Weighing", "SeesawPark", "SeesawParkModel", "java/lang/Integer", "java/lang/Math", "java/util/Arrays", "java/lang/String", "java/lang/StringLatin1", "jdk/internal/util/Preconditions"]
abbrev Mth : Type := Nat × MethodName × ByteArray × Nat × Option FieldType × Bool × Nat
def m_X0_begin : Mth := (0, ⟨"SeesawPark$Contest", "begin", "(LSeesawPark$Roster;LSeesawPark$Scene;I)V"⟩, prog_2_method_2_code, 7, none, false, 3)
def m_X0_winningMove : Mth := (0, ⟨"SeesawPark$Contest", "winningMove", "(II)I"⟩, prog_2_method_3_code, 3, (some .int), false, 2)
def m_X0_moveFrom : Mth := (0, ⟨"SeesawPark$Contest", "moveFrom", "(IIII)I"⟩, prog_2_method_4_code, 8, (some .int), false, 4)
def m_X1_spread : Mth := (1, ⟨"SeesawPark$Crowd", "spread", "(LSeesawPark$Roster;I)V"⟩, prog_3_method_2_code, 8, none, false, 2)
def m_X1_addSeatOf : Mth := (1, ⟨"SeesawPark$Crowd", "addSeatOf", "(LSeesawPark$Roster;II)V"⟩, prog_3_method_3_code, 5, none, false, 3)
def m_X1_mergeShifted : Mth := (1, ⟨"SeesawPark$Crowd", "mergeShifted", "(III)V"⟩, prog_3_method_4_code, 9, none, false, 3)
def m_X1_wordAt : Mth := (1, ⟨"SeesawPark$Crowd", "wordAt", "(II)J"⟩, prog_3_method_5_code, 3, (some .long), false, 2)
def m_X1_largestLevel : Mth := (1, ⟨"SeesawPark$Crowd", "largestLevel", "(III)I"⟩, prog_3_method_6_code, 6, (some .int), false, 3)
def m_X1_canLevel : Mth := (1, ⟨"SeesawPark$Crowd", "canLevel", "(III)Z"⟩, prog_3_method_7_code, 6, (some .boolean), false, 3)
def m_X2_run : Mth := (2, ⟨"SeesawPark$Queue", "run", "(I)V"⟩, prog_4_method_2_code, 4, none, false, 1)
def m_X2_letOff : Mth := (2, ⟨"SeesawPark$Queue", "letOff", "(I)V"⟩, prog_4_method_3_code, 4, none, false, 1)
def m_X2_wantsMore : Mth := (2, ⟨"SeesawPark$Queue", "wantsMore", "(I)Z"⟩, prog_4_method_4_code, 2, (some .boolean), false, 1)
def m_X2_letOn : Mth := (2, ⟨"SeesawPark$Queue", "letOn", "(I)V"⟩, prog_4_method_5_code, 4, none, false, 1)
def m_X2_rideOn : Mth := (2, ⟨"SeesawPark$Queue", "rideOn", "()V"⟩, prog_4_method_6_code, 2, none, false, 0)
def m_X2_joinRow : Mth := (2, ⟨"SeesawPark$Queue", "joinRow", "(I)V"⟩, prog_4_method_7_code, 2, none, false, 1)
def m_X2_leaveRow : Mth := (2, ⟨"SeesawPark$Queue", "leaveRow", "(I)V"⟩, prog_4_method_8_code, 3, none, false, 1)
def m_X3_forget : Mth := (3, ⟨"SeesawPark$Roster", "forget", "()V"⟩, prog_5_method_2_code, 1, none, false, 0)
def m_X3_copyFrom : Mth := (3, ⟨"SeesawPark$Roster", "copyFrom", "(LSeesawPark$Roster;)V"⟩, prog_5_method_3_code, 2, none, false, 1)
def m_X3_hasPlank : Mth := (3, ⟨"SeesawPark$Roster", "hasPlank", "(I)Z"⟩, prog_5_method_4_code, 2, (some .boolean), false, 1)
def m_X3_hasChild : Mth := (3, ⟨"SeesawPark$Roster", "hasChild", "(I)Z"⟩, prog_5_method_5_code, 2, (some .boolean), false, 1)
def m_X3_hasStone : Mth := (3, ⟨"SeesawPark$Roster", "hasStone", "(I)Z"⟩, prog_5_method_6_code, 2, (some .boolean), false, 1)
def m_X3_hasSeat : Mth := (3, ⟨"SeesawPark$Roster", "hasSeat", "(II)Z"⟩, prog_5_method_7_code, 3, (some .boolean), false, 2)
def m_X3_allChildren : Mth := (3, ⟨"SeesawPark$Roster", "allChildren", "()I"⟩, prog_5_method_8_code, 1, (some .int), false, 0)
def m_X3_fits : Mth := (3, ⟨"SeesawPark$Roster", "fits", "(III)Z"⟩, prog_5_method_9_code, 4, (some .boolean), false, 3)
def m_X4_reset : Mth := (4, ⟨"SeesawPark$Scene", "reset", "()V"⟩, prog_6_method_2_code, 2, none, false, 0)
def m_X4_copyFrom : Mth := (4, ⟨"SeesawPark$Scene", "copyFrom", "(LSeesawPark$Scene;)V"⟩, prog_6_method_3_code, 2, none, false, 1)
def m_X4_hasChildAt : Mth := (4, ⟨"SeesawPark$Scene", "hasChildAt", "(II)Z"⟩, prog_6_method_4_code, 4, (some .boolean), false, 2)
def m_X4_hasStoneAt : Mth := (4, ⟨"SeesawPark$Scene", "hasStoneAt", "(II)Z"⟩, prog_6_method_5_code, 4, (some .boolean), false, 2)
def m_X4_childrenOn : Mth := (4, ⟨"SeesawPark$Scene", "childrenOn", "(I)I"⟩, prog_6_method_6_code, 4, (some .int), false, 1)
def m_X4_idleChildren : Mth := (4, ⟨"SeesawPark$Scene", "idleChildren", "()I"⟩, prog_6_method_7_code, 3, (some .int), false, 0)
def m_X4_idleStones : Mth := (4, ⟨"SeesawPark$Scene", "idleStones", "()I"⟩, prog_6_method_8_code, 3, (some .int), false, 0)
def m_X4_seatedChildren : Mth := (4, ⟨"SeesawPark$Scene", "seatedChildren", "()I"⟩, prog_6_method_9_code, 1, (some .int), false, 0)
def m_X4_stoneMoment : Mth := (4, ⟨"SeesawPark$Scene", "stoneMoment", "(I)I"⟩, prog_6_method_10_code, 4, (some .int), false, 1)
def m_X4_moment : Mth := (4, ⟨"SeesawPark$Scene", "moment", "(I)I"⟩, prog_6_method_11_code, 4, (some .int), false, 1)
def m_X4_tilt : Mth := (4, ⟨"SeesawPark$Scene", "tilt", "(I)I"⟩, prog_6_method_12_code, 3, (some .int), false, 1)
def m_X4_seatChild : Mth := (4, ⟨"SeesawPark$Scene", "seatChild", "(III)I"⟩, prog_6_method_13_code, 5, (some .int), false, 3)
def m_X4_unseatChild : Mth := (4, ⟨"SeesawPark$Scene", "unseatChild", "(I)I"⟩, prog_6_method_14_code, 4, (some .int), false, 1)
def m_X4_putStone : Mth := (4, ⟨"SeesawPark$Scene", "putStone", "(III)I"⟩, prog_6_method_15_code, 5, (some .int), false, 3)
def m_X4_liftStone : Mth := (4, ⟨"SeesawPark$Scene", "liftStone", "(I)I"⟩, prog_6_method_16_code, 4, (some .int), false, 1)
def m_X4_settle : Mth := (4, ⟨"SeesawPark$Scene", "settle", "(II)I"⟩, prog_6_method_17_code, 6, (some .int), false, 2)
def m_X5_begin : Mth := (5, ⟨"SeesawPark$Seating", "begin", "(II)V"⟩, prog_7_method_2_code, 3, none, false, 2)
def m_X5_addSeat : Mth := (5, ⟨"SeesawPark$Seating", "addSeat", "(I)V"⟩, prog_7_method_3_code, 2, none, false, 1)
def m_X5_addBody : Mth := (5, ⟨"SeesawPark$Seating", "addBody", "(II)V"⟩, prog_7_method_4_code, 3, none, false, 2)
def m_X5_chosenStep : Mth := (5, ⟨"SeesawPark$Seating", "chosenStep", "(I)I"⟩, prog_7_method_5_code, 2, (some .int), false, 1)
def m_X5_countWays : Mth := (5, ⟨"SeesawPark$Seating", "countWays", "()I"⟩, prog_7_method_6_code, 1, (some .int), false, 0)
def m_X5_findFirst : Mth := (5, ⟨"SeesawPark$Seating", "findFirst", "()Z"⟩, prog_7_method_7_code, 1, (some .boolean), false, 0)
def m_X5_fewestChanges : Mth := (5, ⟨"SeesawPark$Seating", "fewestChanges", "()I"⟩, prog_7_method_8_code, 1, (some .int), false, 0)
def m_X5_measureReach : Mth := (5, ⟨"SeesawPark$Seating", "measureReach", "()V"⟩, prog_7_method_9_code, 2, none, false, 0)
def m_X5_isHopeless : Mth := (5, ⟨"SeesawPark$Seating", "isHopeless", "(II)Z"⟩, prog_7_method_10_code, 3, (some .boolean), false, 2)
def m_X5_countFrom : Mth := (5, ⟨"SeesawPark$Seating", "countFrom", "(III)I"⟩, prog_7_method_11_code, 6, (some .int), false, 3)
def m_X5_findFrom : Mth := (5, ⟨"SeesawPark$Seating", "findFrom", "(III)Z"⟩, prog_7_method_12_code, 5, (some .boolean), false, 3)
def m_X5_changeFrom : Mth := (5, ⟨"SeesawPark$Seating", "changeFrom", "(IIII)V"⟩, prog_7_method_13_code, 7, none, false, 4)
def m_X6_append : Mth := (6, ⟨"SeesawPark$Told", "append", "(I)V"⟩, prog_8_method_2_code, 2, none, false, 1)
def m_X6_readAll : Mth := (6, ⟨"SeesawPark$Told", "readAll", "()I"⟩, prog_8_method_3_code, 3, (some .int), false, 0)
def m_X6_readPlank : Mth := (6, ⟨"SeesawPark$Told", "readPlank", "()Z"⟩, prog_8_method_4_code, 2, (some .boolean), false, 0)
def m_X6_readChild : Mth := (6, ⟨"SeesawPark$Told", "readChild", "()Z"⟩, prog_8_method_5_code, 2, (some .boolean), false, 0)
def m_X6_readStone : Mth := (6, ⟨"SeesawPark$Told", "readStone", "()Z"⟩, prog_8_method_6_code, 2, (some .boolean), false, 0)
def m_X6_readNumber : Mth := (6, ⟨"SeesawPark$Told", "readNumber", "(II)Z"⟩, prog_8_method_7_code, 3, (some .boolean), false, 2)
def m_X6_readSemicolon : Mth := (6, ⟨"SeesawPark$Told", "readSemicolon", "()Z"⟩, prog_8_method_8_code, 1, (some .boolean), false, 0)
def m_X6_readToken : Mth := (6, ⟨"SeesawPark$Told", "readToken", "()V"⟩, prog_8_method_9_code, 2, none, false, 0)
def m_X6_readWord : Mth := (6, ⟨"SeesawPark$Told", "readWord", "()V"⟩, prog_8_method_10_code, 1, none, false, 0)
def m_X6_spells : Mth := (6, ⟨"SeesawPark$Told", "spells", "(Ljava/lang/String;)Z"⟩, prog_8_method_11_code, 3, (some .boolean), false, 1)
def m_X6_readDigits : Mth := (6, ⟨"SeesawPark$Told", "readDigits", "()V"⟩, prog_8_method_12_code, 2, none, false, 0)
def m_X6_isLetter : Mth := (6, ⟨"SeesawPark$Told", "isLetter", "(I)Z"⟩, prog_8_method_13_code, 1, (some .boolean), true, 1)
def m_X6_isDigit : Mth := (6, ⟨"SeesawPark$Told", "isDigit", "(I)Z"⟩, prog_8_method_14_code, 1, (some .boolean), true, 1)
def m_X7_begin : Mth := (7, ⟨"SeesawPark$Weighing", "begin", "(I)V"⟩, prog_9_method_2_code, 2, none, false, 1)
def m_X7_hasStranger : Mth := (7, ⟨"SeesawPark$Weighing", "hasStranger", "(I)Z"⟩, prog_9_method_3_code, 2, (some .boolean), false, 1)
def m_X7_addTrial : Mth := (7, ⟨"SeesawPark$Weighing", "addTrial", "(III)V"⟩, prog_9_method_4_code, 4, none, false, 3)
def m_X7_fitting : Mth := (7, ⟨"SeesawPark$Weighing", "fitting", "()I"⟩, prog_9_method_5_code, 1, (some .int), false, 0)
def m_X7_fittingWith : Mth := (7, ⟨"SeesawPark$Weighing", "fittingWith", "(II)I"⟩, prog_9_method_6_code, 3, (some .int), false, 2)
def m_X7_onlyWeight : Mth := (7, ⟨"SeesawPark$Weighing", "onlyWeight", "(I)I"⟩, prog_9_method_7_code, 4, (some .int), false, 1)
def m_X7_bestPair : Mth := (7, ⟨"SeesawPark$Weighing", "bestPair", "()I"⟩, prog_9_method_8_code, 4, (some .int), false, 0)
def m_X7_leftAtWorst : Mth := (7, ⟨"SeesawPark$Weighing", "leftAtWorst", "(II)I"⟩, prog_9_method_9_code, 4, (some .int), false, 2)
def m_X7_outcomeCell : Mth := (7, ⟨"SeesawPark$Weighing", "outcomeCell", "(III)I"⟩, prog_9_method_10_code, 3, (some .int), true, 3)
def m_X7_survey : Mth := (7, ⟨"SeesawPark$Weighing", "survey", "()V"⟩, prog_9_method_11_code, 1, none, false, 0)
def m_X7_guessFrom : Mth := (7, ⟨"SeesawPark$Weighing", "guessFrom", "(I)V"⟩, prog_9_method_12_code, 3, none, false, 1)
def m_X7_guessFits : Mth := (7, ⟨"SeesawPark$Weighing", "guessFits", "()Z"⟩, prog_9_method_13_code, 2, (some .boolean), false, 0)
def m_X7_tally : Mth := (7, ⟨"SeesawPark$Weighing", "tally", "()V"⟩, prog_9_method_14_code, 3, none, false, 0)
def m_X8_type : Mth := (8, ⟨"SeesawPark", "type", "(JI)I"⟩, prog_1_method_2_code, 5, (some .int), false, 2)
def m_X8_clear : Mth := (8, ⟨"SeesawPark", "clear", "()I"⟩, prog_1_method_3_code, 2, (some .int), false, 0)
def m_X8_park : Mth := (8, ⟨"SeesawPark", "park", "()I"⟩, prog_1_method_4_code, 2, (some .int), false, 0)
def m_X8_plank : Mth := (8, ⟨"SeesawPark", "plank", "(II)I"⟩, prog_1_method_5_code, 3, (some .int), false, 2)
def m_X8_child : Mth := (8, ⟨"SeesawPark", "child", "(II)I"⟩, prog_1_method_6_code, 3, (some .int), false, 2)
def m_X8_stone : Mth := (8, ⟨"SeesawPark", "stone", "(II)I"⟩, prog_1_method_7_code, 3, (some .int), false, 2)
def m_X8_sits : Mth := (8, ⟨"SeesawPark", "sits", "(III)I"⟩, prog_1_method_8_code, 5, (some .int), false, 3)
def m_X8_leaves : Mth := (8, ⟨"SeesawPark", "leaves", "(I)I"⟩, prog_1_method_9_code, 2, (some .int), false, 1)
def m_X8_lay : Mth := (8, ⟨"SeesawPark", "lay", "(III)I"⟩, prog_1_method_10_code, 5, (some .int), false, 3)
def m_X8_take : Mth := (8, ⟨"SeesawPark", "take", "(I)I"⟩, prog_1_method_11_code, 2, (some .int), false, 1)
def m_X8_ways : Mth := (8, ⟨"SeesawPark", "ways", "(III)I"⟩, prog_1_method_12_code, 5, (some .int), false, 3)
def m_X8_most : Mth := (8, ⟨"SeesawPark", "most", "(II)I"⟩, prog_1_method_13_code, 4, (some .int), false, 2)
def m_X8_moves : Mth := (8, ⟨"SeesawPark", "moves", "(I)I"⟩, prog_1_method_14_code, 3, (some .int), false, 1)
def m_X8_ballast : Mth := (8, ⟨"SeesawPark", "ballast", "(II)I"⟩, prog_1_method_15_code, 3, (some .int), false, 2)
def m_X8_game : Mth := (8, ⟨"SeesawPark", "game", "(II)I"⟩, prog_1_method_16_code, 5, (some .int), false, 2)
def m_X8_strangers : Mth := (8, ⟨"SeesawPark", "strangers", "(I)I"⟩, prog_1_method_17_code, 3, (some .int), false, 1)
def m_X8_trial : Mth := (8, ⟨"SeesawPark", "trial", "(III)I"⟩, prog_1_method_18_code, 4, (some .int), false, 3)
def m_X8_could : Mth := (8, ⟨"SeesawPark", "could", "(II)I"⟩, prog_1_method_19_code, 3, (some .int), false, 2)
def m_X8_sure : Mth := (8, ⟨"SeesawPark", "sure", "(I)I"⟩, prog_1_method_20_code, 3, (some .int), false, 1)
def m_X8_next : Mth := (8, ⟨"SeesawPark", "next", "(I)I"⟩, prog_1_method_21_code, 3, (some .int), false, 1)
def m_X8_rides : Mth := (8, ⟨"SeesawPark", "rides", "(II)I"⟩, prog_1_method_22_code, 3, (some .int), false, 2)
def m_X8_forever : Mth := (8, ⟨"SeesawPark", "forever", "()I"⟩, prog_1_method_23_code, 3, (some .int), false, 0)
def m_X8_rate : Mth := (8, ⟨"SeesawPark", "rate", "(II)I"⟩, prog_1_method_24_code, 3, (some .int), false, 2)
def m_X8_keep : Mth := (8, ⟨"SeesawPark", "keep", "(I)I"⟩, prog_1_method_25_code, 3, (some .int), false, 1)
def m_X8_back : Mth := (8, ⟨"SeesawPark", "back", "(I)I"⟩, prog_1_method_26_code, 3, (some .int), false, 1)
def m_X8_count : Mth := (8, ⟨"SeesawPark", "count", "(I)I"⟩, prog_1_method_27_code, 2, (some .int), false, 1)
def m_X8_trace : Mth := (8, ⟨"SeesawPark", "trace", "()J"⟩, prog_1_method_28_code, 1, (some .long), false, 0)
def m_X8_isZeroOrOne : Mth := (8, ⟨"SeesawPark", "isZeroOrOne", "(I)Z"⟩, prog_1_method_29_code, 1, (some .boolean), true, 1)
def m_X8_stepOfSeat : Mth := (8, ⟨"SeesawPark", "stepOfSeat", "(II)I"⟩, prog_1_method_30_code, 2, (some .int), true, 2)
def m_X8_countOrSet : Mth := (8, ⟨"SeesawPark", "countOrSet", "(II)I"⟩, prog_1_method_31_code, 2, (some .int), true, 2)
def m_X8_imageOf : Mth := (8, ⟨"SeesawPark", "imageOf", "(I)LSeesawPark$Scene;"⟩, prog_1_method_32_code, 2, (some (.object "SeesawPark$Scene")), false, 1)
def m_X8_askWays : Mth := (8, ⟨"SeesawPark", "askWays", "(II)V"⟩, prog_1_method_33_code, 5, none, false, 2)
def m_X8_leastBallast : Mth := (8, ⟨"SeesawPark", "leastBallast", "(I)I"⟩, prog_1_method_34_code, 5, (some .int), false, 1)
def m_X8_canBallast : Mth := (8, ⟨"SeesawPark", "canBallast", "(II)Z"⟩, prog_1_method_35_code, 6, (some .boolean), false, 2)
def m_X8_hasPartner : Mth := (8, ⟨"SeesawPark", "hasPartner", "(I)Z"⟩, prog_1_method_36_code, 4, (some .boolean), false, 1)
def m_X8_rateAs : Mth := (8, ⟨"SeesawPark", "rateAs", "(III)I"⟩, prog_1_method_37_code, 5, (some .int), false, 3)
def m_X9_in : Mth := (9, ⟨"SeesawParkModel", "in", "(III)Z"⟩, prog_11_method_3_code, 3, (some .boolean), true, 3)
def m_X9_size : Mth := (9, ⟨"SeesawParkModel", "size", "(I)I"⟩, prog_11_method_4_code, 1, (some .int), true, 1)
def m_X9_type : Mth := (9, ⟨"SeesawParkModel", "type", "(JI)I"⟩, prog_11_method_5_code, 5, (some .int), false, 2)
def m_X9_clear : Mth := (9, ⟨"SeesawParkModel", "clear", "()I"⟩, prog_11_method_6_code, 2, (some .int), false, 0)
def m_X9_byteAt : Mth := (9, ⟨"SeesawParkModel", "byteAt", "(I)I"⟩, prog_11_method_7_code, 2, (some .int), false, 1)
def m_X9_add : Mth := (9, ⟨"SeesawParkModel", "add", "(JI)J"⟩, prog_11_method_8_code, 3, (some .long), true, 2)
def m_X9_named : Mth := (9, ⟨"SeesawParkModel", "named", "(IIIII)J"⟩, prog_11_method_9_code, 5, (some .long), true, 5)
def m_X9_wordOf : Mth := (9, ⟨"SeesawParkModel", "wordOf", "(J)I"⟩, prog_11_method_10_code, 2, (some .int), true, 1)
def m_X9_advances : Mth := (9, ⟨"SeesawParkModel", "advances", "()V"⟩, prog_11_method_11_code, 4, none, false, 0)
def m_X9_isWell : Mth := (9, ⟨"SeesawParkModel", "isWell", "()Z"⟩, prog_11_method_12_code, 1, (some .boolean), false, 0)
def m_X9_takes : Mth := (9, ⟨"SeesawParkModel", "takes", "(Z)I"⟩, prog_11_method_13_code, 3, (some .int), false, 1)
def m_X9_number : Mth := (9, ⟨"SeesawParkModel", "number", "(II)I"⟩, prog_11_method_14_code, 3, (some .int), false, 2)
def m_X9_readsItem : Mth := (9, ⟨"SeesawParkModel", "readsItem", "(I)V"⟩, prog_11_method_15_code, 2, none, false, 1)
def m_X9_park : Mth := (9, ⟨"SeesawParkModel", "park", "()I"⟩, prog_11_method_16_code, 3, (some .int), false, 0)
def m_X9_begins : Mth := (9, ⟨"SeesawParkModel", "begins", "()V"⟩, prog_11_method_17_code, 2, none, false, 0)
def m_X9_isPlank : Mth := (9, ⟨"SeesawParkModel", "isPlank", "(I)Z"⟩, prog_11_method_18_code, 2, (some .boolean), false, 1)
def m_X9_isChild : Mth := (9, ⟨"SeesawParkModel", "isChild", "(I)Z"⟩, prog_11_method_19_code, 2, (some .boolean), false, 1)
def m_X9_isStone : Mth := (9, ⟨"SeesawParkModel", "isStone", "(I)Z"⟩, prog_11_method_20_code, 2, (some .boolean), false, 1)
def m_X9_stonesOn : Mth := (9, ⟨"SeesawParkModel", "stonesOn", "(I)I"⟩, prog_11_method_21_code, 4, (some .int), false, 1)
def m_X9_momentOf : Mth := (9, ⟨"SeesawParkModel", "momentOf", "(I)I"⟩, prog_11_method_22_code, 4, (some .int), false, 1)
def m_X9_tiltBy : Mth := (9, ⟨"SeesawParkModel", "tiltBy", "(II)I"⟩, prog_11_method_23_code, 3, (some .int), false, 2)
def m_X9_tiltOf : Mth := (9, ⟨"SeesawParkModel", "tiltOf", "(I)I"⟩, prog_11_method_24_code, 2, (some .int), false, 1)
def m_X9_sittingOn : Mth := (9, ⟨"SeesawParkModel", "sittingOn", "(I)I"⟩, prog_11_method_25_code, 4, (some .int), false, 1)
def m_X9_plank : Mth := (9, ⟨"SeesawParkModel", "plank", "(II)I"⟩, prog_11_method_26_code, 3, (some .int), false, 2)
def m_X9_child : Mth := (9, ⟨"SeesawParkModel", "child", "(II)I"⟩, prog_11_method_27_code, 3, (some .int), false, 2)
def m_X9_stone : Mth := (9, ⟨"SeesawParkModel", "stone", "(II)I"⟩, prog_11_method_28_code, 3, (some .int), false, 2)
def m_X9_bumps : Mth := (9, ⟨"SeesawParkModel", "bumps", "(II)I"⟩, prog_11_method_29_code, 7, (some .int), false, 2)
def m_X9_goes : Mth := (9, ⟨"SeesawParkModel", "goes", "(II)I"⟩, prog_11_method_30_code, 5, (some .int), false, 2)
def m_X9_comes : Mth := (9, ⟨"SeesawParkModel", "comes", "(IIII)I"⟩, prog_11_method_31_code, 6, (some .int), false, 4)
def m_X9_sits : Mth := (9, ⟨"SeesawParkModel", "sits", "(III)I"⟩, prog_11_method_32_code, 5, (some .int), false, 3)
def m_X9_leaves : Mth := (9, ⟨"SeesawParkModel", "leaves", "(I)I"⟩, prog_11_method_33_code, 2, (some .int), false, 1)
def m_X9_lay : Mth := (9, ⟨"SeesawParkModel", "lay", "(III)I"⟩, prog_11_method_34_code, 5, (some .int), false, 3)
def m_X9_take : Mth := (9, ⟨"SeesawParkModel", "take", "(I)I"⟩, prog_11_method_35_code, 2, (some .int), false, 1)
def m_X9_stepOf : Mth := (9, ⟨"SeesawParkModel", "stepOf", "(II)I"⟩, prog_11_method_36_code, 3, (some .int), false, 2)
def m_X9_seats : Mth := (9, ⟨"SeesawParkModel", "seats", "(I)V"⟩, prog_11_method_37_code, 3, none, false, 1)
def m_X9_freeSeat : Mth := (9, ⟨"SeesawParkModel", "freeSeat", "(II)I"⟩, prog_11_method_38_code, 6, (some .int), false, 2)
def m_X9_waysOf : Mth := (9, ⟨"SeesawParkModel", "waysOf", "(III)I"⟩, prog_11_method_39_code, 9, (some .int), false, 3)
def m_X9_all : Mth := (9, ⟨"SeesawParkModel", "all", "()I"⟩, prog_11_method_40_code, 1, (some .int), false, 0)
def m_X9_ways : Mth := (9, ⟨"SeesawParkModel", "ways", "(III)I"⟩, prog_11_method_41_code, 7, (some .int), false, 3)
def m_X9_ones : Mth := (9, ⟨"SeesawParkModel", "ones", "(I)I"⟩, prog_11_method_42_code, 3, (some .int), true, 1)
def m_X9_most : Mth := (9, ⟨"SeesawParkModel", "most", "(II)I"⟩, prog_11_method_43_code, 6, (some .int), false, 2)
def m_X9_moves : Mth := (9, ⟨"SeesawParkModel", "moves", "(I)I"⟩, prog_11_method_44_code, 10, (some .int), false, 1)
def m_X9_hasStone : Mth := (9, ⟨"SeesawParkModel", "hasStone", "(II)Z"⟩, prog_11_method_45_code, 5, (some .boolean), false, 2)
def m_X9_levels : Mth := (9, ⟨"SeesawParkModel", "levels", "(II)Z"⟩, prog_11_method_46_code, 8, (some .boolean), false, 2)
def m_X9_ballast : Mth := (9, ⟨"SeesawParkModel", "ballast", "(II)I"⟩, prog_11_method_47_code, 7, (some .int), false, 2)
def m_X9_isTaken : Mth := (9, ⟨"SeesawParkModel", "isTaken", "(II)Z"⟩, prog_11_method_48_code, 5, (some .boolean), false, 2)
def m_X9_mayPut : Mth := (9, ⟨"SeesawParkModel", "mayPut", "(IIIIII)Z"⟩, prog_11_method_49_code, 8, (some .boolean), false, 6)
def m_X9_lastMove : Mth := (9, ⟨"SeesawParkModel", "lastMove", "(IIII)I"⟩, prog_11_method_50_code, 7, (some .int), false, 4)
def m_X9_twoMoves : Mth := (9, ⟨"SeesawParkModel", "twoMoves", "(IIII)I"⟩, prog_11_method_51_code, 7, (some .int), false, 4)
def m_X9_threeMoves : Mth := (9, ⟨"SeesawParkModel", "threeMoves", "(IIII)I"⟩, prog_11_method_52_code, 7, (some .int), false, 4)
def m_X9_fourMoves : Mth := (9, ⟨"SeesawParkModel", "fourMoves", "(II)I"⟩, prog_11_method_53_code, 5, (some .int), false, 2)
def m_X9_game : Mth := (9, ⟨"SeesawParkModel", "game", "(II)I"⟩, prog_11_method_54_code, 6, (some .int), false, 2)
def m_X9_strangers : Mth := (9, ⟨"SeesawParkModel", "strangers", "(I)I"⟩, prog_11_method_55_code, 3, (some .int), false, 1)
def m_X9_isStranger : Mth := (9, ⟨"SeesawParkModel", "isStranger", "(I)Z"⟩, prog_11_method_56_code, 2, (some .boolean), false, 1)
def m_X9_trial : Mth := (9, ⟨"SeesawParkModel", "trial", "(III)I"⟩, prog_11_method_57_code, 4, (some .int), false, 3)
def m_X9_weightIn : Mth := (9, ⟨"SeesawParkModel", "weightIn", "(II)I"⟩, prog_11_method_58_code, 4, (some .int), true, 2)
def m_X9_weighs : Mth := (9, ⟨"SeesawParkModel", "weighs", "(III)I"⟩, prog_11_method_59_code, 4, (some .int), true, 3)
def m_X9_allWays : Mth := (9, ⟨"SeesawParkModel", "allWays", "()I"⟩, prog_11_method_60_code, 3, (some .int), false, 0)
def m_X9_fits : Mth := (9, ⟨"SeesawParkModel", "fits", "(I)Z"⟩, prog_11_method_61_code, 4, (some .boolean), false, 1)
def m_X9_couldBe : Mth := (9, ⟨"SeesawParkModel", "couldBe", "(II)I"⟩, prog_11_method_62_code, 5, (some .int), false, 2)
def m_X9_could : Mth := (9, ⟨"SeesawParkModel", "could", "(II)I"⟩, prog_11_method_63_code, 3, (some .int), false, 2)
def m_X9_sure : Mth := (9, ⟨"SeesawParkModel", "sure", "(I)I"⟩, prog_11_method_64_code, 5, (some .int), false, 1)
def m_X9_next : Mth := (9, ⟨"SeesawParkModel", "next", "(I)I"⟩, prog_11_method_65_code, 10, (some .int), false, 1)
def m_X9_areAPair : Mth := (9, ⟨"SeesawParkModel", "areAPair", "(III)Z"⟩, prog_11_method_66_code, 4, (some .boolean), false, 3)
def m_X9_waits : Mth := (9, ⟨"SeesawParkModel", "waits", "(I)V"⟩, prog_11_method_67_code, 2, none, false, 1)
def m_X9_letsOff : Mth := (9, ⟨"SeesawParkModel", "letsOff", "(I)V"⟩, prog_11_method_68_code, 4, none, false, 1)
def m_X9_lesser : Mth := (9, ⟨"SeesawParkModel", "lesser", "(II)I"⟩, prog_11_method_69_code, 2, (some .int), true, 2)
def m_X9_outOfRow : Mth := (9, ⟨"SeesawParkModel", "outOfRow", "(I)V"⟩, prog_11_method_70_code, 3, none, false, 1)
def m_X9_takesOn : Mth := (9, ⟨"SeesawParkModel", "takesOn", "(II)V"⟩, prog_11_method_71_code, 5, none, false, 2)
def m_X9_goesBy : Mth := (9, ⟨"SeesawParkModel", "goesBy", "(I)V"⟩, prog_11_method_72_code, 4, none, false, 1)
def m_X9_rides : Mth := (9, ⟨"SeesawParkModel", "rides", "(II)I"⟩, prog_11_method_73_code, 3, (some .int), false, 2)
def m_X9_forever : Mth := (9, ⟨"SeesawParkModel", "forever", "()I"⟩, prog_11_method_74_code, 6, (some .int), false, 0)
def m_X9_rate : Mth := (9, ⟨"SeesawParkModel", "rate", "(II)I"⟩, prog_11_method_75_code, 5, (some .int), false, 2)
def m_X9_sitting : Mth := (9, ⟨"SeesawParkModel", "sitting", "()I"⟩, prog_11_method_76_code, 3, (some .int), false, 0)
def m_X9_keep : Mth := (9, ⟨"SeesawParkModel", "keep", "(I)I"⟩, prog_11_method_77_code, 3, (some .int), false, 1)
def m_X9_back : Mth := (9, ⟨"SeesawParkModel", "back", "(I)I"⟩, prog_11_method_78_code, 3, (some .int), false, 1)
def m_X9_count : Mth := (9, ⟨"SeesawParkModel", "count", "(I)I"⟩, prog_11_method_79_code, 2, (some .int), false, 1)
def m_X9_trace : Mth := (9, ⟨"SeesawParkModel", "trace", "()J"⟩, prog_11_method_80_code, 1, (some .long), false, 0)
def m_J6_bitCount_0f7a4 : Mth := (10, ⟨"java/lang/Integer", "bitCount", "(I)I"⟩, prog_12_method_49_code, 1, (some .int), true, 1)
def m_J6_signum_0f7a4 : Mth := (10, ⟨"java/lang/Integer", "signum", "(I)I"⟩, prog_12_method_56_code, 1, (some .int), true, 1)
def m_J0_length_8abf5 : Mth := (13, ⟨"java/lang/String", "length", "()I"⟩, prog_14_method_54_code, 1, (some .int), false, 0)
def m_J0_charAt_5068e : Mth := (13, ⟨"java/lang/String", "charAt", "(I)C"⟩, prog_14_method_56_code, 2, (some .char), false, 1)
def m_J0_coder_7d493 : Mth := (13, ⟨"java/lang/String", "coder", "()B"⟩, prog_14_method_152_code, 1, (some .byte), false, 0)
def m_J0_isLatin1_aae02 : Mth := (13, ⟨"java/lang/String", "isLatin1", "()Z"⟩, prog_14_method_154_code, 1, (some .boolean), false, 0)
def m_J0_checkIndex_df160 : Mth := (13, ⟨"java/lang/String", "checkIndex", "(II)V"⟩, prog_14_method_155_code, 2, none, true, 2)
def m_J1_charAt_3b067 : Mth := (14, ⟨"java/lang/StringLatin1", "charAt", "([BI)C"⟩, prog_15_method_2_code, 2, (some .char), true, 2)
def m_J7_fill_53178 : Mth := (12, ⟨"java/util/Arrays", "fill", "([II)V"⟩, prog_18_method_103_code, 4, none, true, 2)
def m_J3_checkIndex_8e157 : Mth := (15, ⟨"jdk/internal/util/Preconditions", "checkIndex", "(IILjava/util/function/BiFunction;)I"⟩, prog_19_method_11_code, 3, (some .int), true, 3)
abbrev Shp : Type := (Nat × Nat) ⊕ (Nat × List (Nat × Nat))
def shp : List Shp := [.inr (8, [(2, 1), (2, 7), (2, 13), (2, 19), (2, 25), (2, 33), (2, 39), (2, 41), (2, 44), (2, 51), (1, 0)]), .inr (3, [(2, 2), (2, 3), (2, 4), (2, 5), (2, 6), (0, 0), (0, 0), (0, 0)]), .inl (0, 3), .inl (0, 3), .inl (0, 8), .inl (0, 8), .inl (0, 5), .inr (4, [(2, 1), (2, 8), (2, 9), (2, 10), (2, 11), (2, 12), (3, 0)]), .inl (0, 8), .inl (0, 8), .inl (0, 8), .inl (0, 5), .inl (0, 5), .inr (4, [(2, 1), (2, 14), (2, 15), (2, 16), (2, 17), (2, 18), (3, 0)]), .inl (0, 8), .inl (0, 8), .inl (0, 8), .inl (0, 5), .inl (0, 5), .inr (4, [(2, 1), (2, 20), (2, 21), (2, 22), (2, 23), (2, 24), (3, 0)]), .inl (0, 8), .inl (0, 8), .inl (0, 8), .inl (0, 5), .inl (0, 5), .inr (6, [(2, 26), (2, 32), (0, 0), (0, 0), (0, 0), (0, 0), (0, 0)]), .inr (3, [(2, 27), (2, 28), (2, 29), (2, 30), (2, 31), (0, 0), (0, 0), (0, 0)]), .inl (0, 3), .inl (0, 3), .inl (0, 8), .inl (0, 8), .inl (0, 5), .inl (0, 300), .inr (5, [(2, 34), (2, 35), (2, 36), (2, 37), (2, 38), (0, 0), (0, 0), (0, 0), (0, 0), (0, 0)]), .inl (0, 8), .inl (0, 8), .inl (0, 8), .inl (0, 8), .inl (0, 9), .inr (1, [(2, 40)]), .inl (2, 4864), .inr (0, [(2, 42), (2, 43), (0, 0), (0, 0), (0, 0)]), .inl (0, 8), .inl (0, 8), .inr (7, [(2, 45), (2, 46), (2, 47), (2, 48), (2, 49), (2, 50), (0, 0), (0, 0), (0, 0), (3, 0)]), .inl (0, 12), .inl (0, 12), .inl (0, 12), .inl (0, 5), .inl (0, 35), .inl (0, 75), .inr (2, [(2, 1), (2, 52), (2, 53), (2, 54), (2, 55), (0, 0)]), .inl (0, 8), .inl (0, 8), .inl (0, 3), .inl (0, 3), .inr (9, [(0, 0), (1, 0), (2, 57), (0, 0), (0, 0), (0, 0), (0, 0), (0, 0), (0, 0), (2, 58), (2, 59), (2, 60), (2, 61), (2, 62), (0, 0), (0, 0), (0, 0), (0, 0), (0, 0), (0, 0), (2, 63), (2, 64), (2, 65), (2, 66), (0, 0), (2, 67), (2, 68), (0, 0), (2, 69), (0, 0), (2, 70), (2, 71), (0, 0), (2, 72), (2, 73), (2, 74)]), .inl (0, 300), .inl (0, 6), .inl (0, 6), .inl (0, 16), .inl (0, 16), .inl (0, 10), .inl (0, 34), .inl (0, 68), .inl (1, 2), .inl (0, 8), .inl (0, 8), .inl (0, 8), .inl (0, 36), .inl (0, 8), .inl (0, 8), .inl (0, 3), .inl (0, 3), .inl (0, 3)]
def m_copy : Mth := (16, arraycopyName, ⟨#[]⟩, 0, none, true, 5)
def cll0 : List (Nat × Mth × Nat) := [(28, m_copy, 3), (45, m_X8_stepOfSeat, 2), (49, m_X4_hasChildAt, 0), (55, m_X0_moveFrom, 0), (59, m_copy, 4)]
def cll1 : List (Nat × Mth × Nat) := [(27, m_X8_stepOfSeat, 2), (31, m_X1_addSeatOf, 0), (38, m_X1_mergeShifted, 0), (42, m_X1_wordAt, 0), (46, m_J6_bitCount_0f7a4, 1), (52, m_X1_canLevel, 0)]
def cll2 : List (Nat × Mth × Nat) := [(37, m_X2_joinRow, 0), (44, m_X2_letOff, 0), (47, m_X2_letOn, 0), (50, m_X2_rideOn, 0), (53, m_X2_wantsMore, 0), (60, m_X3_fits, 0), (64, m_X2_leaveRow, 0)]
def cll3 : List (Nat × Mth × Nat) := [(37, m_copy, 3), (43, m_X3_hasPlank, 0), (47, m_copy, 4)]
def cll4 : List (Nat × Mth × Nat) := [(31, m_copy, 3), (46, m_X4_idleChildren, 0), (50, m_J6_bitCount_0f7a4, 1), (59, m_X4_stoneMoment, 0), (65, m_X4_moment, 0), (68, m_copy, 4), (76, m_X4_tilt, 0), (79, m_X4_settle, 0), (83, m_J6_signum_0f7a4, 1)]
def cll5 : List (Nat × Mth × Nat) := [(40, m_X5_measureReach, 0), (43, m_X5_countFrom, 0), (47, m_X5_findFrom, 0), (54, m_X5_changeFrom, 0), (58, m_copy, 4), (64, m_X5_isHopeless, 0)]
def cll6 : List (Nat × Mth × Nat) := [(26, m_X3_forget, 0), (32, m_X6_readToken, 0), (38, m_X6_readPlank, 0), (42, m_X6_readChild, 0), (45, m_X6_readStone, 0), (51, m_X6_readNumber, 0), (64, m_X6_readSemicolon, 0), (85, m_X6_isLetter, 1), (89, m_X6_readWord, 0), (92, m_X6_isDigit, 1), (95, m_X6_readDigits, 0), (100, m_X6_spells, 0), (108, m_J0_length_8abf5, 0), (113, m_J0_charAt_5068e, 0), (117, m_copy, 6)]
def cll7 : List (Nat × Mth × Nat) := [(39, m_X7_survey, 0), (45, m_X7_fittingWith, 0), (49, m_X7_leftAtWorst, 0), (52, m_X7_outcomeCell, 1), (56, m_copy, 5), (61, m_J7_fill_53178, 1), (67, m_X7_guessFrom, 0), (71, m_X7_guessFits, 0), (75, m_X7_tally, 0), (78, m_J6_signum_0f7a4, 1)]
def cll8 : List (Nat × Mth × Nat) := [(83, m_X6_append, 0), (87, m_X6_readAll, 0), (97, m_X3_copyFrom, 0), (100, m_X4_reset, 0), (107, m_X3_hasPlank, 0), (119, m_X4_moment, 0), (123, m_X4_tilt, 0), (126, m_X4_childrenOn, 0), (129, m_J6_bitCount_0f7a4, 1), (134, m_X3_hasChild, 0), (152, m_X3_hasStone, 0), (164, m_X3_hasSeat, 0), (168, m_X4_hasChildAt, 0), (171, m_X4_unseatChild, 0), (174, m_X4_seatChild, 0), (178, m_X4_hasStoneAt, 0), (181, m_X4_liftStone, 0), (184, m_X4_putStone, 0), (187, m_X3_allChildren, 0), (190, m_X8_askWays, 0), (194, m_X5_countWays, 0), (197, m_X5_findFirst, 0), (201, m_X5_chosenStep, 0), (204, m_X8_isZeroOrOne, 1), (207, m_X1_spread, 0), (214, m_X4_stoneMoment, 0), (217, m_X1_largestLevel, 0), (220, m_X8_countOrSet, 1), (224, m_X5_fewestChanges, 0), (227, m_X8_leastBallast, 0), (230, m_X4_idleChildren, 0), (233, m_X0_begin, 0), (237, m_X0_winningMove, 0), (243, m_X7_begin, 0), (245, m_X7_hasStranger, 0), (251, m_X7_addTrial, 0), (255, m_X7_fitting, 0), (258, m_X7_fittingWith, 0), (261, m_X7_onlyWeight, 0), (264, m_X7_bestPair, 0), (267, m_X7_leftAtWorst, 0), (270, m_X2_run, 0), (279, m_X8_hasPartner, 0), (282, m_X8_rateAs, 0), (285, m_X8_imageOf, 0), (289, m_X4_copyFrom, 0), (292, m_X4_seatedChildren, 0), (301, m_X5_begin, 0), (303, m_X8_stepOfSeat, 1), (306, m_X5_addSeat, 0), (309, m_X5_addBody, 0), (312, m_X4_idleStones, 0), (315, m_X8_canBallast, 0), (318, m_X3_fits, 0)]
def cll9 : List (Nat × Mth × Nat) := [(69, m_X9_begins, 0), (75, m_X9_in, 1), (86, m_X9_add, 1), (90, m_X9_named, 1), (97, m_X9_byteAt, 0), (107, m_X9_wordOf, 1), (117, m_X9_isWell, 0), (121, m_X9_advances, 0), (124, m_X9_takes, 0), (131, m_X9_number, 0), (141, m_X9_readsItem, 0), (154, m_X9_stonesOn, 0), (157, m_X9_size, 1), (160, m_X9_momentOf, 0), (163, m_X9_tiltBy, 0), (166, m_X9_isPlank, 0), (171, m_X9_tiltOf, 0), (174, m_X9_sittingOn, 0), (177, m_X9_isChild, 0), (180, m_X9_isStone, 0), (183, m_X9_bumps, 0), (186, m_X9_goes, 0), (189, m_X9_comes, 0), (196, m_X9_seats, 0), (199, m_X9_freeSeat, 0), (202, m_X9_stepOf, 0), (205, m_X9_all, 0), (210, m_X9_waysOf, 0), (214, m_X9_ones, 1), (217, m_X9_hasStone, 0), (221, m_X9_levels, 0), (224, m_X9_isTaken, 0), (227, m_X9_mayPut, 0), (231, m_X9_lastMove, 0), (234, m_X9_twoMoves, 0), (237, m_X9_threeMoves, 0), (240, m_X9_fourMoves, 0), (246, m_X9_isStranger, 0), (249, m_X9_weightIn, 1), (252, m_X9_weighs, 1), (255, m_X9_allWays, 0), (258, m_X9_fits, 0), (261, m_X9_couldBe, 0), (267, m_X9_lesser, 1), (270, m_X9_waits, 0), (273, m_X9_areAPair, 0), (276, m_X9_outOfRow, 0), (279, m_X9_letsOff, 0), (282, m_X9_takesOn, 0), (286, m_X9_goesBy, 0), (303, m_X9_sitting, 0)]
def cll10 : List (Nat × Mth × Nat) := []
def cll11 : List (Nat × Mth × Nat) := []
def cll12 : List (Nat × Mth × Nat) := []
def cll13 : List (Nat × Mth × Nat) := [(335, m_J0_coder_7d493, 0), (492, m_J0_isLatin1_aae02, 0), (495, m_J1_charAt_3b067, 1), (1059, m_J3_checkIndex_8e157, 1)]
def cll14 : List (Nat × Mth × Nat) := [(9, m_J0_checkIndex_df160, 1)]
def cll15 : List (Nat × Mth × Nat) := []
def cll : List (List (Nat × Mth × Nat)) := [cll0, cll1, cll2, cll3, cll4, cll5, cll6, cll7, cll8, cll9, cll10, cll11, cll12, cll13, cll14, cll15]
def fll0 : List (Nat × Nat × Nat) := [(9, 0, 0), (15, 0, 1), (18, 3, 6), (24, 0, 2), (25, 3, 2), (34, 3, 1), (37, 0, 4), (39, 0, 3), (42, 3, 0)]
def kil0 : List (Nat × Int32) := []
def kll0 : List (Nat × Int64) := []
def fll1 : List (Nat × Nat × Nat) := [(11, 1, 0), (15, 3, 6), (23, 3, 0), (35, 3, 2)]
def kil1 : List (Nat × Int32) := []
def kll1 : List (Nat × Int64) := [(21, 16777216)]
def fll2 : List (Nat × Nat × Nat) := [(9, 2, 1), (15, 2, 2), (18, 2, 3), (21, 2, 4), (24, 2, 0), (28, 2, 5), (32, 3, 6), (41, 3, 5), (57, 3, 3)]
def kil2 : List (Nat × Int32) := []
def kll2 : List (Nat × Int64) := []
def fll3 : List (Nat × Nat × Nat) := [(9, 3, 0), (15, 3, 1), (18, 3, 2), (21, 3, 3), (24, 3, 4), (27, 3, 5), (31, 3, 6), (34, 3, 7)]
def kil3 : List (Nat × Int32) := []
def kll3 : List (Nat × Int64) := []
def fll4 : List (Nat × Nat × Nat) := [(9, 4, 1), (15, 4, 2), (18, 4, 3), (21, 4, 4), (24, 4, 5), (27, 4, 0), (37, 3, 6), (43, 3, 7), (56, 3, 4), (62, 3, 2), (73, 3, 1)]
def kil4 : List (Nat × Int32) := []
def kll4 : List (Nat × Int64) := []
def fll5 : List (Nat × Nat × Nat) := [(9, 5, 0), (15, 5, 1), (18, 5, 2), (21, 5, 3), (24, 5, 4), (27, 5, 5), (31, 5, 6), (34, 5, 7), (37, 5, 8), (51, 5, 9)]
def kil5 : List (Nat × Int32) := []
def kll5 : List (Nat × Int64) := []
def fll6 : List (Nat × Nat × Nat) := [(12, 6, 0), (18, 6, 1), (22, 6, 2), (29, 6, 4), (35, 6, 5), (48, 3, 5), (55, 3, 0), (58, 6, 6), (61, 3, 1), (67, 3, 6), (70, 3, 2), (73, 3, 3), (76, 3, 7), (79, 3, 4), (82, 6, 3)]
def kil6 : List (Nat × Int32) := []
def kll6 : List (Nat × Int64) := []
def fll7 : List (Nat × Nat × Nat) := [(9, 7, 0), (13, 7, 1), (16, 7, 2), (19, 7, 3), (22, 7, 4), (25, 7, 5), (28, 7, 6), (32, 7, 7), (35, 7, 9), (42, 7, 8)]
def kil7 : List (Nat × Int32) := []
def kll7 : List (Nat × Int64) := []
def fll8 : List (Nat × Nat × Nat) := [(12, 8, 0), (21, 8, 1), (25, 8, 2), (28, 8, 3), (34, 8, 4), (41, 8, 5), (48, 8, 6), (55, 8, 7), (62, 8, 8), (69, 8, 9), (73, 8, 10), (77, 6, 2), (91, 6, 3), (94, 6, 0), (103, 4, 6), (112, 3, 0), (116, 3, 1), (137, 3, 2), (140, 3, 3), (143, 4, 2), (146, 4, 1), (149, 4, 3), (155, 3, 4), (158, 4, 5), (161, 4, 4), (211, 3, 6), (240, 7, 6), (248, 7, 7), (273, 2, 5), (276, 2, 1), (295, 3, 5), (298, 3, 7)]
def kil8 : List (Nat × Int32) := [(111, -1000000)]
def kll8 : List (Nat × Int64) := [(81, 255)]
def fll9 : List (Nat × Nat × Nat) := [(7, 9, 2), (13, 9, 9), (16, 9, 10), (19, 9, 11), (22, 9, 12), (25, 9, 13), (28, 9, 20), (31, 9, 21), (34, 9, 22), (38, 9, 23), (41, 9, 25), (44, 9, 26), (47, 9, 28), (50, 9, 30), (53, 9, 31), (56, 9, 33), (59, 9, 34), (62, 9, 35), (65, 9, 27), (72, 9, 0), (79, 9, 3), (94, 9, 4), (101, 9, 6), (104, 9, 5), (111, 9, 7), (114, 9, 8), (128, 9, 17), (135, 9, 18), (138, 9, 19), (145, 9, 14), (148, 9, 15), (151, 9, 16), (193, 9, 24), (243, 9, 29), (264, 9, 32), (289, 9, 1)]
def kil9 : List (Nat × Int32) := [(170, -1000000), (209, 1000000)]
def kll9 : List (Nat × Int64) := [(82, 255), (84, 256), (293, 11), (295, 101), (297, 1011), (299, 10101), (301, 100001)]
def fll10 : List (Nat × Nat × Nat) := []
def kil10 : List (Nat × Int32) := [(265, 1431655765), (266, 858993459), (267, 252645135)]
def kll10 : List (Nat × Int64) := []
def fll11 : List (Nat × Nat × Nat) := []
def kil11 : List (Nat × Int32) := []
def kll11 : List (Nat × Int64) := []
def fll12 : List (Nat × Nat × Nat) := []
def kil12 : List (Nat × Int32) := []
def kll12 : List (Nat × Int64) := []
def fll13 : List (Nat × Nat × Nat) := []
def kil13 : List (Nat × Int32) := []
def kll13 : List (Nat × Int64) := []
def fll14 : List (Nat × Nat × Nat) := []
def kil14 : List (Nat × Int32) := []
def kll14 : List (Nat × Int64) := []
def fll15 : List (Nat × Nat × Nat) := []
def kil15 : List (Nat × Int32) := []
def kll15 : List (Nat × Int64) := []
def fll : List (List (Nat × Nat × Nat)) := [fll0, fll1, fll2, fll3, fll4, fll5, fll6, fll7, fll8, fll9, fll10, fll11, fll12, fll13, fll14, fll15]
def kil : List (List (Nat × Int32)) := [kil0, kil1, kil2, kil3, kil4, kil5, kil6, kil7, kil8, kil9, kil10, kil11, kil12, kil13, kil14, kil15]
def kll : List (List (Nat × Int64)) := [kll0, kll1, kll2, kll3, kll4, kll5, kll6, kll7, kll8, kll9, kll10, kll11, kll12, kll13, kll14, kll15]
def lkp {α : Type} : List (Nat × α) → Nat → Option α
  | [], _ => none
  | q :: r, i => if q.1 = i then some q.2 else lkp r i
theorem lkp_mem {α : Type} : ∀ {l : List (Nat × α)} {i : Nat} {a : α}, lkp l i = some a → (i, a) ∈ l
  | q :: r, i, a, h => by
    unfold lkp at h
    by_cases hq : q.1 = i
    · rw [if_pos hq] at h; cases h; subst hq; exact List.mem_cons_self
    · rw [if_neg hq] at h; exact List.mem_cons_of_mem _ (lkp_mem h)
def nmo (own : Nat) : String := cnm.getD own ""
def fcl (ci : Nat) : vw_C := cls.getD ci ("", T0, 0)
def flw (own : Nat) (q : Nat × Nat × Nat) : Cond := .fieldLink (nmo own) q.1 ((fcl q.2.1).2.1 q.2.2).1 ((fcl q.2.1).2.1 q.2.2).2.1 ((fcl q.2.1).2.1 q.2.2).2.2.1
def flok (own : Nat) (q : Nat × Nat × Nat) : Prop := flw own q ∈ gw ∧ q.2.1 < 10 ∧ q.2.2 < (fcl q.2.1).2.2
def clok (own : Nat) (q : Nat × Mth × Nat) : Prop := match q.2.2 with
  | 2 => True
  | 3 => Cond.methodLink (nmo own) q.1 arraycopyName ∈ gw ∧ Cond.native arraycopyName ∈ gw ∧ Cond.static arraycopyName ∈ gw ∧ Cond.initialized "java/lang/System" ∈ gw
  | 4 => Cond.methodLink (nmo own) q.1 Lib.Math.abs.name ∈ gw
  | 5 => Cond.methodLink (nmo own) q.1 Lib.Math.max.name ∈ gw
  | 6 => Cond.methodLink (nmo own) q.1 Lib.Math.min.name ∈ gw
  | _ => Cond.methodLink (nmo own) q.1 q.2.1.2.1 ∈ gw
def mcode (μ : Mth) : Cond := .code μ.2.1 μ.2.2.1 μ.2.2.2.1 μ.2.2.2.2.1
def mok (μ : Mth) : Prop := mcode μ ∈ gw ∧ Cond.initialized μ.2.1.cls ∈ gw ∧ nmo μ.1 = μ.2.1.cls ∧ (μ.2.1.cls ≠ "java/lang/invoke/MethodHandle" ∧ μ.2.1.cls ≠ "java/lang/invoke/VarHandle" ∧ (parseMethodDescriptor μ.2.1.desc).map (fun d => d.parameters.length) = some μ.2.2.2.2.2.2) ∧ μ.2.2.2.1 ≤ 30 ∧ plainName μ.2.1.cls = true ∧
  (if μ.2.2.2.2.2.1 = true then Cond.static μ.2.1 ∈ gw else Cond.instanceMethod μ.2.1 ∈ gw ∧ Cond.selects μ.2.1.cls μ.2.1 μ.2.1 ∈ gw)
theorem gt1 {i : Nat} {w : Cond} (h0 : tables_1_1[i]? = some w) (hg : goodWord w = true) : w ∈ gw := by
  have h := List.mem_of_getElem? h0
  have h1 : w ∈ tables_1 := List.mem_append_left _ h
  exact List.mem_filter.mpr ⟨List.mem_append_right _ h1, hg⟩
theorem gp1 {i : Nat} {y : MethodName} {n : Nat} (h0 : lw_privs_1[i]? = some (y, n)) : Cond.selects y.cls y y ∈ gw := by
  have h := List.mem_of_getElem? h0
  have h1 : (y, n) ∈ lw_privs := List.mem_append_left _ h
  exact List.mem_filter.mpr ⟨List.mem_append_left _ (List.mem_map.mpr ⟨(y, n), h1, rfl⟩), rfl⟩
theorem gt2 {i : Nat} {w : Cond} (h0 : tables_1_2[i]? = some w) (hg : goodWord w = true) : w ∈ gw := by
  have h := List.mem_of_getElem? h0
  have h1 : w ∈ tables_1 := List.mem_append_right _ (List.mem_append_left _ h)
  exact List.mem_filter.mpr ⟨List.mem_append_right _ h1, hg⟩
theorem gp2 {i : Nat} {y : MethodName} {n : Nat} (h0 : lw_privs_2[i]? = some (y, n)) : Cond.selects y.cls y y ∈ gw := by
  have h := List.mem_of_getElem? h0
  have h1 : (y, n) ∈ lw_privs := List.mem_append_right _ (List.mem_append_left _ h)
  exact List.mem_filter.mpr ⟨List.mem_append_left _ (List.mem_map.mpr ⟨(y, n), h1, rfl⟩), rfl⟩
theorem gt3 {i : Nat} {w : Cond} (h0 : tables_1_3[i]? = some w) (hg : goodWord w = true) : w ∈ gw := by
  have h := List.mem_of_getElem? h0
  have h1 : w ∈ tables_1 := List.mem_append_right _ (List.mem_append_right _ (List.mem_append_left _ h))
  exact List.mem_filter.mpr ⟨List.mem_append_right _ h1, hg⟩
theorem gp3 {i : Nat} {y : MethodName} {n : Nat} (h0 : lw_privs_3[i]? = some (y, n)) : Cond.selects y.cls y y ∈ gw := by
  have h := List.mem_of_getElem? h0
  have h1 : (y, n) ∈ lw_privs := List.mem_append_right _ (List.mem_append_right _ (List.mem_append_left _ h))
  exact List.mem_filter.mpr ⟨List.mem_append_left _ (List.mem_map.mpr ⟨(y, n), h1, rfl⟩), rfl⟩
theorem gt4 {i : Nat} {w : Cond} (h0 : tables_1_4[i]? = some w) (hg : goodWord w = true) : w ∈ gw := by
  have h := List.mem_of_getElem? h0
  have h1 : w ∈ tables_1 := List.mem_append_right _ (List.mem_append_right _ (List.mem_append_right _ (List.mem_append_left _ h)))
  exact List.mem_filter.mpr ⟨List.mem_append_right _ h1, hg⟩
theorem gp4 {i : Nat} {y : MethodName} {n : Nat} (h0 : lw_privs_4[i]? = some (y, n)) : Cond.selects y.cls y y ∈ gw := by
  have h := List.mem_of_getElem? h0
  have h1 : (y, n) ∈ lw_privs := List.mem_append_right _ (List.mem_append_right _ (List.mem_append_right _ (List.mem_append_left _ h)))
  exact List.mem_filter.mpr ⟨List.mem_append_left _ (List.mem_map.mpr ⟨(y, n), h1, rfl⟩), rfl⟩
theorem gt5 {i : Nat} {w : Cond} (h0 : tables_1_5[i]? = some w) (hg : goodWord w = true) : w ∈ gw := by
  have h := List.mem_of_getElem? h0
  have h1 : w ∈ tables_1 := List.mem_append_right _ (List.mem_append_right _ (List.mem_append_right _ (List.mem_append_right _ (List.mem_append_left _ h))))
  exact List.mem_filter.mpr ⟨List.mem_append_right _ h1, hg⟩
theorem gp5 {i : Nat} {y : MethodName} {n : Nat} (h0 : lw_privs_5[i]? = some (y, n)) : Cond.selects y.cls y y ∈ gw := by
  have h := List.mem_of_getElem? h0
  have h1 : (y, n) ∈ lw_privs := List.mem_append_right _ (List.mem_append_right _ (List.mem_append_right _ (List.mem_append_right _ (h))))
  exact List.mem_filter.mpr ⟨List.mem_append_left _ (List.mem_map.mpr ⟨(y, n), h1, rfl⟩), rfl⟩
theorem gt6 {i : Nat} {w : Cond} (h0 : tables_1_6[i]? = some w) (hg : goodWord w = true) : w ∈ gw := by
  have h := List.mem_of_getElem? h0
  have h1 : w ∈ tables_1 := List.mem_append_right _ (List.mem_append_right _ (List.mem_append_right _ (List.mem_append_right _ (List.mem_append_right _ (h)))))
  exact List.mem_filter.mpr ⟨List.mem_append_right _ h1, hg⟩
theorem ini_0 : Cond.initialized "SeesawPark$Contest" ∈ gw := (gt1 (i := 7) rfl rfl)
theorem ini_1 : Cond.initialized "SeesawPark$Crowd" ∈ gw := (gt1 (i := 6) rfl rfl)
theorem ini_2 : Cond.initialized "SeesawPark$Queue" ∈ gw := (gt1 (i := 9) rfl rfl)
theorem ini_3 : Cond.initialized "SeesawPark$Roster" ∈ gw := (gt1 (i := 2) rfl rfl)
theorem ini_4 : Cond.initialized "SeesawPark$Scene" ∈ gw := (gt1 (i := 3) rfl rfl)
theorem ini_5 : Cond.initialized "SeesawPark$Seating" ∈ gw := (gt1 (i := 5) rfl rfl)
theorem ini_6 : Cond.initialized "SeesawPark$Told" ∈ gw := (gt1 (i := 4) rfl rfl)
theorem ini_7 : Cond.initialized "SeesawPark$Weighing" ∈ gw := (gt1 (i := 8) rfl rfl)
theorem ini_8 : Cond.initialized "SeesawPark" ∈ gw := (gt1 (i := 1) rfl rfl)
theorem ini_9 : Cond.initialized "SeesawParkModel" ∈ gw := (gt1 (i := 10) rfl rfl)
theorem ini_10 : Cond.initialized "java/lang/Integer" ∈ gw := (gt1 (i := 17) rfl rfl)
theorem ini_11 : Cond.initialized "java/lang/Math" ∈ gw := (gt1 (i := 15) rfl rfl)
theorem ini_12 : Cond.initialized "java/util/Arrays" ∈ gw := (gt1 (i := 18) rfl rfl)
theorem ini_13 : Cond.initialized "java/lang/String" ∈ gw := (gt1 (i := 11) rfl rfl)
theorem ini_14 : Cond.initialized "java/lang/StringLatin1" ∈ gw := (gt1 (i := 12) rfl rfl)
theorem ini_15 : Cond.initialized "jdk/internal/util/Preconditions" ∈ gw := (gt1 (i := 13) rfl rfl)
theorem mt_abs_c : Cond.code Lib.Math.abs.name Lib.Math.abs.code 1 (some .int) ∈ gw := (gt3 (i := 3) rfl rfl)
theorem mt_abs_s : Cond.static Lib.Math.abs.name ∈ gw := (gt3 (i := 2) rfl rfl)
theorem mt_max_c : Cond.code Lib.Math.max.name Lib.Math.max.code 2 (some .int) ∈ gw := (gt4 (i := 67) rfl rfl)
theorem mt_max_s : Cond.static Lib.Math.max.name ∈ gw := (gt4 (i := 66) rfl rfl)
theorem mt_min_c : Cond.code Lib.Math.min.name Lib.Math.min.code 2 (some .int) ∈ gw := (gt2 (i := 186) rfl rfl)
theorem mt_min_s : Cond.static Lib.Math.min.name ∈ gw := (gt2 (i := 185) rfl rfl)
theorem fll0_0 : flok 0 (9, 0, 0) := ⟨(gt1 (i := 210) rfl rfl), by decide, by decide⟩
theorem fll0_1 : flok 0 (15, 0, 1) := ⟨(gt1 (i := 211) rfl rfl), by decide, by decide⟩
theorem fll0_2 : flok 0 (18, 3, 6) := ⟨(gt1 (i := 62) rfl rfl), by decide, by decide⟩
theorem fll0_3 : flok 0 (24, 0, 2) := ⟨(gt1 (i := 212) rfl rfl), by decide, by decide⟩
theorem fll0_4 : flok 0 (25, 3, 2) := ⟨(gt1 (i := 44) rfl rfl), by decide, by decide⟩
theorem fll0_5 : flok 0 (34, 3, 1) := ⟨(gt1 (i := 39) rfl rfl), by decide, by decide⟩
theorem fll0_6 : flok 0 (37, 0, 4) := ⟨(gt1 (i := 214) rfl rfl), by decide, by decide⟩
theorem fll0_7 : flok 0 (39, 0, 3) := ⟨(gt1 (i := 213) rfl rfl), by decide, by decide⟩
theorem fll0_8 : flok 0 (42, 3, 0) := ⟨(gt1 (i := 34) rfl rfl), by decide, by decide⟩
theorem fll0_ok : ∀ q ∈ fll0, flok 0 q := List.forall_mem_cons.mpr ⟨fll0_0, List.forall_mem_cons.mpr ⟨fll0_1, List.forall_mem_cons.mpr ⟨fll0_2, List.forall_mem_cons.mpr ⟨fll0_3, List.forall_mem_cons.mpr ⟨fll0_4, List.forall_mem_cons.mpr ⟨fll0_5, List.forall_mem_cons.mpr ⟨fll0_6, List.forall_mem_cons.mpr ⟨fll0_7, List.forall_mem_cons.mpr ⟨fll0_8, fun _ h => absurd h List.not_mem_nil⟩⟩⟩⟩⟩⟩⟩⟩⟩
theorem cll0_0 : clok 0 (28, m_copy, 3) := ⟨(gt3 (i := 217) rfl rfl), (gt2 (i := 213) rfl rfl), (gt2 (i := 212) rfl rfl), (gt1 (i := 16) rfl rfl)⟩
theorem cll0_1 : clok 0 (45, m_X8_stepOfSeat, 2) := trivial
theorem cll0_2 : clok 0 (49, m_X4_hasChildAt, 0) := (gt3 (i := 219) rfl rfl)
theorem cll0_3 : clok 0 (55, m_X0_moveFrom, 0) := (gt3 (i := 224) rfl rfl)
theorem cll0_4 : clok 0 (59, m_copy, 4) := (gt3 (i := 228) rfl rfl)
theorem cll0_ok : ∀ q ∈ cll0, clok 0 q := List.forall_mem_cons.mpr ⟨cll0_0, List.forall_mem_cons.mpr ⟨cll0_1, List.forall_mem_cons.mpr ⟨cll0_2, List.forall_mem_cons.mpr ⟨cll0_3, List.forall_mem_cons.mpr ⟨cll0_4, fun _ h => absurd h List.not_mem_nil⟩⟩⟩⟩⟩
theorem kil0_ok : ∀ q ∈ kil0, Cond.constant (nmo 0) q.1 q.2 ∈ gw := fun _ h => absurd h List.not_mem_nil
theorem kll0_ok : ∀ q ∈ kll0, Cond.constantLong (nmo 0) q.1 q.2 ∈ gw := fun _ h => absurd h List.not_mem_nil
theorem fll1_0 : flok 1 (11, 1, 0) := ⟨(gt1 (i := 199) rfl rfl), by decide, by decide⟩
theorem fll1_1 : flok 1 (15, 3, 6) := ⟨(gt1 (i := 61) rfl rfl), by decide, by decide⟩
theorem fll1_2 : flok 1 (23, 3, 0) := ⟨(gt1 (i := 35) rfl rfl), by decide, by decide⟩
theorem fll1_3 : flok 1 (35, 3, 2) := ⟨(gt1 (i := 45) rfl rfl), by decide, by decide⟩
theorem fll1_ok : ∀ q ∈ fll1, flok 1 q := List.forall_mem_cons.mpr ⟨fll1_0, List.forall_mem_cons.mpr ⟨fll1_1, List.forall_mem_cons.mpr ⟨fll1_2, List.forall_mem_cons.mpr ⟨fll1_3, fun _ h => absurd h List.not_mem_nil⟩⟩⟩⟩
theorem cll1_0 : clok 1 (27, m_X8_stepOfSeat, 2) := trivial
theorem cll1_1 : clok 1 (31, m_X1_addSeatOf, 0) := (gt3 (i := 153) rfl rfl)
theorem cll1_2 : clok 1 (38, m_X1_mergeShifted, 0) := (gt3 (i := 157) rfl rfl)
theorem cll1_3 : clok 1 (42, m_X1_wordAt, 0) := (gt3 (i := 161) rfl rfl)
theorem cll1_4 : clok 1 (46, m_J6_bitCount_0f7a4, 1) := (gt3 (i := 169) rfl rfl)
theorem cll1_5 : clok 1 (52, m_X1_canLevel, 0) := (gt3 (i := 170) rfl rfl)
theorem cll1_ok : ∀ q ∈ cll1, clok 1 q := List.forall_mem_cons.mpr ⟨cll1_0, List.forall_mem_cons.mpr ⟨cll1_1, List.forall_mem_cons.mpr ⟨cll1_2, List.forall_mem_cons.mpr ⟨cll1_3, List.forall_mem_cons.mpr ⟨cll1_4, List.forall_mem_cons.mpr ⟨cll1_5, fun _ h => absurd h List.not_mem_nil⟩⟩⟩⟩⟩⟩
theorem kil1_ok : ∀ q ∈ kil1, Cond.constant (nmo 1) q.1 q.2 ∈ gw := fun _ h => absurd h List.not_mem_nil
theorem kll1_0 : Cond.constantLong (nmo 1) 21 (16777216) ∈ gw := (gt3 (i := 151) rfl rfl)
theorem kll1_ok : ∀ q ∈ kll1, Cond.constantLong (nmo 1) q.1 q.2 ∈ gw := List.forall_mem_cons.mpr ⟨kll1_0, fun _ h => absurd h List.not_mem_nil⟩
theorem fll2_0 : flok 2 (9, 2, 1) := ⟨(gt2 (i := 32) rfl rfl), by decide, by decide⟩
theorem fll2_1 : flok 2 (15, 2, 2) := ⟨(gt2 (i := 34) rfl rfl), by decide, by decide⟩
theorem fll2_2 : flok 2 (18, 2, 3) := ⟨(gt2 (i := 35) rfl rfl), by decide, by decide⟩
theorem fll2_3 : flok 2 (21, 2, 4) := ⟨(gt2 (i := 36) rfl rfl), by decide, by decide⟩
theorem fll2_4 : flok 2 (24, 2, 0) := ⟨(gt2 (i := 31) rfl rfl), by decide, by decide⟩
theorem fll2_5 : flok 2 (28, 2, 5) := ⟨(gt2 (i := 37) rfl rfl), by decide, by decide⟩
theorem fll2_6 : flok 2 (32, 3, 6) := ⟨(gt1 (i := 64) rfl rfl), by decide, by decide⟩
theorem fll2_7 : flok 2 (41, 3, 5) := ⟨(gt1 (i := 58) rfl rfl), by decide, by decide⟩
theorem fll2_8 : flok 2 (57, 3, 3) := ⟨(gt1 (i := 50) rfl rfl), by decide, by decide⟩
theorem fll2_ok : ∀ q ∈ fll2, flok 2 q := List.forall_mem_cons.mpr ⟨fll2_0, List.forall_mem_cons.mpr ⟨fll2_1, List.forall_mem_cons.mpr ⟨fll2_2, List.forall_mem_cons.mpr ⟨fll2_3, List.forall_mem_cons.mpr ⟨fll2_4, List.forall_mem_cons.mpr ⟨fll2_5, List.forall_mem_cons.mpr ⟨fll2_6, List.forall_mem_cons.mpr ⟨fll2_7, List.forall_mem_cons.mpr ⟨fll2_8, fun _ h => absurd h List.not_mem_nil⟩⟩⟩⟩⟩⟩⟩⟩⟩
theorem cll2_0 : clok 2 (37, m_X2_joinRow, 0) := (gt4 (i := 77) rfl rfl)
theorem cll2_1 : clok 2 (44, m_X2_letOff, 0) := (gt4 (i := 81) rfl rfl)
theorem cll2_2 : clok 2 (47, m_X2_letOn, 0) := (gt4 (i := 89) rfl rfl)
theorem cll2_3 : clok 2 (50, m_X2_rideOn, 0) := (gt4 (i := 102) rfl rfl)
theorem cll2_4 : clok 2 (53, m_X2_wantsMore, 0) := (gt4 (i := 85) rfl rfl)
theorem cll2_5 : clok 2 (60, m_X3_fits, 0) := (gt4 (i := 93) rfl rfl)
theorem cll2_6 : clok 2 (64, m_X2_leaveRow, 0) := (gt4 (i := 98) rfl rfl)
theorem cll2_ok : ∀ q ∈ cll2, clok 2 q := List.forall_mem_cons.mpr ⟨cll2_0, List.forall_mem_cons.mpr ⟨cll2_1, List.forall_mem_cons.mpr ⟨cll2_2, List.forall_mem_cons.mpr ⟨cll2_3, List.forall_mem_cons.mpr ⟨cll2_4, List.forall_mem_cons.mpr ⟨cll2_5, List.forall_mem_cons.mpr ⟨cll2_6, fun _ h => absurd h List.not_mem_nil⟩⟩⟩⟩⟩⟩⟩
theorem kil2_ok : ∀ q ∈ kil2, Cond.constant (nmo 2) q.1 q.2 ∈ gw := fun _ h => absurd h List.not_mem_nil
theorem kll2_ok : ∀ q ∈ kll2, Cond.constantLong (nmo 2) q.1 q.2 ∈ gw := fun _ h => absurd h List.not_mem_nil
theorem fll3_0 : flok 3 (9, 3, 0) := ⟨(gt1 (i := 33) rfl rfl), by decide, by decide⟩
theorem fll3_1 : flok 3 (15, 3, 1) := ⟨(gt1 (i := 38) rfl rfl), by decide, by decide⟩
theorem fll3_2 : flok 3 (18, 3, 2) := ⟨(gt1 (i := 43) rfl rfl), by decide, by decide⟩
theorem fll3_3 : flok 3 (21, 3, 3) := ⟨(gt1 (i := 49) rfl rfl), by decide, by decide⟩
theorem fll3_4 : flok 3 (24, 3, 4) := ⟨(gt1 (i := 53) rfl rfl), by decide, by decide⟩
theorem fll3_5 : flok 3 (27, 3, 5) := ⟨(gt1 (i := 57) rfl rfl), by decide, by decide⟩
theorem fll3_6 : flok 3 (31, 3, 6) := ⟨(gt1 (i := 63) rfl rfl), by decide, by decide⟩
theorem fll3_7 : flok 3 (34, 3, 7) := ⟨(gt1 (i := 68) rfl rfl), by decide, by decide⟩
theorem fll3_ok : ∀ q ∈ fll3, flok 3 q := List.forall_mem_cons.mpr ⟨fll3_0, List.forall_mem_cons.mpr ⟨fll3_1, List.forall_mem_cons.mpr ⟨fll3_2, List.forall_mem_cons.mpr ⟨fll3_3, List.forall_mem_cons.mpr ⟨fll3_4, List.forall_mem_cons.mpr ⟨fll3_5, List.forall_mem_cons.mpr ⟨fll3_6, List.forall_mem_cons.mpr ⟨fll3_7, fun _ h => absurd h List.not_mem_nil⟩⟩⟩⟩⟩⟩⟩⟩
theorem cll3_0 : clok 3 (37, m_copy, 3) := ⟨(gt2 (i := 211) rfl rfl), (gt2 (i := 213) rfl rfl), (gt2 (i := 212) rfl rfl), (gt1 (i := 16) rfl rfl)⟩
theorem cll3_1 : clok 3 (43, m_X3_hasPlank, 0) := (gt3 (i := 38) rfl rfl)
theorem cll3_2 : clok 3 (47, m_copy, 4) := (gt4 (i := 97) rfl rfl)
theorem cll3_ok : ∀ q ∈ cll3, clok 3 q := List.forall_mem_cons.mpr ⟨cll3_0, List.forall_mem_cons.mpr ⟨cll3_1, List.forall_mem_cons.mpr ⟨cll3_2, fun _ h => absurd h List.not_mem_nil⟩⟩⟩
theorem kil3_ok : ∀ q ∈ kil3, Cond.constant (nmo 3) q.1 q.2 ∈ gw := fun _ h => absurd h List.not_mem_nil
theorem kll3_ok : ∀ q ∈ kll3, Cond.constantLong (nmo 3) q.1 q.2 ∈ gw := fun _ h => absurd h List.not_mem_nil
theorem fll4_0 : flok 4 (9, 4, 1) := ⟨(gt1 (i := 97) rfl rfl), by decide, by decide⟩
theorem fll4_1 : flok 4 (15, 4, 2) := ⟨(gt1 (i := 99) rfl rfl), by decide, by decide⟩
theorem fll4_2 : flok 4 (18, 4, 3) := ⟨(gt1 (i := 101) rfl rfl), by decide, by decide⟩
theorem fll4_3 : flok 4 (21, 4, 4) := ⟨(gt1 (i := 103) rfl rfl), by decide, by decide⟩
theorem fll4_4 : flok 4 (24, 4, 5) := ⟨(gt1 (i := 105) rfl rfl), by decide, by decide⟩
theorem fll4_5 : flok 4 (27, 4, 0) := ⟨(gt1 (i := 96) rfl rfl), by decide, by decide⟩
theorem fll4_6 : flok 4 (37, 3, 6) := ⟨(gt1 (i := 65) rfl rfl), by decide, by decide⟩
theorem fll4_7 : flok 4 (43, 3, 7) := ⟨(gt1 (i := 69) rfl rfl), by decide, by decide⟩
theorem fll4_8 : flok 4 (56, 3, 4) := ⟨(gt1 (i := 56) rfl rfl), by decide, by decide⟩
theorem fll4_9 : flok 4 (62, 3, 2) := ⟨(gt1 (i := 48) rfl rfl), by decide, by decide⟩
theorem fll4_10 : flok 4 (73, 3, 1) := ⟨(gt1 (i := 42) rfl rfl), by decide, by decide⟩
theorem fll4_ok : ∀ q ∈ fll4, flok 4 q := List.forall_mem_cons.mpr ⟨fll4_0, List.forall_mem_cons.mpr ⟨fll4_1, List.forall_mem_cons.mpr ⟨fll4_2, List.forall_mem_cons.mpr ⟨fll4_3, List.forall_mem_cons.mpr ⟨fll4_4, List.forall_mem_cons.mpr ⟨fll4_5, List.forall_mem_cons.mpr ⟨fll4_6, List.forall_mem_cons.mpr ⟨fll4_7, List.forall_mem_cons.mpr ⟨fll4_8, List.forall_mem_cons.mpr ⟨fll4_9, List.forall_mem_cons.mpr ⟨fll4_10, fun _ h => absurd h List.not_mem_nil⟩⟩⟩⟩⟩⟩⟩⟩⟩⟩⟩
theorem cll4_0 : clok 4 (31, m_copy, 3) := ⟨(gt4 (i := 139) rfl rfl), (gt2 (i := 213) rfl rfl), (gt2 (i := 212) rfl rfl), (gt1 (i := 16) rfl rfl)⟩
theorem cll4_1 : clok 4 (46, m_X4_idleChildren, 0) := (gt4 (i := 144) rfl rfl)
theorem cll4_2 : clok 4 (50, m_J6_bitCount_0f7a4, 1) := (gt4 (i := 145) rfl rfl)
theorem cll4_3 : clok 4 (59, m_X4_stoneMoment, 0) := (gt2 (i := 232) rfl rfl)
theorem cll4_4 : clok 4 (65, m_X4_moment, 0) := (gt3 (i := 0) rfl rfl)
theorem cll4_5 : clok 4 (68, m_copy, 4) := (gt3 (i := 1) rfl rfl)
theorem cll4_6 : clok 4 (76, m_X4_tilt, 0) := (gt3 (i := 47) rfl rfl)
theorem cll4_7 : clok 4 (79, m_X4_settle, 0) := (gt3 (i := 48) rfl rfl)
theorem cll4_8 : clok 4 (83, m_J6_signum_0f7a4, 1) := (gt3 (i := 52) rfl rfl)
theorem cll4_ok : ∀ q ∈ cll4, clok 4 q := List.forall_mem_cons.mpr ⟨cll4_0, List.forall_mem_cons.mpr ⟨cll4_1, List.forall_mem_cons.mpr ⟨cll4_2, List.forall_mem_cons.mpr ⟨cll4_3, List.forall_mem_cons.mpr ⟨cll4_4, List.forall_mem_cons.mpr ⟨cll4_5, List.forall_mem_cons.mpr ⟨cll4_6, List.forall_mem_cons.mpr ⟨cll4_7, List.forall_mem_cons.mpr ⟨cll4_8, fun _ h => absurd h List.not_mem_nil⟩⟩⟩⟩⟩⟩⟩⟩⟩
theorem kil4_ok : ∀ q ∈ kil4, Cond.constant (nmo 4) q.1 q.2 ∈ gw := fun _ h => absurd h List.not_mem_nil
theorem kll4_ok : ∀ q ∈ kll4, Cond.constantLong (nmo 4) q.1 q.2 ∈ gw := fun _ h => absurd h List.not_mem_nil
theorem fll5_0 : flok 5 (9, 5, 0) := ⟨(gt1 (i := 162) rfl rfl), by decide, by decide⟩
theorem fll5_1 : flok 5 (15, 5, 1) := ⟨(gt1 (i := 163) rfl rfl), by decide, by decide⟩
theorem fll5_2 : flok 5 (18, 5, 2) := ⟨(gt1 (i := 164) rfl rfl), by decide, by decide⟩
theorem fll5_3 : flok 5 (21, 5, 3) := ⟨(gt1 (i := 165) rfl rfl), by decide, by decide⟩
theorem fll5_4 : flok 5 (24, 5, 4) := ⟨(gt1 (i := 166) rfl rfl), by decide, by decide⟩
theorem fll5_5 : flok 5 (27, 5, 5) := ⟨(gt1 (i := 167) rfl rfl), by decide, by decide⟩
theorem fll5_6 : flok 5 (31, 5, 6) := ⟨(gt1 (i := 168) rfl rfl), by decide, by decide⟩
theorem fll5_7 : flok 5 (34, 5, 7) := ⟨(gt1 (i := 169) rfl rfl), by decide, by decide⟩
theorem fll5_8 : flok 5 (37, 5, 8) := ⟨(gt1 (i := 170) rfl rfl), by decide, by decide⟩
theorem fll5_9 : flok 5 (51, 5, 9) := ⟨(gt1 (i := 171) rfl rfl), by decide, by decide⟩
theorem fll5_ok : ∀ q ∈ fll5, flok 5 q := List.forall_mem_cons.mpr ⟨fll5_0, List.forall_mem_cons.mpr ⟨fll5_1, List.forall_mem_cons.mpr ⟨fll5_2, List.forall_mem_cons.mpr ⟨fll5_3, List.forall_mem_cons.mpr ⟨fll5_4, List.forall_mem_cons.mpr ⟨fll5_5, List.forall_mem_cons.mpr ⟨fll5_6, List.forall_mem_cons.mpr ⟨fll5_7, List.forall_mem_cons.mpr ⟨fll5_8, List.forall_mem_cons.mpr ⟨fll5_9, fun _ h => absurd h List.not_mem_nil⟩⟩⟩⟩⟩⟩⟩⟩⟩⟩
theorem cll5_0 : clok 5 (40, m_X5_measureReach, 0) := (gt3 (i := 115) rfl rfl)
theorem cll5_1 : clok 5 (43, m_X5_countFrom, 0) := (gt3 (i := 119) rfl rfl)
theorem cll5_2 : clok 5 (47, m_X5_findFrom, 0) := (gt3 (i := 132) rfl rfl)
theorem cll5_3 : clok 5 (54, m_X5_changeFrom, 0) := (gt3 (i := 185) rfl rfl)
theorem cll5_4 : clok 5 (58, m_copy, 4) := (gt3 (i := 127) rfl rfl)
theorem cll5_5 : clok 5 (64, m_X5_isHopeless, 0) := (gt3 (i := 123) rfl rfl)
theorem cll5_ok : ∀ q ∈ cll5, clok 5 q := List.forall_mem_cons.mpr ⟨cll5_0, List.forall_mem_cons.mpr ⟨cll5_1, List.forall_mem_cons.mpr ⟨cll5_2, List.forall_mem_cons.mpr ⟨cll5_3, List.forall_mem_cons.mpr ⟨cll5_4, List.forall_mem_cons.mpr ⟨cll5_5, fun _ h => absurd h List.not_mem_nil⟩⟩⟩⟩⟩⟩
theorem kil5_ok : ∀ q ∈ kil5, Cond.constant (nmo 5) q.1 q.2 ∈ gw := fun _ h => absurd h List.not_mem_nil
theorem kll5_ok : ∀ q ∈ kll5, Cond.constantLong (nmo 5) q.1 q.2 ∈ gw := fun _ h => absurd h List.not_mem_nil
theorem fll6_0 : flok 6 (12, 6, 0) := ⟨(gt1 (i := 131) rfl rfl), by decide, by decide⟩
theorem fll6_1 : flok 6 (18, 6, 1) := ⟨(gt1 (i := 133) rfl rfl), by decide, by decide⟩
theorem fll6_2 : flok 6 (22, 6, 2) := ⟨(gt1 (i := 134) rfl rfl), by decide, by decide⟩
theorem fll6_3 : flok 6 (29, 6, 4) := ⟨(gt1 (i := 138) rfl rfl), by decide, by decide⟩
theorem fll6_4 : flok 6 (35, 6, 5) := ⟨(gt1 (i := 139) rfl rfl), by decide, by decide⟩
theorem fll6_5 : flok 6 (48, 3, 5) := ⟨(gt1 (i := 59) rfl rfl), by decide, by decide⟩
theorem fll6_6 : flok 6 (55, 3, 0) := ⟨(gt1 (i := 36) rfl rfl), by decide, by decide⟩
theorem fll6_7 : flok 6 (58, 6, 6) := ⟨(gt1 (i := 140) rfl rfl), by decide, by decide⟩
theorem fll6_8 : flok 6 (61, 3, 1) := ⟨(gt1 (i := 40) rfl rfl), by decide, by decide⟩
theorem fll6_9 : flok 6 (67, 3, 6) := ⟨(gt1 (i := 66) rfl rfl), by decide, by decide⟩
theorem fll6_10 : flok 6 (70, 3, 2) := ⟨(gt1 (i := 46) rfl rfl), by decide, by decide⟩
theorem fll6_11 : flok 6 (73, 3, 3) := ⟨(gt1 (i := 51) rfl rfl), by decide, by decide⟩
theorem fll6_12 : flok 6 (76, 3, 7) := ⟨(gt1 (i := 70) rfl rfl), by decide, by decide⟩
theorem fll6_13 : flok 6 (79, 3, 4) := ⟨(gt1 (i := 54) rfl rfl), by decide, by decide⟩
theorem fll6_14 : flok 6 (82, 6, 3) := ⟨(gt1 (i := 137) rfl rfl), by decide, by decide⟩
theorem fll6_ok : ∀ q ∈ fll6, flok 6 q := List.forall_mem_cons.mpr ⟨fll6_0, List.forall_mem_cons.mpr ⟨fll6_1, List.forall_mem_cons.mpr ⟨fll6_2, List.forall_mem_cons.mpr ⟨fll6_3, List.forall_mem_cons.mpr ⟨fll6_4, List.forall_mem_cons.mpr ⟨fll6_5, List.forall_mem_cons.mpr ⟨fll6_6, List.forall_mem_cons.mpr ⟨fll6_7, List.forall_mem_cons.mpr ⟨fll6_8, List.forall_mem_cons.mpr ⟨fll6_9, List.forall_mem_cons.mpr ⟨fll6_10, List.forall_mem_cons.mpr ⟨fll6_11, List.forall_mem_cons.mpr ⟨fll6_12, List.forall_mem_cons.mpr ⟨fll6_13, List.forall_mem_cons.mpr ⟨fll6_14, fun _ h => absurd h List.not_mem_nil⟩⟩⟩⟩⟩⟩⟩⟩⟩⟩⟩⟩⟩⟩⟩
theorem cll6_0 : clok 6 (26, m_X3_forget, 0) := (gt2 (i := 107) rfl rfl)
theorem cll6_1 : clok 6 (32, m_X6_readToken, 0) := (gt2 (i := 111) rfl rfl)
theorem cll6_2 : clok 6 (38, m_X6_readPlank, 0) := (gt2 (i := 187) rfl rfl)
theorem cll6_3 : clok 6 (42, m_X6_readChild, 0) := (gt2 (i := 199) rfl rfl)
theorem cll6_4 : clok 6 (45, m_X6_readStone, 0) := (gt2 (i := 203) rfl rfl)
theorem cll6_5 : clok 6 (51, m_X6_readNumber, 0) := (gt2 (i := 191) rfl rfl)
theorem cll6_6 : clok 6 (64, m_X6_readSemicolon, 0) := (gt2 (i := 195) rfl rfl)
theorem cll6_7 : clok 6 (85, m_X6_isLetter, 1) := (gt2 (i := 115) rfl rfl)
theorem cll6_8 : clok 6 (89, m_X6_readWord, 0) := (gt2 (i := 118) rfl rfl)
theorem cll6_9 : clok 6 (92, m_X6_isDigit, 1) := (gt2 (i := 177) rfl rfl)
theorem cll6_10 : clok 6 (95, m_X6_readDigits, 0) := (gt2 (i := 180) rfl rfl)
theorem cll6_11 : clok 6 (100, m_X6_spells, 0) := (gt2 (i := 123) rfl rfl)
theorem cll6_12 : clok 6 (108, m_J0_length_8abf5, 0) := (gt2 (i := 127) rfl rfl)
theorem cll6_13 : clok 6 (113, m_J0_charAt_5068e, 0) := (gt2 (i := 137) rfl rfl)
theorem cll6_14 : clok 6 (117, m_copy, 6) := (gt2 (i := 184) rfl rfl)
theorem cll6_ok : ∀ q ∈ cll6, clok 6 q := List.forall_mem_cons.mpr ⟨cll6_0, List.forall_mem_cons.mpr ⟨cll6_1, List.forall_mem_cons.mpr ⟨cll6_2, List.forall_mem_cons.mpr ⟨cll6_3, List.forall_mem_cons.mpr ⟨cll6_4, List.forall_mem_cons.mpr ⟨cll6_5, List.forall_mem_cons.mpr ⟨cll6_6, List.forall_mem_cons.mpr ⟨cll6_7, List.forall_mem_cons.mpr ⟨cll6_8, List.forall_mem_cons.mpr ⟨cll6_9, List.forall_mem_cons.mpr ⟨cll6_10, List.forall_mem_cons.mpr ⟨cll6_11, List.forall_mem_cons.mpr ⟨cll6_12, List.forall_mem_cons.mpr ⟨cll6_13, List.forall_mem_cons.mpr ⟨cll6_14, fun _ h => absurd h List.not_mem_nil⟩⟩⟩⟩⟩⟩⟩⟩⟩⟩⟩⟩⟩⟩⟩
theorem kil6_ok : ∀ q ∈ kil6, Cond.constant (nmo 6) q.1 q.2 ∈ gw := fun _ h => absurd h List.not_mem_nil
theorem kll6_ok : ∀ q ∈ kll6, Cond.constantLong (nmo 6) q.1 q.2 ∈ gw := fun _ h => absurd h List.not_mem_nil
theorem fll7_0 : flok 7 (9, 7, 0) := ⟨(gt1 (i := 232) rfl rfl), by decide, by decide⟩
theorem fll7_1 : flok 7 (13, 7, 1) := ⟨(gt1 (i := 233) rfl rfl), by decide, by decide⟩
theorem fll7_2 : flok 7 (16, 7, 2) := ⟨(gt1 (i := 234) rfl rfl), by decide, by decide⟩
theorem fll7_3 : flok 7 (19, 7, 3) := ⟨(gt1 (i := 235) rfl rfl), by decide, by decide⟩
theorem fll7_4 : flok 7 (22, 7, 4) := ⟨(gt1 (i := 236) rfl rfl), by decide, by decide⟩
theorem fll7_5 : flok 7 (25, 7, 5) := ⟨(gt1 (i := 237) rfl rfl), by decide, by decide⟩
theorem fll7_6 : flok 7 (28, 7, 6) := ⟨(gt1 (i := 238) rfl rfl), by decide, by decide⟩
theorem fll7_7 : flok 7 (32, 7, 7) := ⟨(gt2 (i := 0) rfl rfl), by decide, by decide⟩
theorem fll7_8 : flok 7 (35, 7, 9) := ⟨(gt2 (i := 3) rfl rfl), by decide, by decide⟩
theorem fll7_9 : flok 7 (42, 7, 8) := ⟨(gt2 (i := 2) rfl rfl), by decide, by decide⟩
theorem fll7_ok : ∀ q ∈ fll7, flok 7 q := List.forall_mem_cons.mpr ⟨fll7_0, List.forall_mem_cons.mpr ⟨fll7_1, List.forall_mem_cons.mpr ⟨fll7_2, List.forall_mem_cons.mpr ⟨fll7_3, List.forall_mem_cons.mpr ⟨fll7_4, List.forall_mem_cons.mpr ⟨fll7_5, List.forall_mem_cons.mpr ⟨fll7_6, List.forall_mem_cons.mpr ⟨fll7_7, List.forall_mem_cons.mpr ⟨fll7_8, List.forall_mem_cons.mpr ⟨fll7_9, fun _ h => absurd h List.not_mem_nil⟩⟩⟩⟩⟩⟩⟩⟩⟩⟩
theorem cll7_0 : clok 7 (39, m_X7_survey, 0) := (gt4 (i := 17) rfl rfl)
theorem cll7_1 : clok 7 (45, m_X7_fittingWith, 0) := (gt4 (i := 52) rfl rfl)
theorem cll7_2 : clok 7 (49, m_X7_leftAtWorst, 0) := (gt4 (i := 61) rfl rfl)
theorem cll7_3 : clok 7 (52, m_X7_outcomeCell, 1) := (gt4 (i := 37) rfl rfl)
theorem cll7_4 : clok 7 (56, m_copy, 5) := (gt4 (i := 65) rfl rfl)
theorem cll7_5 : clok 7 (61, m_J7_fill_53178, 1) := (gt4 (i := 21) rfl rfl)
theorem cll7_6 : clok 7 (67, m_X7_guessFrom, 0) := (gt4 (i := 24) rfl rfl)
theorem cll7_7 : clok 7 (71, m_X7_guessFits, 0) := (gt4 (i := 28) rfl rfl)
theorem cll7_8 : clok 7 (75, m_X7_tally, 0) := (gt4 (i := 33) rfl rfl)
theorem cll7_9 : clok 7 (78, m_J6_signum_0f7a4, 1) := (gt4 (i := 32) rfl rfl)
theorem cll7_ok : ∀ q ∈ cll7, clok 7 q := List.forall_mem_cons.mpr ⟨cll7_0, List.forall_mem_cons.mpr ⟨cll7_1, List.forall_mem_cons.mpr ⟨cll7_2, List.forall_mem_cons.mpr ⟨cll7_3, List.forall_mem_cons.mpr ⟨cll7_4, List.forall_mem_cons.mpr ⟨cll7_5, List.forall_mem_cons.mpr ⟨cll7_6, List.forall_mem_cons.mpr ⟨cll7_7, List.forall_mem_cons.mpr ⟨cll7_8, List.forall_mem_cons.mpr ⟨cll7_9, fun _ h => absurd h List.not_mem_nil⟩⟩⟩⟩⟩⟩⟩⟩⟩⟩
theorem kil7_ok : ∀ q ∈ kil7, Cond.constant (nmo 7) q.1 q.2 ∈ gw := fun _ h => absurd h List.not_mem_nil
theorem kll7_ok : ∀ q ∈ kll7, Cond.constantLong (nmo 7) q.1 q.2 ∈ gw := fun _ h => absurd h List.not_mem_nil
theorem fll8_0 : flok 8 (12, 8, 0) := ⟨(gt2 (i := 52) rfl rfl), by decide, by decide⟩
theorem fll8_1 : flok 8 (21, 8, 1) := ⟨(gt2 (i := 53) rfl rfl), by decide, by decide⟩
theorem fll8_2 : flok 8 (25, 8, 2) := ⟨(gt2 (i := 54) rfl rfl), by decide, by decide⟩
theorem fll8_3 : flok 8 (28, 8, 3) := ⟨(gt2 (i := 55) rfl rfl), by decide, by decide⟩
theorem fll8_4 : flok 8 (34, 8, 4) := ⟨(gt2 (i := 56) rfl rfl), by decide, by decide⟩
theorem fll8_5 : flok 8 (41, 8, 5) := ⟨(gt2 (i := 57) rfl rfl), by decide, by decide⟩
theorem fll8_6 : flok 8 (48, 8, 6) := ⟨(gt2 (i := 58) rfl rfl), by decide, by decide⟩
theorem fll8_7 : flok 8 (55, 8, 7) := ⟨(gt2 (i := 59) rfl rfl), by decide, by decide⟩
theorem fll8_8 : flok 8 (62, 8, 8) := ⟨(gt2 (i := 60) rfl rfl), by decide, by decide⟩
theorem fll8_9 : flok 8 (69, 8, 9) := ⟨(gt2 (i := 61) rfl rfl), by decide, by decide⟩
theorem fll8_10 : flok 8 (73, 8, 10) := ⟨(gt2 (i := 62) rfl rfl), by decide, by decide⟩
theorem fll8_11 : flok 8 (77, 6, 2) := ⟨(gt1 (i := 135) rfl rfl), by decide, by decide⟩
theorem fll8_12 : flok 8 (91, 6, 3) := ⟨(gt1 (i := 136) rfl rfl), by decide, by decide⟩
theorem fll8_13 : flok 8 (94, 6, 0) := ⟨(gt1 (i := 132) rfl rfl), by decide, by decide⟩
theorem fll8_14 : flok 8 (103, 4, 6) := ⟨(gt1 (i := 107) rfl rfl), by decide, by decide⟩
theorem fll8_15 : flok 8 (112, 3, 0) := ⟨(gt1 (i := 37) rfl rfl), by decide, by decide⟩
theorem fll8_16 : flok 8 (116, 3, 1) := ⟨(gt1 (i := 41) rfl rfl), by decide, by decide⟩
theorem fll8_17 : flok 8 (137, 3, 2) := ⟨(gt1 (i := 47) rfl rfl), by decide, by decide⟩
theorem fll8_18 : flok 8 (140, 3, 3) := ⟨(gt1 (i := 52) rfl rfl), by decide, by decide⟩
theorem fll8_19 : flok 8 (143, 4, 2) := ⟨(gt1 (i := 100) rfl rfl), by decide, by decide⟩
theorem fll8_20 : flok 8 (146, 4, 1) := ⟨(gt1 (i := 98) rfl rfl), by decide, by decide⟩
theorem fll8_21 : flok 8 (149, 4, 3) := ⟨(gt1 (i := 102) rfl rfl), by decide, by decide⟩
theorem fll8_22 : flok 8 (155, 3, 4) := ⟨(gt1 (i := 55) rfl rfl), by decide, by decide⟩
theorem fll8_23 : flok 8 (158, 4, 5) := ⟨(gt1 (i := 106) rfl rfl), by decide, by decide⟩
theorem fll8_24 : flok 8 (161, 4, 4) := ⟨(gt1 (i := 104) rfl rfl), by decide, by decide⟩
theorem fll8_25 : flok 8 (211, 3, 6) := ⟨(gt1 (i := 67) rfl rfl), by decide, by decide⟩
theorem fll8_26 : flok 8 (240, 7, 6) := ⟨(gt1 (i := 239) rfl rfl), by decide, by decide⟩
theorem fll8_27 : flok 8 (248, 7, 7) := ⟨(gt2 (i := 1) rfl rfl), by decide, by decide⟩
theorem fll8_28 : flok 8 (273, 2, 5) := ⟨(gt2 (i := 38) rfl rfl), by decide, by decide⟩
theorem fll8_29 : flok 8 (276, 2, 1) := ⟨(gt2 (i := 33) rfl rfl), by decide, by decide⟩
theorem fll8_30 : flok 8 (295, 3, 5) := ⟨(gt1 (i := 60) rfl rfl), by decide, by decide⟩
theorem fll8_31 : flok 8 (298, 3, 7) := ⟨(gt1 (i := 71) rfl rfl), by decide, by decide⟩
theorem fll8_ok : ∀ q ∈ fll8, flok 8 q := List.forall_mem_cons.mpr ⟨fll8_0, List.forall_mem_cons.mpr ⟨fll8_1, List.forall_mem_cons.mpr ⟨fll8_2, List.forall_mem_cons.mpr ⟨fll8_3, List.forall_mem_cons.mpr ⟨fll8_4, List.forall_mem_cons.mpr ⟨fll8_5, List.forall_mem_cons.mpr ⟨fll8_6, List.forall_mem_cons.mpr ⟨fll8_7, List.forall_mem_cons.mpr ⟨fll8_8, List.forall_mem_cons.mpr ⟨fll8_9, List.forall_mem_cons.mpr ⟨fll8_10, List.forall_mem_cons.mpr ⟨fll8_11, List.forall_mem_cons.mpr ⟨fll8_12, List.forall_mem_cons.mpr ⟨fll8_13, List.forall_mem_cons.mpr ⟨fll8_14, List.forall_mem_cons.mpr ⟨fll8_15, List.forall_mem_cons.mpr ⟨fll8_16, List.forall_mem_cons.mpr ⟨fll8_17, List.forall_mem_cons.mpr ⟨fll8_18, List.forall_mem_cons.mpr ⟨fll8_19, List.forall_mem_cons.mpr ⟨fll8_20, List.forall_mem_cons.mpr ⟨fll8_21, List.forall_mem_cons.mpr ⟨fll8_22, List.forall_mem_cons.mpr ⟨fll8_23, List.forall_mem_cons.mpr ⟨fll8_24, List.forall_mem_cons.mpr ⟨fll8_25, List.forall_mem_cons.mpr ⟨fll8_26, List.forall_mem_cons.mpr ⟨fll8_27, List.forall_mem_cons.mpr ⟨fll8_28, List.forall_mem_cons.mpr ⟨fll8_29, List.forall_mem_cons.mpr ⟨fll8_30, List.forall_mem_cons.mpr ⟨fll8_31, fun _ h => absurd h List.not_mem_nil⟩⟩⟩⟩⟩⟩⟩⟩⟩⟩⟩⟩⟩⟩⟩⟩⟩⟩⟩⟩⟩⟩⟩⟩⟩⟩⟩⟩⟩⟩⟩⟩
theorem cll8_0 : clok 8 (83, m_X6_append, 0) := (gt2 (i := 91) rfl rfl)
theorem cll8_1 : clok 8 (87, m_X6_readAll, 0) := (gt2 (i := 103) rfl rfl)
theorem cll8_2 : clok 8 (97, m_X3_copyFrom, 0) := (gt2 (i := 207) rfl rfl)
theorem cll8_3 : clok 8 (100, m_X4_reset, 0) := (gt2 (i := 214) rfl rfl)
theorem cll8_4 : clok 8 (107, m_X3_hasPlank, 0) := (gt2 (i := 223) rfl rfl)
theorem cll8_5 : clok 8 (119, m_X4_moment, 0) := (gt2 (i := 228) rfl rfl)
theorem cll8_6 : clok 8 (123, m_X4_tilt, 0) := (gt2 (i := 236) rfl rfl)
theorem cll8_7 : clok 8 (126, m_X4_childrenOn, 0) := (gt3 (i := 4) rfl rfl)
theorem cll8_8 : clok 8 (129, m_J6_bitCount_0f7a4, 1) := (gt3 (i := 8) rfl rfl)
theorem cll8_9 : clok 8 (134, m_X3_hasChild, 0) := (gt3 (i := 18) rfl rfl)
theorem cll8_10 : clok 8 (152, m_X3_hasStone, 0) := (gt3 (i := 26) rfl rfl)
theorem cll8_11 : clok 8 (164, m_X3_hasSeat, 0) := (gt3 (i := 34) rfl rfl)
theorem cll8_12 : clok 8 (168, m_X4_hasChildAt, 0) := (gt3 (i := 39) rfl rfl)
theorem cll8_13 : clok 8 (171, m_X4_unseatChild, 0) := (gt3 (i := 43) rfl rfl)
theorem cll8_14 : clok 8 (174, m_X4_seatChild, 0) := (gt3 (i := 55) rfl rfl)
theorem cll8_15 : clok 8 (178, m_X4_hasStoneAt, 0) := (gt3 (i := 67) rfl rfl)
theorem cll8_16 : clok 8 (181, m_X4_liftStone, 0) := (gt3 (i := 71) rfl rfl)
theorem cll8_17 : clok 8 (184, m_X4_putStone, 0) := (gt3 (i := 75) rfl rfl)
theorem cll8_18 : clok 8 (187, m_X3_allChildren, 0) := (gt3 (i := 87) rfl rfl)
theorem cll8_19 : clok 8 (190, m_X8_askWays, 0) := (gt3 (i := 91) rfl rfl)
theorem cll8_20 : clok 8 (194, m_X5_countWays, 0) := (gt3 (i := 111) rfl rfl)
theorem cll8_21 : clok 8 (197, m_X5_findFirst, 0) := (gt3 (i := 128) rfl rfl)
theorem cll8_22 : clok 8 (201, m_X5_chosenStep, 0) := (gt3 (i := 136) rfl rfl)
theorem cll8_23 : clok 8 (204, m_X8_isZeroOrOne, 1) := (gt3 (i := 144) rfl rfl)
theorem cll8_24 : clok 8 (207, m_X1_spread, 0) := (gt3 (i := 147) rfl rfl)
theorem cll8_25 : clok 8 (214, m_X4_stoneMoment, 0) := (gt3 (i := 95) rfl rfl)
theorem cll8_26 : clok 8 (217, m_X1_largestLevel, 0) := (gt3 (i := 165) rfl rfl)
theorem cll8_27 : clok 8 (220, m_X8_countOrSet, 1) := (gt3 (i := 174) rfl rfl)
theorem cll8_28 : clok 8 (224, m_X5_fewestChanges, 0) := (gt3 (i := 181) rfl rfl)
theorem cll8_29 : clok 8 (227, m_X8_leastBallast, 0) := (gt3 (i := 193) rfl rfl)
theorem cll8_30 : clok 8 (230, m_X4_idleChildren, 0) := (gt3 (i := 209) rfl rfl)
theorem cll8_31 : clok 8 (233, m_X0_begin, 0) := (gt3 (i := 213) rfl rfl)
theorem cll8_32 : clok 8 (237, m_X0_winningMove, 0) := (gt3 (i := 220) rfl rfl)
theorem cll8_33 : clok 8 (243, m_X7_begin, 0) := (gt3 (i := 233) rfl rfl)
theorem cll8_34 : clok 8 (245, m_X7_hasStranger, 0) := (gt4 (i := 1) rfl rfl)
theorem cll8_35 : clok 8 (251, m_X7_addTrial, 0) := (gt4 (i := 5) rfl rfl)
theorem cll8_36 : clok 8 (255, m_X7_fitting, 0) := (gt4 (i := 13) rfl rfl)
theorem cll8_37 : clok 8 (258, m_X7_fittingWith, 0) := (gt4 (i := 40) rfl rfl)
theorem cll8_38 : clok 8 (261, m_X7_onlyWeight, 0) := (gt4 (i := 48) rfl rfl)
theorem cll8_39 : clok 8 (264, m_X7_bestPair, 0) := (gt4 (i := 57) rfl rfl)
theorem cll8_40 : clok 8 (267, m_X7_leftAtWorst, 0) := (gt4 (i := 68) rfl rfl)
theorem cll8_41 : clok 8 (270, m_X2_run, 0) := (gt4 (i := 73) rfl rfl)
theorem cll8_42 : clok 8 (279, m_X8_hasPartner, 0) := (gt4 (i := 110) rfl rfl)
theorem cll8_43 : clok 8 (282, m_X8_rateAs, 0) := (gt4 (i := 119) rfl rfl)
theorem cll8_44 : clok 8 (285, m_X8_imageOf, 0) := (gt4 (i := 131) rfl rfl)
theorem cll8_45 : clok 8 (289, m_X4_copyFrom, 0) := (gt4 (i := 135) rfl rfl)
theorem cll8_46 : clok 8 (292, m_X4_seatedChildren, 0) := (gt4 (i := 140) rfl rfl)
theorem cll8_47 : clok 8 (301, m_X5_begin, 0) := (gt3 (i := 96) rfl rfl)
theorem cll8_48 : clok 8 (303, m_X8_stepOfSeat, 1) := (gt3 (i := 100) rfl rfl)
theorem cll8_49 : clok 8 (306, m_X5_addSeat, 0) := (gt3 (i := 103) rfl rfl)
theorem cll8_50 : clok 8 (309, m_X5_addBody, 0) := (gt3 (i := 107) rfl rfl)
theorem cll8_51 : clok 8 (312, m_X4_idleStones, 0) := (gt3 (i := 197) rfl rfl)
theorem cll8_52 : clok 8 (315, m_X8_canBallast, 0) := (gt3 (i := 201) rfl rfl)
theorem cll8_53 : clok 8 (318, m_X3_fits, 0) := (gt4 (i := 114) rfl rfl)
theorem cll8_ok : ∀ q ∈ cll8, clok 8 q := List.forall_mem_cons.mpr ⟨cll8_0, List.forall_mem_cons.mpr ⟨cll8_1, List.forall_mem_cons.mpr ⟨cll8_2, List.forall_mem_cons.mpr ⟨cll8_3, List.forall_mem_cons.mpr ⟨cll8_4, List.forall_mem_cons.mpr ⟨cll8_5, List.forall_mem_cons.mpr ⟨cll8_6, List.forall_mem_cons.mpr ⟨cll8_7, List.forall_mem_cons.mpr ⟨cll8_8, List.forall_mem_cons.mpr ⟨cll8_9, List.forall_mem_cons.mpr ⟨cll8_10, List.forall_mem_cons.mpr ⟨cll8_11, List.forall_mem_cons.mpr ⟨cll8_12, List.forall_mem_cons.mpr ⟨cll8_13, List.forall_mem_cons.mpr ⟨cll8_14, List.forall_mem_cons.mpr ⟨cll8_15, List.forall_mem_cons.mpr ⟨cll8_16, List.forall_mem_cons.mpr ⟨cll8_17, List.forall_mem_cons.mpr ⟨cll8_18, List.forall_mem_cons.mpr ⟨cll8_19, List.forall_mem_cons.mpr ⟨cll8_20, List.forall_mem_cons.mpr ⟨cll8_21, List.forall_mem_cons.mpr ⟨cll8_22, List.forall_mem_cons.mpr ⟨cll8_23, List.forall_mem_cons.mpr ⟨cll8_24, List.forall_mem_cons.mpr ⟨cll8_25, List.forall_mem_cons.mpr ⟨cll8_26, List.forall_mem_cons.mpr ⟨cll8_27, List.forall_mem_cons.mpr ⟨cll8_28, List.forall_mem_cons.mpr ⟨cll8_29, List.forall_mem_cons.mpr ⟨cll8_30, List.forall_mem_cons.mpr ⟨cll8_31, List.forall_mem_cons.mpr ⟨cll8_32, List.forall_mem_cons.mpr ⟨cll8_33, List.forall_mem_cons.mpr ⟨cll8_34, List.forall_mem_cons.mpr ⟨cll8_35, List.forall_mem_cons.mpr ⟨cll8_36, List.forall_mem_cons.mpr ⟨cll8_37, List.forall_mem_cons.mpr ⟨cll8_38, List.forall_mem_cons.mpr ⟨cll8_39, List.forall_mem_cons.mpr ⟨cll8_40, List.forall_mem_cons.mpr ⟨cll8_41, List.forall_mem_cons.mpr ⟨cll8_42, List.forall_mem_cons.mpr ⟨cll8_43, List.forall_mem_cons.mpr ⟨cll8_44, List.forall_mem_cons.mpr ⟨cll8_45, List.forall_mem_cons.mpr ⟨cll8_46, List.forall_mem_cons.mpr ⟨cll8_47, List.forall_mem_cons.mpr ⟨cll8_48, List.forall_mem_cons.mpr ⟨cll8_49, List.forall_mem_cons.mpr ⟨cll8_50, List.forall_mem_cons.mpr ⟨cll8_51, List.forall_mem_cons.mpr ⟨cll8_52, List.forall_mem_cons.mpr ⟨cll8_53, fun _ h => absurd h List.not_mem_nil⟩⟩⟩⟩⟩⟩⟩⟩⟩⟩⟩⟩⟩⟩⟩⟩⟩⟩⟩⟩⟩⟩⟩⟩⟩⟩⟩⟩⟩⟩⟩⟩⟩⟩⟩⟩⟩⟩⟩⟩⟩⟩⟩⟩⟩⟩⟩⟩⟩⟩⟩⟩⟩⟩
theorem kil8_0 : Cond.constant (nmo 8) 111 (-1000000) ∈ gw := (gt2 (i := 227) rfl rfl)
theorem kil8_ok : ∀ q ∈ kil8, Cond.constant (nmo 8) q.1 q.2 ∈ gw := List.forall_mem_cons.mpr ⟨kil8_0, fun _ h => absurd h List.not_mem_nil⟩
theorem kll8_0 : Cond.constantLong (nmo 8) 81 (255) ∈ gw := (gt2 (i := 90) rfl rfl)
theorem kll8_ok : ∀ q ∈ kll8, Cond.constantLong (nmo 8) q.1 q.2 ∈ gw := List.forall_mem_cons.mpr ⟨kll8_0, fun _ h => absurd h List.not_mem_nil⟩
theorem fll9_0 : flok 9 (7, 9, 2) := ⟨(gt4 (i := 173) rfl rfl), by decide, by decide⟩
theorem fll9_1 : flok 9 (13, 9, 9) := ⟨(gt4 (i := 180) rfl rfl), by decide, by decide⟩
theorem fll9_2 : flok 9 (16, 9, 10) := ⟨(gt4 (i := 181) rfl rfl), by decide, by decide⟩
theorem fll9_3 : flok 9 (19, 9, 11) := ⟨(gt4 (i := 182) rfl rfl), by decide, by decide⟩
theorem fll9_4 : flok 9 (22, 9, 12) := ⟨(gt4 (i := 183) rfl rfl), by decide, by decide⟩
theorem fll9_5 : flok 9 (25, 9, 13) := ⟨(gt4 (i := 184) rfl rfl), by decide, by decide⟩
theorem fll9_6 : flok 9 (28, 9, 20) := ⟨(gt4 (i := 191) rfl rfl), by decide, by decide⟩
theorem fll9_7 : flok 9 (31, 9, 21) := ⟨(gt4 (i := 192) rfl rfl), by decide, by decide⟩
theorem fll9_8 : flok 9 (34, 9, 22) := ⟨(gt4 (i := 193) rfl rfl), by decide, by decide⟩
theorem fll9_9 : flok 9 (38, 9, 23) := ⟨(gt4 (i := 194) rfl rfl), by decide, by decide⟩
theorem fll9_10 : flok 9 (41, 9, 25) := ⟨(gt4 (i := 196) rfl rfl), by decide, by decide⟩
theorem fll9_11 : flok 9 (44, 9, 26) := ⟨(gt4 (i := 197) rfl rfl), by decide, by decide⟩
theorem fll9_12 : flok 9 (47, 9, 28) := ⟨(gt4 (i := 199) rfl rfl), by decide, by decide⟩
theorem fll9_13 : flok 9 (50, 9, 30) := ⟨(gt4 (i := 201) rfl rfl), by decide, by decide⟩
theorem fll9_14 : flok 9 (53, 9, 31) := ⟨(gt4 (i := 202) rfl rfl), by decide, by decide⟩
theorem fll9_15 : flok 9 (56, 9, 33) := ⟨(gt4 (i := 204) rfl rfl), by decide, by decide⟩
theorem fll9_16 : flok 9 (59, 9, 34) := ⟨(gt4 (i := 205) rfl rfl), by decide, by decide⟩
theorem fll9_17 : flok 9 (62, 9, 35) := ⟨(gt4 (i := 206) rfl rfl), by decide, by decide⟩
theorem fll9_18 : flok 9 (65, 9, 27) := ⟨(gt4 (i := 198) rfl rfl), by decide, by decide⟩
theorem fll9_19 : flok 9 (72, 9, 0) := ⟨(gt4 (i := 171) rfl rfl), by decide, by decide⟩
theorem fll9_20 : flok 9 (79, 9, 3) := ⟨(gt4 (i := 174) rfl rfl), by decide, by decide⟩
theorem fll9_21 : flok 9 (94, 9, 4) := ⟨(gt4 (i := 175) rfl rfl), by decide, by decide⟩
theorem fll9_22 : flok 9 (101, 9, 6) := ⟨(gt4 (i := 177) rfl rfl), by decide, by decide⟩
theorem fll9_23 : flok 9 (104, 9, 5) := ⟨(gt4 (i := 176) rfl rfl), by decide, by decide⟩
theorem fll9_24 : flok 9 (111, 9, 7) := ⟨(gt4 (i := 178) rfl rfl), by decide, by decide⟩
theorem fll9_25 : flok 9 (114, 9, 8) := ⟨(gt4 (i := 179) rfl rfl), by decide, by decide⟩
theorem fll9_26 : flok 9 (128, 9, 17) := ⟨(gt4 (i := 188) rfl rfl), by decide, by decide⟩
theorem fll9_27 : flok 9 (135, 9, 18) := ⟨(gt4 (i := 189) rfl rfl), by decide, by decide⟩
theorem fll9_28 : flok 9 (138, 9, 19) := ⟨(gt4 (i := 190) rfl rfl), by decide, by decide⟩
theorem fll9_29 : flok 9 (145, 9, 14) := ⟨(gt4 (i := 185) rfl rfl), by decide, by decide⟩
theorem fll9_30 : flok 9 (148, 9, 15) := ⟨(gt4 (i := 186) rfl rfl), by decide, by decide⟩
theorem fll9_31 : flok 9 (151, 9, 16) := ⟨(gt4 (i := 187) rfl rfl), by decide, by decide⟩
theorem fll9_32 : flok 9 (193, 9, 24) := ⟨(gt4 (i := 195) rfl rfl), by decide, by decide⟩
theorem fll9_33 : flok 9 (243, 9, 29) := ⟨(gt4 (i := 200) rfl rfl), by decide, by decide⟩
theorem fll9_34 : flok 9 (264, 9, 32) := ⟨(gt4 (i := 203) rfl rfl), by decide, by decide⟩
theorem fll9_35 : flok 9 (289, 9, 1) := ⟨(gt4 (i := 172) rfl rfl), by decide, by decide⟩
theorem fll9_ok : ∀ q ∈ fll9, flok 9 q := List.forall_mem_cons.mpr ⟨fll9_0, List.forall_mem_cons.mpr ⟨fll9_1, List.forall_mem_cons.mpr ⟨fll9_2, List.forall_mem_cons.mpr ⟨fll9_3, List.forall_mem_cons.mpr ⟨fll9_4, List.forall_mem_cons.mpr ⟨fll9_5, List.forall_mem_cons.mpr ⟨fll9_6, List.forall_mem_cons.mpr ⟨fll9_7, List.forall_mem_cons.mpr ⟨fll9_8, List.forall_mem_cons.mpr ⟨fll9_9, List.forall_mem_cons.mpr ⟨fll9_10, List.forall_mem_cons.mpr ⟨fll9_11, List.forall_mem_cons.mpr ⟨fll9_12, List.forall_mem_cons.mpr ⟨fll9_13, List.forall_mem_cons.mpr ⟨fll9_14, List.forall_mem_cons.mpr ⟨fll9_15, List.forall_mem_cons.mpr ⟨fll9_16, List.forall_mem_cons.mpr ⟨fll9_17, List.forall_mem_cons.mpr ⟨fll9_18, List.forall_mem_cons.mpr ⟨fll9_19, List.forall_mem_cons.mpr ⟨fll9_20, List.forall_mem_cons.mpr ⟨fll9_21, List.forall_mem_cons.mpr ⟨fll9_22, List.forall_mem_cons.mpr ⟨fll9_23, List.forall_mem_cons.mpr ⟨fll9_24, List.forall_mem_cons.mpr ⟨fll9_25, List.forall_mem_cons.mpr ⟨fll9_26, List.forall_mem_cons.mpr ⟨fll9_27, List.forall_mem_cons.mpr ⟨fll9_28, List.forall_mem_cons.mpr ⟨fll9_29, List.forall_mem_cons.mpr ⟨fll9_30, List.forall_mem_cons.mpr ⟨fll9_31, List.forall_mem_cons.mpr ⟨fll9_32, List.forall_mem_cons.mpr ⟨fll9_33, List.forall_mem_cons.mpr ⟨fll9_34, List.forall_mem_cons.mpr ⟨fll9_35, fun _ h => absurd h List.not_mem_nil⟩⟩⟩⟩⟩⟩⟩⟩⟩⟩⟩⟩⟩⟩⟩⟩⟩⟩⟩⟩⟩⟩⟩⟩⟩⟩⟩⟩⟩⟩⟩⟩⟩⟩⟩⟩
theorem cll9_0 : clok 9 (69, m_X9_begins, 0) := (gt4 (i := 164) rfl rfl)
theorem cll9_1 : clok 9 (75, m_X9_in, 1) := (gt4 (i := 168) rfl rfl)
theorem cll9_2 : clok 9 (86, m_X9_add, 1) := (gt5 (i := 62) rfl rfl)
theorem cll9_3 : clok 9 (90, m_X9_named, 1) := (gt5 (i := 69) rfl rfl)
theorem cll9_4 : clok 9 (97, m_X9_byteAt, 0) := (gt5 (i := 58) rfl rfl)
theorem cll9_5 : clok 9 (107, m_X9_wordOf, 1) := (gt5 (i := 66) rfl rfl)
theorem cll9_6 : clok 9 (117, m_X9_isWell, 0) := (gt5 (i := 72) rfl rfl)
theorem cll9_7 : clok 9 (121, m_X9_advances, 0) := (gt5 (i := 54) rfl rfl)
theorem cll9_8 : clok 9 (124, m_X9_takes, 0) := (gt5 (i := 76) rfl rfl)
theorem cll9_9 : clok 9 (131, m_X9_number, 0) := (gt5 (i := 84) rfl rfl)
theorem cll9_10 : clok 9 (141, m_X9_readsItem, 0) := (gt5 (i := 80) rfl rfl)
theorem cll9_11 : clok 9 (154, m_X9_stonesOn, 0) := (gt5 (i := 101) rfl rfl)
theorem cll9_12 : clok 9 (157, m_X9_size, 1) := (gt5 (i := 113) rfl rfl)
theorem cll9_13 : clok 9 (160, m_X9_momentOf, 0) := (gt5 (i := 97) rfl rfl)
theorem cll9_14 : clok 9 (163, m_X9_tiltBy, 0) := (gt5 (i := 109) rfl rfl)
theorem cll9_15 : clok 9 (166, m_X9_isPlank, 0) := (gt5 (i := 92) rfl rfl)
theorem cll9_16 : clok 9 (171, m_X9_tiltOf, 0) := (gt5 (i := 105) rfl rfl)
theorem cll9_17 : clok 9 (174, m_X9_sittingOn, 0) := (gt5 (i := 116) rfl rfl)
theorem cll9_18 : clok 9 (177, m_X9_isChild, 0) := (gt5 (i := 124) rfl rfl)
theorem cll9_19 : clok 9 (180, m_X9_isStone, 0) := (gt5 (i := 132) rfl rfl)
theorem cll9_20 : clok 9 (183, m_X9_bumps, 0) := (gt5 (i := 144) rfl rfl)
theorem cll9_21 : clok 9 (186, m_X9_goes, 0) := (gt5 (i := 140) rfl rfl)
theorem cll9_22 : clok 9 (189, m_X9_comes, 0) := (gt5 (i := 148) rfl rfl)
theorem cll9_23 : clok 9 (196, m_X9_seats, 0) := (gt5 (i := 177) rfl rfl)
theorem cll9_24 : clok 9 (199, m_X9_freeSeat, 0) := (gt5 (i := 181) rfl rfl)
theorem cll9_25 : clok 9 (202, m_X9_stepOf, 0) := (gt5 (i := 185) rfl rfl)
theorem cll9_26 : clok 9 (205, m_X9_all, 0) := (gt5 (i := 168) rfl rfl)
theorem cll9_27 : clok 9 (210, m_X9_waysOf, 0) := (gt5 (i := 173) rfl rfl)
theorem cll9_28 : clok 9 (214, m_X9_ones, 1) := (gt5 (i := 193) rfl rfl)
theorem cll9_29 : clok 9 (217, m_X9_hasStone, 0) := (gt5 (i := 208) rfl rfl)
theorem cll9_30 : clok 9 (221, m_X9_levels, 0) := (gt5 (i := 204) rfl rfl)
theorem cll9_31 : clok 9 (224, m_X9_isTaken, 0) := (gt5 (i := 224) rfl rfl)
theorem cll9_32 : clok 9 (227, m_X9_mayPut, 0) := (gt5 (i := 220) rfl rfl)
theorem cll9_33 : clok 9 (231, m_X9_lastMove, 0) := (gt5 (i := 236) rfl rfl)
theorem cll9_34 : clok 9 (234, m_X9_twoMoves, 0) := (gt5 (i := 232) rfl rfl)
theorem cll9_35 : clok 9 (237, m_X9_threeMoves, 0) := (gt5 (i := 228) rfl rfl)
theorem cll9_36 : clok 9 (240, m_X9_fourMoves, 0) := (gt5 (i := 216) rfl rfl)
theorem cll9_37 : clok 9 (246, m_X9_isStranger, 0) := (gt6 (i := 8) rfl rfl)
theorem cll9_38 : clok 9 (249, m_X9_weightIn, 1) := (gt6 (i := 31) rfl rfl)
theorem cll9_39 : clok 9 (252, m_X9_weighs, 1) := (gt6 (i := 28) rfl rfl)
theorem cll9_40 : clok 9 (255, m_X9_allWays, 0) := (gt6 (i := 20) rfl rfl)
theorem cll9_41 : clok 9 (258, m_X9_fits, 0) := (gt6 (i := 24) rfl rfl)
theorem cll9_42 : clok 9 (261, m_X9_couldBe, 0) := (gt6 (i := 16) rfl rfl)
theorem cll9_43 : clok 9 (267, m_X9_lesser, 1) := (gt6 (i := 54) rfl rfl)
theorem cll9_44 : clok 9 (270, m_X9_waits, 0) := (gt6 (i := 57) rfl rfl)
theorem cll9_45 : clok 9 (273, m_X9_areAPair, 0) := (gt6 (i := 65) rfl rfl)
theorem cll9_46 : clok 9 (276, m_X9_outOfRow, 0) := (gt6 (i := 69) rfl rfl)
theorem cll9_47 : clok 9 (279, m_X9_letsOff, 0) := (gt6 (i := 50) rfl rfl)
theorem cll9_48 : clok 9 (282, m_X9_takesOn, 0) := (gt6 (i := 61) rfl rfl)
theorem cll9_49 : clok 9 (286, m_X9_goesBy, 0) := (gt6 (i := 46) rfl rfl)
theorem cll9_50 : clok 9 (303, m_X9_sitting, 0) := (gt6 (i := 90) rfl rfl)
theorem cll9_ok : ∀ q ∈ cll9, clok 9 q := List.forall_mem_cons.mpr ⟨cll9_0, List.forall_mem_cons.mpr ⟨cll9_1, List.forall_mem_cons.mpr ⟨cll9_2, List.forall_mem_cons.mpr ⟨cll9_3, List.forall_mem_cons.mpr ⟨cll9_4, List.forall_mem_cons.mpr ⟨cll9_5, List.forall_mem_cons.mpr ⟨cll9_6, List.forall_mem_cons.mpr ⟨cll9_7, List.forall_mem_cons.mpr ⟨cll9_8, List.forall_mem_cons.mpr ⟨cll9_9, List.forall_mem_cons.mpr ⟨cll9_10, List.forall_mem_cons.mpr ⟨cll9_11, List.forall_mem_cons.mpr ⟨cll9_12, List.forall_mem_cons.mpr ⟨cll9_13, List.forall_mem_cons.mpr ⟨cll9_14, List.forall_mem_cons.mpr ⟨cll9_15, List.forall_mem_cons.mpr ⟨cll9_16, List.forall_mem_cons.mpr ⟨cll9_17, List.forall_mem_cons.mpr ⟨cll9_18, List.forall_mem_cons.mpr ⟨cll9_19, List.forall_mem_cons.mpr ⟨cll9_20, List.forall_mem_cons.mpr ⟨cll9_21, List.forall_mem_cons.mpr ⟨cll9_22, List.forall_mem_cons.mpr ⟨cll9_23, List.forall_mem_cons.mpr ⟨cll9_24, List.forall_mem_cons.mpr ⟨cll9_25, List.forall_mem_cons.mpr ⟨cll9_26, List.forall_mem_cons.mpr ⟨cll9_27, List.forall_mem_cons.mpr ⟨cll9_28, List.forall_mem_cons.mpr ⟨cll9_29, List.forall_mem_cons.mpr ⟨cll9_30, List.forall_mem_cons.mpr ⟨cll9_31, List.forall_mem_cons.mpr ⟨cll9_32, List.forall_mem_cons.mpr ⟨cll9_33, List.forall_mem_cons.mpr ⟨cll9_34, List.forall_mem_cons.mpr ⟨cll9_35, List.forall_mem_cons.mpr ⟨cll9_36, List.forall_mem_cons.mpr ⟨cll9_37, List.forall_mem_cons.mpr ⟨cll9_38, List.forall_mem_cons.mpr ⟨cll9_39, List.forall_mem_cons.mpr ⟨cll9_40, List.forall_mem_cons.mpr ⟨cll9_41, List.forall_mem_cons.mpr ⟨cll9_42, List.forall_mem_cons.mpr ⟨cll9_43, List.forall_mem_cons.mpr ⟨cll9_44, List.forall_mem_cons.mpr ⟨cll9_45, List.forall_mem_cons.mpr ⟨cll9_46, List.forall_mem_cons.mpr ⟨cll9_47, List.forall_mem_cons.mpr ⟨cll9_48, List.forall_mem_cons.mpr ⟨cll9_49, List.forall_mem_cons.mpr ⟨cll9_50, fun _ h => absurd h List.not_mem_nil⟩⟩⟩⟩⟩⟩⟩⟩⟩⟩⟩⟩⟩⟩⟩⟩⟩⟩⟩⟩⟩⟩⟩⟩⟩⟩⟩⟩⟩⟩⟩⟩⟩⟩⟩⟩⟩⟩⟩⟩⟩⟩⟩⟩⟩⟩⟩⟩⟩⟩⟩
theorem kil9_0 : Cond.constant (nmo 9) 170 (-1000000) ∈ gw := (gt5 (i := 96) rfl rfl)
theorem kil9_1 : Cond.constant (nmo 9) 209 (1000000) ∈ gw := (gt5 (i := 172) rfl rfl)
theorem kil9_ok : ∀ q ∈ kil9, Cond.constant (nmo 9) q.1 q.2 ∈ gw := List.forall_mem_cons.mpr ⟨kil9_0, List.forall_mem_cons.mpr ⟨kil9_1, fun _ h => absurd h List.not_mem_nil⟩⟩
theorem kll9_0 : Cond.constantLong (nmo 9) 82 (255) ∈ gw := (gt5 (i := 45) rfl rfl)
theorem kll9_1 : Cond.constantLong (nmo 9) 84 (256) ∈ gw := (gt5 (i := 65) rfl rfl)
theorem kll9_2 : Cond.constantLong (nmo 9) 293 (11) ∈ gw := (gt6 (i := 81) rfl rfl)
theorem kll9_3 : Cond.constantLong (nmo 9) 295 (101) ∈ gw := (gt6 (i := 82) rfl rfl)
theorem kll9_4 : Cond.constantLong (nmo 9) 297 (1011) ∈ gw := (gt6 (i := 83) rfl rfl)
theorem kll9_5 : Cond.constantLong (nmo 9) 299 (10101) ∈ gw := (gt6 (i := 84) rfl rfl)
theorem kll9_6 : Cond.constantLong (nmo 9) 301 (100001) ∈ gw := (gt6 (i := 85) rfl rfl)
theorem kll9_ok : ∀ q ∈ kll9, Cond.constantLong (nmo 9) q.1 q.2 ∈ gw := List.forall_mem_cons.mpr ⟨kll9_0, List.forall_mem_cons.mpr ⟨kll9_1, List.forall_mem_cons.mpr ⟨kll9_2, List.forall_mem_cons.mpr ⟨kll9_3, List.forall_mem_cons.mpr ⟨kll9_4, List.forall_mem_cons.mpr ⟨kll9_5, List.forall_mem_cons.mpr ⟨kll9_6, fun _ h => absurd h List.not_mem_nil⟩⟩⟩⟩⟩⟩⟩
theorem fll10_ok : ∀ q ∈ fll10, flok 10 q := fun _ h => absurd h List.not_mem_nil
theorem cll10_ok : ∀ q ∈ cll10, clok 10 q := fun _ h => absurd h List.not_mem_nil
theorem kil10_0 : Cond.constant (nmo 10) 265 (1431655765) ∈ gw := (gt3 (i := 11) rfl rfl)
theorem kil10_1 : Cond.constant (nmo 10) 266 (858993459) ∈ gw := (gt3 (i := 12) rfl rfl)
theorem kil10_2 : Cond.constant (nmo 10) 267 (252645135) ∈ gw := (gt3 (i := 13) rfl rfl)
theorem kil10_ok : ∀ q ∈ kil10, Cond.constant (nmo 10) q.1 q.2 ∈ gw := List.forall_mem_cons.mpr ⟨kil10_0, List.forall_mem_cons.mpr ⟨kil10_1, List.forall_mem_cons.mpr ⟨kil10_2, fun _ h => absurd h List.not_mem_nil⟩⟩⟩
theorem kll10_ok : ∀ q ∈ kll10, Cond.constantLong (nmo 10) q.1 q.2 ∈ gw := fun _ h => absurd h List.not_mem_nil
theorem fll11_ok : ∀ q ∈ fll11, flok 11 q := fun _ h => absurd h List.not_mem_nil
theorem cll11_ok : ∀ q ∈ cll11, clok 11 q := fun _ h => absurd h List.not_mem_nil
theorem kil11_ok : ∀ q ∈ kil11, Cond.constant (nmo 11) q.1 q.2 ∈ gw := fun _ h => absurd h List.not_mem_nil
theorem kll11_ok : ∀ q ∈ kll11, Cond.constantLong (nmo 11) q.1 q.2 ∈ gw := fun _ h => absurd h List.not_mem_nil
theorem fll12_ok : ∀ q ∈ fll12, flok 12 q := fun _ h => absurd h List.not_mem_nil
theorem cll12_ok : ∀ q ∈ cll12, clok 12 q := fun _ h => absurd h List.not_mem_nil
theorem kil12_ok : ∀ q ∈ kil12, Cond.constant (nmo 12) q.1 q.2 ∈ gw := fun _ h => absurd h List.not_mem_nil
theorem kll12_ok : ∀ q ∈ kll12, Cond.constantLong (nmo 12) q.1 q.2 ∈ gw := fun _ h => absurd h List.not_mem_nil
theorem fll13_ok : ∀ q ∈ fll13, flok 13 q := fun _ h => absurd h List.not_mem_nil
theorem cll13_0 : clok 13 (335, m_J0_coder_7d493, 0) := (gt2 (i := 131) rfl rfl)
theorem cll13_1 : clok 13 (492, m_J0_isLatin1_aae02, 0) := (gt2 (i := 141) rfl rfl)
theorem cll13_2 : clok 13 (495, m_J1_charAt_3b067, 1) := (gt2 (i := 145) rfl rfl)
theorem cll13_3 : clok 13 (1059, m_J3_checkIndex_8e157, 1) := (gt2 (i := 153) rfl rfl)
theorem cll13_ok : ∀ q ∈ cll13, clok 13 q := List.forall_mem_cons.mpr ⟨cll13_0, List.forall_mem_cons.mpr ⟨cll13_1, List.forall_mem_cons.mpr ⟨cll13_2, List.forall_mem_cons.mpr ⟨cll13_3, fun _ h => absurd h List.not_mem_nil⟩⟩⟩⟩
theorem kil13_ok : ∀ q ∈ kil13, Cond.constant (nmo 13) q.1 q.2 ∈ gw := fun _ h => absurd h List.not_mem_nil
theorem kll13_ok : ∀ q ∈ kll13, Cond.constantLong (nmo 13) q.1 q.2 ∈ gw := fun _ h => absurd h List.not_mem_nil
theorem fll14_ok : ∀ q ∈ fll14, flok 14 q := fun _ h => absurd h List.not_mem_nil
theorem cll14_0 : clok 14 (9, m_J0_checkIndex_df160, 1) := (gt2 (i := 148) rfl rfl)
theorem cll14_ok : ∀ q ∈ cll14, clok 14 q := List.forall_mem_cons.mpr ⟨cll14_0, fun _ h => absurd h List.not_mem_nil⟩
theorem kil14_ok : ∀ q ∈ kil14, Cond.constant (nmo 14) q.1 q.2 ∈ gw := fun _ h => absurd h List.not_mem_nil
theorem kll14_ok : ∀ q ∈ kll14, Cond.constantLong (nmo 14) q.1 q.2 ∈ gw := fun _ h => absurd h List.not_mem_nil
theorem fll15_ok : ∀ q ∈ fll15, flok 15 q := fun _ h => absurd h List.not_mem_nil
theorem cll15_ok : ∀ q ∈ cll15, clok 15 q := fun _ h => absurd h List.not_mem_nil
theorem kil15_ok : ∀ q ∈ kil15, Cond.constant (nmo 15) q.1 q.2 ∈ gw := fun _ h => absurd h List.not_mem_nil
theorem kll15_ok : ∀ q ∈ kll15, Cond.constantLong (nmo 15) q.1 q.2 ∈ gw := fun _ h => absurd h List.not_mem_nil
theorem fll_ok : ∀ (own : Nat) (r : List (Nat × Nat × Nat)), fll[own]? = some r → ∀ q ∈ r, flok own q := by
  intro own r h
  match own, h with
  | 0, h => cases h; exact fll0_ok
  | 1, h => cases h; exact fll1_ok
  | 2, h => cases h; exact fll2_ok
  | 3, h => cases h; exact fll3_ok
  | 4, h => cases h; exact fll4_ok
  | 5, h => cases h; exact fll5_ok
  | 6, h => cases h; exact fll6_ok
  | 7, h => cases h; exact fll7_ok
  | 8, h => cases h; exact fll8_ok
  | 9, h => cases h; exact fll9_ok
  | 10, h => cases h; exact fll10_ok
  | 11, h => cases h; exact fll11_ok
  | 12, h => cases h; exact fll12_ok
  | 13, h => cases h; exact fll13_ok
  | 14, h => cases h; exact fll14_ok
  | 15, h => cases h; exact fll15_ok
  | n + 16, h => exact absurd h (by unfold fll; simp)
theorem cll_ok : ∀ (own : Nat) (r : List (Nat × Mth × Nat)), cll[own]? = some r → ∀ q ∈ r, clok own q := by
  intro own r h
  match own, h with
  | 0, h => cases h; exact cll0_ok
  | 1, h => cases h; exact cll1_ok
  | 2, h => cases h; exact cll2_ok
  | 3, h => cases h; exact cll3_ok
  | 4, h => cases h; exact cll4_ok
  | 5, h => cases h; exact cll5_ok
  | 6, h => cases h; exact cll6_ok
  | 7, h => cases h; exact cll7_ok
  | 8, h => cases h; exact cll8_ok
  | 9, h => cases h; exact cll9_ok
  | 10, h => cases h; exact cll10_ok
  | 11, h => cases h; exact cll11_ok
  | 12, h => cases h; exact cll12_ok
  | 13, h => cases h; exact cll13_ok
  | 14, h => cases h; exact cll14_ok
  | 15, h => cases h; exact cll15_ok
  | n + 16, h => exact absurd h (by unfold cll; simp)
theorem kil_ok : ∀ (own : Nat) (r : List (Nat × Int32)), kil[own]? = some r → ∀ q ∈ r, Cond.constant (nmo own) q.1 q.2 ∈ gw := by
  intro own r h
  match own, h with
  | 0, h => cases h; exact kil0_ok
  | 1, h => cases h; exact kil1_ok
  | 2, h => cases h; exact kil2_ok
  | 3, h => cases h; exact kil3_ok
  | 4, h => cases h; exact kil4_ok
  | 5, h => cases h; exact kil5_ok
  | 6, h => cases h; exact kil6_ok
  | 7, h => cases h; exact kil7_ok
  | 8, h => cases h; exact kil8_ok
  | 9, h => cases h; exact kil9_ok
  | 10, h => cases h; exact kil10_ok
  | 11, h => cases h; exact kil11_ok
  | 12, h => cases h; exact kil12_ok
  | 13, h => cases h; exact kil13_ok
  | 14, h => cases h; exact kil14_ok
  | 15, h => cases h; exact kil15_ok
  | n + 16, h => exact absurd h (by unfold kil; simp)
theorem kll_ok : ∀ (own : Nat) (r : List (Nat × Int64)), kll[own]? = some r → ∀ q ∈ r, Cond.constantLong (nmo own) q.1 q.2 ∈ gw := by
  intro own r h
  match own, h with
  | 0, h => cases h; exact kll0_ok
  | 1, h => cases h; exact kll1_ok
  | 2, h => cases h; exact kll2_ok
  | 3, h => cases h; exact kll3_ok
  | 4, h => cases h; exact kll4_ok
  | 5, h => cases h; exact kll5_ok
  | 6, h => cases h; exact kll6_ok
  | 7, h => cases h; exact kll7_ok
  | 8, h => cases h; exact kll8_ok
  | 9, h => cases h; exact kll9_ok
  | 10, h => cases h; exact kll10_ok
  | 11, h => cases h; exact kll11_ok
  | 12, h => cases h; exact kll12_ok
  | 13, h => cases h; exact kll13_ok
  | 14, h => cases h; exact kll14_ok
  | 15, h => cases h; exact kll15_ok
  | n + 16, h => exact absurd h (by unfold kll; simp)
theorem lay0 : ∀ w ∈ u_ws (fcl 0).1 (fcl 0).2.1 (fcl 0).2.2, w ∈ gw := List.forall_mem_cons.mpr ⟨(gt1 (i := 215) rfl rfl), List.forall_mem_cons.mpr ⟨(gt1 (i := 217) rfl rfl), List.forall_mem_cons.mpr ⟨(gt1 (i := 219) rfl rfl), List.forall_mem_cons.mpr ⟨(gt1 (i := 221) rfl rfl), List.forall_mem_cons.mpr ⟨(gt1 (i := 223) rfl rfl), fun _ h => absurd h List.not_mem_nil⟩⟩⟩⟩⟩
theorem lay1 : ∀ w ∈ u_ws (fcl 1).1 (fcl 1).2.1 (fcl 1).2.2, w ∈ gw := List.forall_mem_cons.mpr ⟨(gt1 (i := 200) rfl rfl), fun _ h => absurd h List.not_mem_nil⟩
theorem lay2 : ∀ w ∈ u_ws (fcl 2).1 (fcl 2).2.1 (fcl 2).2.2, w ∈ gw := List.forall_mem_cons.mpr ⟨(gt2 (i := 39) rfl rfl), List.forall_mem_cons.mpr ⟨(gt2 (i := 41) rfl rfl), List.forall_mem_cons.mpr ⟨(gt2 (i := 43) rfl rfl), List.forall_mem_cons.mpr ⟨(gt2 (i := 45) rfl rfl), List.forall_mem_cons.mpr ⟨(gt2 (i := 47) rfl rfl), List.forall_mem_cons.mpr ⟨(gt2 (i := 49) rfl rfl), fun _ h => absurd h List.not_mem_nil⟩⟩⟩⟩⟩⟩
theorem lay3 : ∀ w ∈ u_ws (fcl 3).1 (fcl 3).2.1 (fcl 3).2.2, w ∈ gw := List.forall_mem_cons.mpr ⟨(gt1 (i := 72) rfl rfl), List.forall_mem_cons.mpr ⟨(gt1 (i := 74) rfl rfl), List.forall_mem_cons.mpr ⟨(gt1 (i := 76) rfl rfl), List.forall_mem_cons.mpr ⟨(gt1 (i := 78) rfl rfl), List.forall_mem_cons.mpr ⟨(gt1 (i := 80) rfl rfl), List.forall_mem_cons.mpr ⟨(gt1 (i := 82) rfl rfl), List.forall_mem_cons.mpr ⟨(gt1 (i := 84) rfl rfl), List.forall_mem_cons.mpr ⟨(gt1 (i := 86) rfl rfl), fun _ h => absurd h List.not_mem_nil⟩⟩⟩⟩⟩⟩⟩⟩
theorem lay4 : ∀ w ∈ u_ws (fcl 4).1 (fcl 4).2.1 (fcl 4).2.2, w ∈ gw := List.forall_mem_cons.mpr ⟨(gt1 (i := 108) rfl rfl), List.forall_mem_cons.mpr ⟨(gt1 (i := 110) rfl rfl), List.forall_mem_cons.mpr ⟨(gt1 (i := 112) rfl rfl), List.forall_mem_cons.mpr ⟨(gt1 (i := 114) rfl rfl), List.forall_mem_cons.mpr ⟨(gt1 (i := 116) rfl rfl), List.forall_mem_cons.mpr ⟨(gt1 (i := 118) rfl rfl), List.forall_mem_cons.mpr ⟨(gt1 (i := 120) rfl rfl), fun _ h => absurd h List.not_mem_nil⟩⟩⟩⟩⟩⟩⟩
theorem lay5 : ∀ w ∈ u_ws (fcl 5).1 (fcl 5).2.1 (fcl 5).2.2, w ∈ gw := List.forall_mem_cons.mpr ⟨(gt1 (i := 172) rfl rfl), List.forall_mem_cons.mpr ⟨(gt1 (i := 174) rfl rfl), List.forall_mem_cons.mpr ⟨(gt1 (i := 176) rfl rfl), List.forall_mem_cons.mpr ⟨(gt1 (i := 178) rfl rfl), List.forall_mem_cons.mpr ⟨(gt1 (i := 180) rfl rfl), List.forall_mem_cons.mpr ⟨(gt1 (i := 182) rfl rfl), List.forall_mem_cons.mpr ⟨(gt1 (i := 184) rfl rfl), List.forall_mem_cons.mpr ⟨(gt1 (i := 186) rfl rfl), List.forall_mem_cons.mpr ⟨(gt1 (i := 188) rfl rfl), List.forall_mem_cons.mpr ⟨(gt1 (i := 190) rfl rfl), fun _ h => absurd h List.not_mem_nil⟩⟩⟩⟩⟩⟩⟩⟩⟩⟩
theorem lay6 : ∀ w ∈ u_ws (fcl 6).1 (fcl 6).2.1 (fcl 6).2.2, w ∈ gw := List.forall_mem_cons.mpr ⟨(gt1 (i := 141) rfl rfl), List.forall_mem_cons.mpr ⟨(gt1 (i := 143) rfl rfl), List.forall_mem_cons.mpr ⟨(gt1 (i := 145) rfl rfl), List.forall_mem_cons.mpr ⟨(gt1 (i := 147) rfl rfl), List.forall_mem_cons.mpr ⟨(gt1 (i := 149) rfl rfl), List.forall_mem_cons.mpr ⟨(gt1 (i := 151) rfl rfl), List.forall_mem_cons.mpr ⟨(gt1 (i := 153) rfl rfl), fun _ h => absurd h List.not_mem_nil⟩⟩⟩⟩⟩⟩⟩
theorem lay7 : ∀ w ∈ u_ws (fcl 7).1 (fcl 7).2.1 (fcl 7).2.2, w ∈ gw := List.forall_mem_cons.mpr ⟨(gt2 (i := 4) rfl rfl), List.forall_mem_cons.mpr ⟨(gt2 (i := 6) rfl rfl), List.forall_mem_cons.mpr ⟨(gt2 (i := 8) rfl rfl), List.forall_mem_cons.mpr ⟨(gt2 (i := 10) rfl rfl), List.forall_mem_cons.mpr ⟨(gt2 (i := 12) rfl rfl), List.forall_mem_cons.mpr ⟨(gt2 (i := 14) rfl rfl), List.forall_mem_cons.mpr ⟨(gt2 (i := 16) rfl rfl), List.forall_mem_cons.mpr ⟨(gt2 (i := 18) rfl rfl), List.forall_mem_cons.mpr ⟨(gt2 (i := 20) rfl rfl), List.forall_mem_cons.mpr ⟨(gt2 (i := 22) rfl rfl), fun _ h => absurd h List.not_mem_nil⟩⟩⟩⟩⟩⟩⟩⟩⟩⟩
theorem lay8 : ∀ w ∈ u_ws (fcl 8).1 (fcl 8).2.1 (fcl 8).2.2, w ∈ gw := List.forall_mem_cons.mpr ⟨(gt2 (i := 63) rfl rfl), List.forall_mem_cons.mpr ⟨(gt2 (i := 65) rfl rfl), List.forall_mem_cons.mpr ⟨(gt2 (i := 67) rfl rfl), List.forall_mem_cons.mpr ⟨(gt2 (i := 69) rfl rfl), List.forall_mem_cons.mpr ⟨(gt2 (i := 71) rfl rfl), List.forall_mem_cons.mpr ⟨(gt2 (i := 73) rfl rfl), List.forall_mem_cons.mpr ⟨(gt2 (i := 75) rfl rfl), List.forall_mem_cons.mpr ⟨(gt2 (i := 77) rfl rfl), List.forall_mem_cons.mpr ⟨(gt2 (i := 79) rfl rfl), List.forall_mem_cons.mpr ⟨(gt2 (i := 81) rfl rfl), List.forall_mem_cons.mpr ⟨(gt2 (i := 83) rfl rfl), fun _ h => absurd h List.not_mem_nil⟩⟩⟩⟩⟩⟩⟩⟩⟩⟩⟩
theorem lay9 : ∀ w ∈ u_ws (fcl 9).1 (fcl 9).2.1 (fcl 9).2.2, w ∈ gw := List.forall_mem_cons.mpr ⟨(gt4 (i := 207) rfl rfl), List.forall_mem_cons.mpr ⟨(gt4 (i := 209) rfl rfl), List.forall_mem_cons.mpr ⟨(gt4 (i := 211) rfl rfl), List.forall_mem_cons.mpr ⟨(gt4 (i := 213) rfl rfl), List.forall_mem_cons.mpr ⟨(gt4 (i := 215) rfl rfl), List.forall_mem_cons.mpr ⟨(gt4 (i := 217) rfl rfl), List.forall_mem_cons.mpr ⟨(gt4 (i := 219) rfl rfl), List.forall_mem_cons.mpr ⟨(gt4 (i := 221) rfl rfl), List.forall_mem_cons.mpr ⟨(gt4 (i := 223) rfl rfl), List.forall_mem_cons.mpr ⟨(gt4 (i := 225) rfl rfl), List.forall_mem_cons.mpr ⟨(gt4 (i := 227) rfl rfl), List.forall_mem_cons.mpr ⟨(gt4 (i := 229) rfl rfl), List.forall_mem_cons.mpr ⟨(gt4 (i := 231) rfl rfl), List.forall_mem_cons.mpr ⟨(gt4 (i := 233) rfl rfl), List.forall_mem_cons.mpr ⟨(gt4 (i := 235) rfl rfl), List.forall_mem_cons.mpr ⟨(gt4 (i := 237) rfl rfl), List.forall_mem_cons.mpr ⟨(gt4 (i := 239) rfl rfl), List.forall_mem_cons.mpr ⟨(gt5 (i := 1) rfl rfl), List.forall_mem_cons.mpr ⟨(gt5 (i := 3) rfl rfl), List.forall_mem_cons.mpr ⟨(gt5 (i := 5) rfl rfl), List.forall_mem_cons.mpr ⟨(gt5 (i := 7) rfl rfl), List.forall_mem_cons.mpr ⟨(gt5 (i := 9) rfl rfl), List.forall_mem_cons.mpr ⟨(gt5 (i := 11) rfl rfl), List.forall_mem_cons.mpr ⟨(gt5 (i := 13) rfl rfl), List.forall_mem_cons.mpr ⟨(gt5 (i := 15) rfl rfl), List.forall_mem_cons.mpr ⟨(gt5 (i := 17) rfl rfl), List.forall_mem_cons.mpr ⟨(gt5 (i := 19) rfl rfl), List.forall_mem_cons.mpr ⟨(gt5 (i := 21) rfl rfl), List.forall_mem_cons.mpr ⟨(gt5 (i := 23) rfl rfl), List.forall_mem_cons.mpr ⟨(gt5 (i := 25) rfl rfl), List.forall_mem_cons.mpr ⟨(gt5 (i := 27) rfl rfl), List.forall_mem_cons.mpr ⟨(gt5 (i := 29) rfl rfl), List.forall_mem_cons.mpr ⟨(gt5 (i := 31) rfl rfl), List.forall_mem_cons.mpr ⟨(gt5 (i := 33) rfl rfl), List.forall_mem_cons.mpr ⟨(gt5 (i := 35) rfl rfl), List.forall_mem_cons.mpr ⟨(gt5 (i := 37) rfl rfl), fun _ h => absurd h List.not_mem_nil⟩⟩⟩⟩⟩⟩⟩⟩⟩⟩⟩⟩⟩⟩⟩⟩⟩⟩⟩⟩⟩⟩⟩⟩⟩⟩⟩⟩⟩⟩⟩⟩⟩⟩⟩⟩
theorem lay_ok : ∀ ci, ci < 10 → ∀ w ∈ u_ws (fcl ci).1 (fcl ci).2.1 (fcl ci).2.2, w ∈ gw := by
  intro ci h
  match ci, h with
  | 0, _ => exact lay0
  | 1, _ => exact lay1
  | 2, _ => exact lay2
  | 3, _ => exact lay3
  | 4, _ => exact lay4
  | 5, _ => exact lay5
  | 6, _ => exact lay6
  | 7, _ => exact lay7
  | 8, _ => exact lay8
  | 9, _ => exact lay9
  | n + 10, h => omega
end
section
theorem sfl_13_38 : Cond.fieldLink "java/lang/String" 38 "java/lang/String" "COMPACT_STRINGS" "Z" ∈ gw := (gt2 (i := 135) rfl rfl)
theorem sfl_13_1053 : Cond.fieldLink "java/lang/String" 1053 "jdk/internal/util/Preconditions" "SIOOBE_FORMATTER" "Ljava/util/function/BiFunction;" ∈ gw := (gt2 (i := 151) rfl rfl)
theorem sfl_13_9 : Cond.fieldLink "java/lang/String" 9 "java/lang/String" "value" "[B" ∈ gw := (gt6 (i := 107) rfl rfl)
theorem sfl_13_15 : Cond.fieldLink "java/lang/String" 15 "java/lang/String" "coder" "B" ∈ gw := (gt6 (i := 108) rfl rfl)
theorem sfl_8_322 : Cond.fieldLink "SeesawPark" 322 "SeesawPark" "KIND_MARK" "[I" ∈ gw := (gt4 (i := 123) rfl rfl)
theorem sfl_8_325 : Cond.fieldLink "SeesawPark" 325 "SeesawPark" "KIND_ABOVE" "[I" ∈ gw := (gt4 (i := 125) rfl rfl)
theorem ok_X0_begin : mok m_X0_begin := ⟨(gt3 (i := 216) rfl rfl), ini_0, rfl, ⟨by decide +kernel, by decide +kernel, by decide +kernel⟩, by decide, by decide +kernel, ⟨(gt3 (i := 214) rfl rfl), (gt3 (i := 215) rfl rfl)⟩⟩
theorem ok_X0_winningMove : mok m_X0_winningMove := ⟨(gt3 (i := 223) rfl rfl), ini_0, rfl, ⟨by decide +kernel, by decide +kernel, by decide +kernel⟩, by decide, by decide +kernel, ⟨(gt3 (i := 221) rfl rfl), (gt3 (i := 222) rfl rfl)⟩⟩
theorem ok_X0_moveFrom : mok m_X0_moveFrom := ⟨(gt3 (i := 227) rfl rfl), ini_0, rfl, ⟨by decide +kernel, by decide +kernel, by decide +kernel⟩, by decide, by decide +kernel, ⟨(gt3 (i := 226) rfl rfl), (gp2 (i := 6) rfl)⟩⟩
theorem ok_X1_spread : mok m_X1_spread := ⟨(gt3 (i := 150) rfl rfl), ini_1, rfl, ⟨by decide +kernel, by decide +kernel, by decide +kernel⟩, by decide, by decide +kernel, ⟨(gt3 (i := 148) rfl rfl), (gt3 (i := 149) rfl rfl)⟩⟩
theorem ok_X1_addSeatOf : mok m_X1_addSeatOf := ⟨(gt3 (i := 156) rfl rfl), ini_1, rfl, ⟨by decide +kernel, by decide +kernel, by decide +kernel⟩, by decide, by decide +kernel, ⟨(gt3 (i := 155) rfl rfl), (gp1 (i := 15) rfl)⟩⟩
theorem ok_X1_mergeShifted : mok m_X1_mergeShifted := ⟨(gt3 (i := 160) rfl rfl), ini_1, rfl, ⟨by decide +kernel, by decide +kernel, by decide +kernel⟩, by decide, by decide +kernel, ⟨(gt3 (i := 159) rfl rfl), (gp2 (i := 0) rfl)⟩⟩
theorem ok_X1_wordAt : mok m_X1_wordAt := ⟨(gt3 (i := 164) rfl rfl), ini_1, rfl, ⟨by decide +kernel, by decide +kernel, by decide +kernel⟩, by decide, by decide +kernel, ⟨(gt3 (i := 163) rfl rfl), (gp2 (i := 1) rfl)⟩⟩
theorem ok_X1_largestLevel : mok m_X1_largestLevel := ⟨(gt3 (i := 168) rfl rfl), ini_1, rfl, ⟨by decide +kernel, by decide +kernel, by decide +kernel⟩, by decide, by decide +kernel, ⟨(gt3 (i := 166) rfl rfl), (gt3 (i := 167) rfl rfl)⟩⟩
theorem ok_X1_canLevel : mok m_X1_canLevel := ⟨(gt3 (i := 173) rfl rfl), ini_1, rfl, ⟨by decide +kernel, by decide +kernel, by decide +kernel⟩, by decide, by decide +kernel, ⟨(gt3 (i := 172) rfl rfl), (gp2 (i := 2) rfl)⟩⟩
theorem ok_X2_run : mok m_X2_run := ⟨(gt4 (i := 76) rfl rfl), ini_2, rfl, ⟨by decide +kernel, by decide +kernel, by decide +kernel⟩, by decide, by decide +kernel, ⟨(gt4 (i := 74) rfl rfl), (gt4 (i := 75) rfl rfl)⟩⟩
theorem ok_X2_letOff : mok m_X2_letOff := ⟨(gt4 (i := 84) rfl rfl), ini_2, rfl, ⟨by decide +kernel, by decide +kernel, by decide +kernel⟩, by decide, by decide +kernel, ⟨(gt4 (i := 83) rfl rfl), (gp2 (i := 12) rfl)⟩⟩
theorem ok_X2_wantsMore : mok m_X2_wantsMore := ⟨(gt4 (i := 88) rfl rfl), ini_2, rfl, ⟨by decide +kernel, by decide +kernel, by decide +kernel⟩, by decide, by decide +kernel, ⟨(gt4 (i := 87) rfl rfl), (gp2 (i := 13) rfl)⟩⟩
theorem ok_X2_letOn : mok m_X2_letOn := ⟨(gt4 (i := 92) rfl rfl), ini_2, rfl, ⟨by decide +kernel, by decide +kernel, by decide +kernel⟩, by decide, by decide +kernel, ⟨(gt4 (i := 91) rfl rfl), (gp2 (i := 14) rfl)⟩⟩
theorem ok_X2_rideOn : mok m_X2_rideOn := ⟨(gt4 (i := 105) rfl rfl), ini_2, rfl, ⟨by decide +kernel, by decide +kernel, by decide +kernel⟩, by decide, by decide +kernel, ⟨(gt4 (i := 104) rfl rfl), (gp3 (i := 0) rfl)⟩⟩
theorem ok_X2_joinRow : mok m_X2_joinRow := ⟨(gt4 (i := 80) rfl rfl), ini_2, rfl, ⟨by decide +kernel, by decide +kernel, by decide +kernel⟩, by decide, by decide +kernel, ⟨(gt4 (i := 79) rfl rfl), (gp2 (i := 11) rfl)⟩⟩
theorem ok_X2_leaveRow : mok m_X2_leaveRow := ⟨(gt4 (i := 101) rfl rfl), ini_2, rfl, ⟨by decide +kernel, by decide +kernel, by decide +kernel⟩, by decide, by decide +kernel, ⟨(gt4 (i := 100) rfl rfl), (gp2 (i := 15) rfl)⟩⟩
theorem ok_X3_forget : mok m_X3_forget := ⟨(gt2 (i := 110) rfl rfl), ini_3, rfl, ⟨by decide +kernel, by decide +kernel, by decide +kernel⟩, by decide, by decide +kernel, ⟨(gt2 (i := 108) rfl rfl), (gt2 (i := 109) rfl rfl)⟩⟩
theorem ok_X3_copyFrom : mok m_X3_copyFrom := ⟨(gt2 (i := 210) rfl rfl), ini_3, rfl, ⟨by decide +kernel, by decide +kernel, by decide +kernel⟩, by decide, by decide +kernel, ⟨(gt2 (i := 208) rfl rfl), (gt2 (i := 209) rfl rfl)⟩⟩
theorem ok_X3_hasPlank : mok m_X3_hasPlank := ⟨(gt2 (i := 226) rfl rfl), ini_3, rfl, ⟨by decide +kernel, by decide +kernel, by decide +kernel⟩, by decide, by decide +kernel, ⟨(gt2 (i := 224) rfl rfl), (gt2 (i := 225) rfl rfl)⟩⟩
theorem ok_X3_hasChild : mok m_X3_hasChild := ⟨(gt3 (i := 21) rfl rfl), ini_3, rfl, ⟨by decide +kernel, by decide +kernel, by decide +kernel⟩, by decide, by decide +kernel, ⟨(gt3 (i := 19) rfl rfl), (gt3 (i := 20) rfl rfl)⟩⟩
theorem ok_X3_hasStone : mok m_X3_hasStone := ⟨(gt3 (i := 29) rfl rfl), ini_3, rfl, ⟨by decide +kernel, by decide +kernel, by decide +kernel⟩, by decide, by decide +kernel, ⟨(gt3 (i := 27) rfl rfl), (gt3 (i := 28) rfl rfl)⟩⟩
theorem ok_X3_hasSeat : mok m_X3_hasSeat := ⟨(gt3 (i := 37) rfl rfl), ini_3, rfl, ⟨by decide +kernel, by decide +kernel, by decide +kernel⟩, by decide, by decide +kernel, ⟨(gt3 (i := 35) rfl rfl), (gt3 (i := 36) rfl rfl)⟩⟩
theorem ok_X3_allChildren : mok m_X3_allChildren := ⟨(gt3 (i := 90) rfl rfl), ini_3, rfl, ⟨by decide +kernel, by decide +kernel, by decide +kernel⟩, by decide, by decide +kernel, ⟨(gt3 (i := 88) rfl rfl), (gt3 (i := 89) rfl rfl)⟩⟩
theorem ok_X3_fits : mok m_X3_fits := ⟨(gt4 (i := 96) rfl rfl), ini_3, rfl, ⟨by decide +kernel, by decide +kernel, by decide +kernel⟩, by decide, by decide +kernel, ⟨(gt4 (i := 94) rfl rfl), (gt4 (i := 95) rfl rfl)⟩⟩
theorem ok_X4_reset : mok m_X4_reset := ⟨(gt2 (i := 217) rfl rfl), ini_4, rfl, ⟨by decide +kernel, by decide +kernel, by decide +kernel⟩, by decide, by decide +kernel, ⟨(gt2 (i := 215) rfl rfl), (gt2 (i := 216) rfl rfl)⟩⟩
theorem ok_X4_copyFrom : mok m_X4_copyFrom := ⟨(gt4 (i := 138) rfl rfl), ini_4, rfl, ⟨by decide +kernel, by decide +kernel, by decide +kernel⟩, by decide, by decide +kernel, ⟨(gt4 (i := 136) rfl rfl), (gt4 (i := 137) rfl rfl)⟩⟩
theorem ok_X4_hasChildAt : mok m_X4_hasChildAt := ⟨(gt3 (i := 42) rfl rfl), ini_4, rfl, ⟨by decide +kernel, by decide +kernel, by decide +kernel⟩, by decide, by decide +kernel, ⟨(gt3 (i := 40) rfl rfl), (gt3 (i := 41) rfl rfl)⟩⟩
theorem ok_X4_hasStoneAt : mok m_X4_hasStoneAt := ⟨(gt3 (i := 70) rfl rfl), ini_4, rfl, ⟨by decide +kernel, by decide +kernel, by decide +kernel⟩, by decide, by decide +kernel, ⟨(gt3 (i := 68) rfl rfl), (gt3 (i := 69) rfl rfl)⟩⟩
theorem ok_X4_childrenOn : mok m_X4_childrenOn := ⟨(gt3 (i := 7) rfl rfl), ini_4, rfl, ⟨by decide +kernel, by decide +kernel, by decide +kernel⟩, by decide, by decide +kernel, ⟨(gt3 (i := 5) rfl rfl), (gt3 (i := 6) rfl rfl)⟩⟩
theorem ok_X4_idleChildren : mok m_X4_idleChildren := ⟨(gt3 (i := 212) rfl rfl), ini_4, rfl, ⟨by decide +kernel, by decide +kernel, by decide +kernel⟩, by decide, by decide +kernel, ⟨(gt3 (i := 210) rfl rfl), (gt3 (i := 211) rfl rfl)⟩⟩
theorem ok_X4_idleStones : mok m_X4_idleStones := ⟨(gt3 (i := 200) rfl rfl), ini_4, rfl, ⟨by decide +kernel, by decide +kernel, by decide +kernel⟩, by decide, by decide +kernel, ⟨(gt3 (i := 198) rfl rfl), (gt3 (i := 199) rfl rfl)⟩⟩
theorem ok_X4_seatedChildren : mok m_X4_seatedChildren := ⟨(gt4 (i := 143) rfl rfl), ini_4, rfl, ⟨by decide +kernel, by decide +kernel, by decide +kernel⟩, by decide, by decide +kernel, ⟨(gt4 (i := 141) rfl rfl), (gt4 (i := 142) rfl rfl)⟩⟩
theorem ok_X4_stoneMoment : mok m_X4_stoneMoment := ⟨(gt2 (i := 235) rfl rfl), ini_4, rfl, ⟨by decide +kernel, by decide +kernel, by decide +kernel⟩, by decide, by decide +kernel, ⟨(gt2 (i := 233) rfl rfl), (gt2 (i := 234) rfl rfl)⟩⟩
theorem ok_X4_moment : mok m_X4_moment := ⟨(gt2 (i := 231) rfl rfl), ini_4, rfl, ⟨by decide +kernel, by decide +kernel, by decide +kernel⟩, by decide, by decide +kernel, ⟨(gt2 (i := 229) rfl rfl), (gt2 (i := 230) rfl rfl)⟩⟩
theorem ok_X4_tilt : mok m_X4_tilt := ⟨(gt2 (i := 239) rfl rfl), ini_4, rfl, ⟨by decide +kernel, by decide +kernel, by decide +kernel⟩, by decide, by decide +kernel, ⟨(gt2 (i := 237) rfl rfl), (gt2 (i := 238) rfl rfl)⟩⟩
theorem ok_X4_seatChild : mok m_X4_seatChild := ⟨(gt3 (i := 58) rfl rfl), ini_4, rfl, ⟨by decide +kernel, by decide +kernel, by decide +kernel⟩, by decide, by decide +kernel, ⟨(gt3 (i := 56) rfl rfl), (gt3 (i := 57) rfl rfl)⟩⟩
theorem ok_X4_unseatChild : mok m_X4_unseatChild := ⟨(gt3 (i := 46) rfl rfl), ini_4, rfl, ⟨by decide +kernel, by decide +kernel, by decide +kernel⟩, by decide, by decide +kernel, ⟨(gt3 (i := 44) rfl rfl), (gt3 (i := 45) rfl rfl)⟩⟩
theorem ok_X4_putStone : mok m_X4_putStone := ⟨(gt3 (i := 78) rfl rfl), ini_4, rfl, ⟨by decide +kernel, by decide +kernel, by decide +kernel⟩, by decide, by decide +kernel, ⟨(gt3 (i := 76) rfl rfl), (gt3 (i := 77) rfl rfl)⟩⟩
theorem ok_X4_liftStone : mok m_X4_liftStone := ⟨(gt3 (i := 74) rfl rfl), ini_4, rfl, ⟨by decide +kernel, by decide +kernel, by decide +kernel⟩, by decide, by decide +kernel, ⟨(gt3 (i := 72) rfl rfl), (gt3 (i := 73) rfl rfl)⟩⟩
theorem ok_X4_settle : mok m_X4_settle := ⟨(gt3 (i := 51) rfl rfl), ini_4, rfl, ⟨by decide +kernel, by decide +kernel, by decide +kernel⟩, by decide, by decide +kernel, ⟨(gt3 (i := 50) rfl rfl), (gp1 (i := 9) rfl)⟩⟩
theorem ok_X5_begin : mok m_X5_begin := ⟨(gt3 (i := 99) rfl rfl), ini_5, rfl, ⟨by decide +kernel, by decide +kernel, by decide +kernel⟩, by decide, by decide +kernel, ⟨(gt3 (i := 97) rfl rfl), (gt3 (i := 98) rfl rfl)⟩⟩
theorem ok_X5_addSeat : mok m_X5_addSeat := ⟨(gt3 (i := 106) rfl rfl), ini_5, rfl, ⟨by decide +kernel, by decide +kernel, by decide +kernel⟩, by decide, by decide +kernel, ⟨(gt3 (i := 104) rfl rfl), (gt3 (i := 105) rfl rfl)⟩⟩
theorem ok_X5_addBody : mok m_X5_addBody := ⟨(gt3 (i := 110) rfl rfl), ini_5, rfl, ⟨by decide +kernel, by decide +kernel, by decide +kernel⟩, by decide, by decide +kernel, ⟨(gt3 (i := 108) rfl rfl), (gt3 (i := 109) rfl rfl)⟩⟩
theorem ok_X5_chosenStep : mok m_X5_chosenStep := ⟨(gt3 (i := 139) rfl rfl), ini_5, rfl, ⟨by decide +kernel, by decide +kernel, by decide +kernel⟩, by decide, by decide +kernel, ⟨(gt3 (i := 137) rfl rfl), (gt3 (i := 138) rfl rfl)⟩⟩
theorem ok_X5_countWays : mok m_X5_countWays := ⟨(gt3 (i := 114) rfl rfl), ini_5, rfl, ⟨by decide +kernel, by decide +kernel, by decide +kernel⟩, by decide, by decide +kernel, ⟨(gt3 (i := 112) rfl rfl), (gt3 (i := 113) rfl rfl)⟩⟩
theorem ok_X5_findFirst : mok m_X5_findFirst := ⟨(gt3 (i := 131) rfl rfl), ini_5, rfl, ⟨by decide +kernel, by decide +kernel, by decide +kernel⟩, by decide, by decide +kernel, ⟨(gt3 (i := 129) rfl rfl), (gt3 (i := 130) rfl rfl)⟩⟩
theorem ok_X5_fewestChanges : mok m_X5_fewestChanges := ⟨(gt3 (i := 184) rfl rfl), ini_5, rfl, ⟨by decide +kernel, by decide +kernel, by decide +kernel⟩, by decide, by decide +kernel, ⟨(gt3 (i := 182) rfl rfl), (gt3 (i := 183) rfl rfl)⟩⟩
theorem ok_X5_measureReach : mok m_X5_measureReach := ⟨(gt3 (i := 118) rfl rfl), ini_5, rfl, ⟨by decide +kernel, by decide +kernel, by decide +kernel⟩, by decide, by decide +kernel, ⟨(gt3 (i := 117) rfl rfl), (gp1 (i := 11) rfl)⟩⟩
theorem ok_X5_isHopeless : mok m_X5_isHopeless := ⟨(gt3 (i := 126) rfl rfl), ini_5, rfl, ⟨by decide +kernel, by decide +kernel, by decide +kernel⟩, by decide, by decide +kernel, ⟨(gt3 (i := 125) rfl rfl), (gp1 (i := 13) rfl)⟩⟩
theorem ok_X5_countFrom : mok m_X5_countFrom := ⟨(gt3 (i := 122) rfl rfl), ini_5, rfl, ⟨by decide +kernel, by decide +kernel, by decide +kernel⟩, by decide, by decide +kernel, ⟨(gt3 (i := 121) rfl rfl), (gp1 (i := 12) rfl)⟩⟩
theorem ok_X5_findFrom : mok m_X5_findFrom := ⟨(gt3 (i := 135) rfl rfl), ini_5, rfl, ⟨by decide +kernel, by decide +kernel, by decide +kernel⟩, by decide, by decide +kernel, ⟨(gt3 (i := 134) rfl rfl), (gp1 (i := 14) rfl)⟩⟩
theorem ok_X5_changeFrom : mok m_X5_changeFrom := ⟨(gt3 (i := 188) rfl rfl), ini_5, rfl, ⟨by decide +kernel, by decide +kernel, by decide +kernel⟩, by decide, by decide +kernel, ⟨(gt3 (i := 187) rfl rfl), (gp2 (i := 3) rfl)⟩⟩
theorem ok_X6_append : mok m_X6_append := ⟨(gt2 (i := 94) rfl rfl), ini_6, rfl, ⟨by decide +kernel, by decide +kernel, by decide +kernel⟩, by decide, by decide +kernel, ⟨(gt2 (i := 92) rfl rfl), (gt2 (i := 93) rfl rfl)⟩⟩
theorem ok_X6_readAll : mok m_X6_readAll := ⟨(gt2 (i := 106) rfl rfl), ini_6, rfl, ⟨by decide +kernel, by decide +kernel, by decide +kernel⟩, by decide, by decide +kernel, ⟨(gt2 (i := 104) rfl rfl), (gt2 (i := 105) rfl rfl)⟩⟩
theorem ok_X6_readPlank : mok m_X6_readPlank := ⟨(gt2 (i := 190) rfl rfl), ini_6, rfl, ⟨by decide +kernel, by decide +kernel, by decide +kernel⟩, by decide, by decide +kernel, ⟨(gt2 (i := 189) rfl rfl), (gp1 (i := 4) rfl)⟩⟩
theorem ok_X6_readChild : mok m_X6_readChild := ⟨(gt2 (i := 202) rfl rfl), ini_6, rfl, ⟨by decide +kernel, by decide +kernel, by decide +kernel⟩, by decide, by decide +kernel, ⟨(gt2 (i := 201) rfl rfl), (gp1 (i := 7) rfl)⟩⟩
theorem ok_X6_readStone : mok m_X6_readStone := ⟨(gt2 (i := 206) rfl rfl), ini_6, rfl, ⟨by decide +kernel, by decide +kernel, by decide +kernel⟩, by decide, by decide +kernel, ⟨(gt2 (i := 205) rfl rfl), (gp1 (i := 8) rfl)⟩⟩
theorem ok_X6_readNumber : mok m_X6_readNumber := ⟨(gt2 (i := 194) rfl rfl), ini_6, rfl, ⟨by decide +kernel, by decide +kernel, by decide +kernel⟩, by decide, by decide +kernel, ⟨(gt2 (i := 193) rfl rfl), (gp1 (i := 5) rfl)⟩⟩
theorem ok_X6_readSemicolon : mok m_X6_readSemicolon := ⟨(gt2 (i := 198) rfl rfl), ini_6, rfl, ⟨by decide +kernel, by decide +kernel, by decide +kernel⟩, by decide, by decide +kernel, ⟨(gt2 (i := 197) rfl rfl), (gp1 (i := 6) rfl)⟩⟩
theorem ok_X6_readToken : mok m_X6_readToken := ⟨(gt2 (i := 114) rfl rfl), ini_6, rfl, ⟨by decide +kernel, by decide +kernel, by decide +kernel⟩, by decide, by decide +kernel, ⟨(gt2 (i := 113) rfl rfl), (gp1 (i := 0) rfl)⟩⟩
theorem ok_X6_readWord : mok m_X6_readWord := ⟨(gt2 (i := 121) rfl rfl), ini_6, rfl, ⟨by decide +kernel, by decide +kernel, by decide +kernel⟩, by decide, by decide +kernel, ⟨(gt2 (i := 120) rfl rfl), (gp1 (i := 1) rfl)⟩⟩
theorem ok_X6_spells : mok m_X6_spells := ⟨(gt2 (i := 126) rfl rfl), ini_6, rfl, ⟨by decide +kernel, by decide +kernel, by decide +kernel⟩, by decide, by decide +kernel, ⟨(gt2 (i := 125) rfl rfl), (gp1 (i := 2) rfl)⟩⟩
theorem ok_X6_readDigits : mok m_X6_readDigits := ⟨(gt2 (i := 183) rfl rfl), ini_6, rfl, ⟨by decide +kernel, by decide +kernel, by decide +kernel⟩, by decide, by decide +kernel, ⟨(gt2 (i := 182) rfl rfl), (gp1 (i := 3) rfl)⟩⟩
theorem ok_X6_isLetter : mok m_X6_isLetter := ⟨(gt2 (i := 117) rfl rfl), ini_6, rfl, ⟨by decide +kernel, by decide +kernel, by decide +kernel⟩, by decide, by decide +kernel, (gt2 (i := 116) rfl rfl)⟩
theorem ok_X6_isDigit : mok m_X6_isDigit := ⟨(gt2 (i := 179) rfl rfl), ini_6, rfl, ⟨by decide +kernel, by decide +kernel, by decide +kernel⟩, by decide, by decide +kernel, (gt2 (i := 178) rfl rfl)⟩
theorem ok_X7_begin : mok m_X7_begin := ⟨(gt3 (i := 236) rfl rfl), ini_7, rfl, ⟨by decide +kernel, by decide +kernel, by decide +kernel⟩, by decide, by decide +kernel, ⟨(gt3 (i := 234) rfl rfl), (gt3 (i := 235) rfl rfl)⟩⟩
theorem ok_X7_hasStranger : mok m_X7_hasStranger := ⟨(gt4 (i := 4) rfl rfl), ini_7, rfl, ⟨by decide +kernel, by decide +kernel, by decide +kernel⟩, by decide, by decide +kernel, ⟨(gt4 (i := 2) rfl rfl), (gt4 (i := 3) rfl rfl)⟩⟩
theorem ok_X7_addTrial : mok m_X7_addTrial := ⟨(gt4 (i := 8) rfl rfl), ini_7, rfl, ⟨by decide +kernel, by decide +kernel, by decide +kernel⟩, by decide, by decide +kernel, ⟨(gt4 (i := 6) rfl rfl), (gt4 (i := 7) rfl rfl)⟩⟩
theorem ok_X7_fitting : mok m_X7_fitting := ⟨(gt4 (i := 16) rfl rfl), ini_7, rfl, ⟨by decide +kernel, by decide +kernel, by decide +kernel⟩, by decide, by decide +kernel, ⟨(gt4 (i := 14) rfl rfl), (gt4 (i := 15) rfl rfl)⟩⟩
theorem ok_X7_fittingWith : mok m_X7_fittingWith := ⟨(gt4 (i := 43) rfl rfl), ini_7, rfl, ⟨by decide +kernel, by decide +kernel, by decide +kernel⟩, by decide, by decide +kernel, ⟨(gt4 (i := 41) rfl rfl), (gt4 (i := 42) rfl rfl)⟩⟩
theorem ok_X7_onlyWeight : mok m_X7_onlyWeight := ⟨(gt4 (i := 51) rfl rfl), ini_7, rfl, ⟨by decide +kernel, by decide +kernel, by decide +kernel⟩, by decide, by decide +kernel, ⟨(gt4 (i := 49) rfl rfl), (gt4 (i := 50) rfl rfl)⟩⟩
theorem ok_X7_bestPair : mok m_X7_bestPair := ⟨(gt4 (i := 60) rfl rfl), ini_7, rfl, ⟨by decide +kernel, by decide +kernel, by decide +kernel⟩, by decide, by decide +kernel, ⟨(gt4 (i := 58) rfl rfl), (gt4 (i := 59) rfl rfl)⟩⟩
theorem ok_X7_leftAtWorst : mok m_X7_leftAtWorst := ⟨(gt4 (i := 64) rfl rfl), ini_7, rfl, ⟨by decide +kernel, by decide +kernel, by decide +kernel⟩, by decide, by decide +kernel, ⟨(gt4 (i := 62) rfl rfl), (gt4 (i := 63) rfl rfl)⟩⟩
theorem ok_X7_outcomeCell : mok m_X7_outcomeCell := ⟨(gt4 (i := 39) rfl rfl), ini_7, rfl, ⟨by decide +kernel, by decide +kernel, by decide +kernel⟩, by decide, by decide +kernel, (gt4 (i := 38) rfl rfl)⟩
theorem ok_X7_survey : mok m_X7_survey := ⟨(gt4 (i := 20) rfl rfl), ini_7, rfl, ⟨by decide +kernel, by decide +kernel, by decide +kernel⟩, by decide, by decide +kernel, ⟨(gt4 (i := 19) rfl rfl), (gp2 (i := 7) rfl)⟩⟩
theorem ok_X7_guessFrom : mok m_X7_guessFrom := ⟨(gt4 (i := 27) rfl rfl), ini_7, rfl, ⟨by decide +kernel, by decide +kernel, by decide +kernel⟩, by decide, by decide +kernel, ⟨(gt4 (i := 26) rfl rfl), (gp2 (i := 8) rfl)⟩⟩
theorem ok_X7_guessFits : mok m_X7_guessFits := ⟨(gt4 (i := 31) rfl rfl), ini_7, rfl, ⟨by decide +kernel, by decide +kernel, by decide +kernel⟩, by decide, by decide +kernel, ⟨(gt4 (i := 30) rfl rfl), (gp2 (i := 9) rfl)⟩⟩
theorem ok_X7_tally : mok m_X7_tally := ⟨(gt4 (i := 36) rfl rfl), ini_7, rfl, ⟨by decide +kernel, by decide +kernel, by decide +kernel⟩, by decide, by decide +kernel, ⟨(gt4 (i := 35) rfl rfl), (gp2 (i := 10) rfl)⟩⟩
theorem ok_X8_type : mok m_X8_type := ⟨(gt2 (i := 89) rfl rfl), ini_8, rfl, ⟨by decide +kernel, by decide +kernel, by decide +kernel⟩, by decide, by decide +kernel, ⟨(gt2 (i := 87) rfl rfl), (gt2 (i := 88) rfl rfl)⟩⟩
theorem ok_X8_clear : mok m_X8_clear := ⟨(gt2 (i := 98) rfl rfl), ini_8, rfl, ⟨by decide +kernel, by decide +kernel, by decide +kernel⟩, by decide, by decide +kernel, ⟨(gt2 (i := 96) rfl rfl), (gt2 (i := 97) rfl rfl)⟩⟩
theorem ok_X8_park : mok m_X8_park := ⟨(gt2 (i := 102) rfl rfl), ini_8, rfl, ⟨by decide +kernel, by decide +kernel, by decide +kernel⟩, by decide, by decide +kernel, ⟨(gt2 (i := 100) rfl rfl), (gt2 (i := 101) rfl rfl)⟩⟩
theorem ok_X8_plank : mok m_X8_plank := ⟨(gt2 (i := 222) rfl rfl), ini_8, rfl, ⟨by decide +kernel, by decide +kernel, by decide +kernel⟩, by decide, by decide +kernel, ⟨(gt2 (i := 220) rfl rfl), (gt2 (i := 221) rfl rfl)⟩⟩
theorem ok_X8_child : mok m_X8_child := ⟨(gt3 (i := 17) rfl rfl), ini_8, rfl, ⟨by decide +kernel, by decide +kernel, by decide +kernel⟩, by decide, by decide +kernel, ⟨(gt3 (i := 15) rfl rfl), (gt3 (i := 16) rfl rfl)⟩⟩
theorem ok_X8_stone : mok m_X8_stone := ⟨(gt3 (i := 25) rfl rfl), ini_8, rfl, ⟨by decide +kernel, by decide +kernel, by decide +kernel⟩, by decide, by decide +kernel, ⟨(gt3 (i := 23) rfl rfl), (gt3 (i := 24) rfl rfl)⟩⟩
theorem ok_X8_sits : mok m_X8_sits := ⟨(gt3 (i := 33) rfl rfl), ini_8, rfl, ⟨by decide +kernel, by decide +kernel, by decide +kernel⟩, by decide, by decide +kernel, ⟨(gt3 (i := 31) rfl rfl), (gt3 (i := 32) rfl rfl)⟩⟩
theorem ok_X8_leaves : mok m_X8_leaves := ⟨(gt3 (i := 62) rfl rfl), ini_8, rfl, ⟨by decide +kernel, by decide +kernel, by decide +kernel⟩, by decide, by decide +kernel, ⟨(gt3 (i := 60) rfl rfl), (gt3 (i := 61) rfl rfl)⟩⟩
theorem ok_X8_lay : mok m_X8_lay := ⟨(gt3 (i := 66) rfl rfl), ini_8, rfl, ⟨by decide +kernel, by decide +kernel, by decide +kernel⟩, by decide, by decide +kernel, ⟨(gt3 (i := 64) rfl rfl), (gt3 (i := 65) rfl rfl)⟩⟩
theorem ok_X8_take : mok m_X8_take := ⟨(gt3 (i := 82) rfl rfl), ini_8, rfl, ⟨by decide +kernel, by decide +kernel, by decide +kernel⟩, by decide, by decide +kernel, ⟨(gt3 (i := 80) rfl rfl), (gt3 (i := 81) rfl rfl)⟩⟩
theorem ok_X8_ways : mok m_X8_ways := ⟨(gt3 (i := 86) rfl rfl), ini_8, rfl, ⟨by decide +kernel, by decide +kernel, by decide +kernel⟩, by decide, by decide +kernel, ⟨(gt3 (i := 84) rfl rfl), (gt3 (i := 85) rfl rfl)⟩⟩
theorem ok_X8_most : mok m_X8_most := ⟨(gt3 (i := 143) rfl rfl), ini_8, rfl, ⟨by decide +kernel, by decide +kernel, by decide +kernel⟩, by decide, by decide +kernel, ⟨(gt3 (i := 141) rfl rfl), (gt3 (i := 142) rfl rfl)⟩⟩
theorem ok_X8_moves : mok m_X8_moves := ⟨(gt3 (i := 180) rfl rfl), ini_8, rfl, ⟨by decide +kernel, by decide +kernel, by decide +kernel⟩, by decide, by decide +kernel, ⟨(gt3 (i := 178) rfl rfl), (gt3 (i := 179) rfl rfl)⟩⟩
theorem ok_X8_ballast : mok m_X8_ballast := ⟨(gt3 (i := 192) rfl rfl), ini_8, rfl, ⟨by decide +kernel, by decide +kernel, by decide +kernel⟩, by decide, by decide +kernel, ⟨(gt3 (i := 190) rfl rfl), (gt3 (i := 191) rfl rfl)⟩⟩
theorem ok_X8_game : mok m_X8_game := ⟨(gt3 (i := 208) rfl rfl), ini_8, rfl, ⟨by decide +kernel, by decide +kernel, by decide +kernel⟩, by decide, by decide +kernel, ⟨(gt3 (i := 206) rfl rfl), (gt3 (i := 207) rfl rfl)⟩⟩
theorem ok_X8_strangers : mok m_X8_strangers := ⟨(gt3 (i := 232) rfl rfl), ini_8, rfl, ⟨by decide +kernel, by decide +kernel, by decide +kernel⟩, by decide, by decide +kernel, ⟨(gt3 (i := 230) rfl rfl), (gt3 (i := 231) rfl rfl)⟩⟩
theorem ok_X8_trial : mok m_X8_trial := ⟨(gt4 (i := 0) rfl rfl), ini_8, rfl, ⟨by decide +kernel, by decide +kernel, by decide +kernel⟩, by decide, by decide +kernel, ⟨(gt3 (i := 238) rfl rfl), (gt3 (i := 239) rfl rfl)⟩⟩
theorem ok_X8_could : mok m_X8_could := ⟨(gt4 (i := 12) rfl rfl), ini_8, rfl, ⟨by decide +kernel, by decide +kernel, by decide +kernel⟩, by decide, by decide +kernel, ⟨(gt4 (i := 10) rfl rfl), (gt4 (i := 11) rfl rfl)⟩⟩
theorem ok_X8_sure : mok m_X8_sure := ⟨(gt4 (i := 47) rfl rfl), ini_8, rfl, ⟨by decide +kernel, by decide +kernel, by decide +kernel⟩, by decide, by decide +kernel, ⟨(gt4 (i := 45) rfl rfl), (gt4 (i := 46) rfl rfl)⟩⟩
theorem ok_X8_next : mok m_X8_next := ⟨(gt4 (i := 56) rfl rfl), ini_8, rfl, ⟨by decide +kernel, by decide +kernel, by decide +kernel⟩, by decide, by decide +kernel, ⟨(gt4 (i := 54) rfl rfl), (gt4 (i := 55) rfl rfl)⟩⟩
theorem ok_X8_rides : mok m_X8_rides := ⟨(gt4 (i := 72) rfl rfl), ini_8, rfl, ⟨by decide +kernel, by decide +kernel, by decide +kernel⟩, by decide, by decide +kernel, ⟨(gt4 (i := 70) rfl rfl), (gt4 (i := 71) rfl rfl)⟩⟩
theorem ok_X8_forever : mok m_X8_forever := ⟨(gt4 (i := 109) rfl rfl), ini_8, rfl, ⟨by decide +kernel, by decide +kernel, by decide +kernel⟩, by decide, by decide +kernel, ⟨(gt4 (i := 107) rfl rfl), (gt4 (i := 108) rfl rfl)⟩⟩
theorem ok_X8_rate : mok m_X8_rate := ⟨(gt4 (i := 118) rfl rfl), ini_8, rfl, ⟨by decide +kernel, by decide +kernel, by decide +kernel⟩, by decide, by decide +kernel, ⟨(gt4 (i := 116) rfl rfl), (gt4 (i := 117) rfl rfl)⟩⟩
theorem ok_X8_keep : mok m_X8_keep := ⟨(gt4 (i := 130) rfl rfl), ini_8, rfl, ⟨by decide +kernel, by decide +kernel, by decide +kernel⟩, by decide, by decide +kernel, ⟨(gt4 (i := 128) rfl rfl), (gt4 (i := 129) rfl rfl)⟩⟩
theorem ok_X8_back : mok m_X8_back := ⟨(gt4 (i := 149) rfl rfl), ini_8, rfl, ⟨by decide +kernel, by decide +kernel, by decide +kernel⟩, by decide, by decide +kernel, ⟨(gt4 (i := 147) rfl rfl), (gt4 (i := 148) rfl rfl)⟩⟩
theorem ok_X8_count : mok m_X8_count := ⟨(gt4 (i := 153) rfl rfl), ini_8, rfl, ⟨by decide +kernel, by decide +kernel, by decide +kernel⟩, by decide, by decide +kernel, ⟨(gt4 (i := 151) rfl rfl), (gt4 (i := 152) rfl rfl)⟩⟩
theorem ok_X8_trace : mok m_X8_trace := ⟨(gt4 (i := 157) rfl rfl), ini_8, rfl, ⟨by decide +kernel, by decide +kernel, by decide +kernel⟩, by decide, by decide +kernel, ⟨(gt4 (i := 155) rfl rfl), (gt4 (i := 156) rfl rfl)⟩⟩
theorem ok_X8_isZeroOrOne : mok m_X8_isZeroOrOne := ⟨(gt3 (i := 146) rfl rfl), ini_8, rfl, ⟨by decide +kernel, by decide +kernel, by decide +kernel⟩, by decide, by decide +kernel, (gt3 (i := 145) rfl rfl)⟩
theorem ok_X8_stepOfSeat : mok m_X8_stepOfSeat := ⟨(gt3 (i := 102) rfl rfl), ini_8, rfl, ⟨by decide +kernel, by decide +kernel, by decide +kernel⟩, by decide, by decide +kernel, (gt3 (i := 101) rfl rfl)⟩
theorem ok_X8_countOrSet : mok m_X8_countOrSet := ⟨(gt3 (i := 176) rfl rfl), ini_8, rfl, ⟨by decide +kernel, by decide +kernel, by decide +kernel⟩, by decide, by decide +kernel, (gt3 (i := 175) rfl rfl)⟩
theorem ok_X8_imageOf : mok m_X8_imageOf := ⟨(gt4 (i := 134) rfl rfl), ini_8, rfl, ⟨by decide +kernel, by decide +kernel, by decide +kernel⟩, by decide, by decide +kernel, ⟨(gt4 (i := 133) rfl rfl), (gp3 (i := 3) rfl)⟩⟩
theorem ok_X8_askWays : mok m_X8_askWays := ⟨(gt3 (i := 94) rfl rfl), ini_8, rfl, ⟨by decide +kernel, by decide +kernel, by decide +kernel⟩, by decide, by decide +kernel, ⟨(gt3 (i := 93) rfl rfl), (gp1 (i := 10) rfl)⟩⟩
theorem ok_X8_leastBallast : mok m_X8_leastBallast := ⟨(gt3 (i := 196) rfl rfl), ini_8, rfl, ⟨by decide +kernel, by decide +kernel, by decide +kernel⟩, by decide, by decide +kernel, ⟨(gt3 (i := 195) rfl rfl), (gp2 (i := 4) rfl)⟩⟩
theorem ok_X8_canBallast : mok m_X8_canBallast := ⟨(gt3 (i := 204) rfl rfl), ini_8, rfl, ⟨by decide +kernel, by decide +kernel, by decide +kernel⟩, by decide, by decide +kernel, ⟨(gt3 (i := 203) rfl rfl), (gp2 (i := 5) rfl)⟩⟩
theorem ok_X8_hasPartner : mok m_X8_hasPartner := ⟨(gt4 (i := 113) rfl rfl), ini_8, rfl, ⟨by decide +kernel, by decide +kernel, by decide +kernel⟩, by decide, by decide +kernel, ⟨(gt4 (i := 112) rfl rfl), (gp3 (i := 1) rfl)⟩⟩
theorem ok_X8_rateAs : mok m_X8_rateAs := ⟨(gt4 (i := 122) rfl rfl), ini_8, rfl, ⟨by decide +kernel, by decide +kernel, by decide +kernel⟩, by decide, by decide +kernel, ⟨(gt4 (i := 121) rfl rfl), (gp3 (i := 2) rfl)⟩⟩
theorem ok_X9_in : mok m_X9_in := ⟨(gt4 (i := 170) rfl rfl), ini_9, rfl, ⟨by decide +kernel, by decide +kernel, by decide +kernel⟩, by decide, by decide +kernel, (gt4 (i := 169) rfl rfl)⟩
theorem ok_X9_size : mok m_X9_size := ⟨(gt5 (i := 115) rfl rfl), ini_9, rfl, ⟨by decide +kernel, by decide +kernel, by decide +kernel⟩, by decide, by decide +kernel, (gt5 (i := 114) rfl rfl)⟩
theorem ok_X9_type : mok m_X9_type := ⟨(gt5 (i := 44) rfl rfl), ini_9, rfl, ⟨by decide +kernel, by decide +kernel, by decide +kernel⟩, by decide, by decide +kernel, ⟨(gt5 (i := 42) rfl rfl), (gt5 (i := 43) rfl rfl)⟩⟩
theorem ok_X9_clear : mok m_X9_clear := ⟨(gt5 (i := 49) rfl rfl), ini_9, rfl, ⟨by decide +kernel, by decide +kernel, by decide +kernel⟩, by decide, by decide +kernel, ⟨(gt5 (i := 47) rfl rfl), (gt5 (i := 48) rfl rfl)⟩⟩
theorem ok_X9_byteAt : mok m_X9_byteAt := ⟨(gt5 (i := 61) rfl rfl), ini_9, rfl, ⟨by decide +kernel, by decide +kernel, by decide +kernel⟩, by decide, by decide +kernel, ⟨(gt5 (i := 60) rfl rfl), (gp3 (i := 6) rfl)⟩⟩
theorem ok_X9_add : mok m_X9_add := ⟨(gt5 (i := 64) rfl rfl), ini_9, rfl, ⟨by decide +kernel, by decide +kernel, by decide +kernel⟩, by decide, by decide +kernel, (gt5 (i := 63) rfl rfl)⟩
theorem ok_X9_named : mok m_X9_named := ⟨(gt5 (i := 71) rfl rfl), ini_9, rfl, ⟨by decide +kernel, by decide +kernel, by decide +kernel⟩, by decide, by decide +kernel, (gt5 (i := 70) rfl rfl)⟩
theorem ok_X9_wordOf : mok m_X9_wordOf := ⟨(gt5 (i := 68) rfl rfl), ini_9, rfl, ⟨by decide +kernel, by decide +kernel, by decide +kernel⟩, by decide, by decide +kernel, (gt5 (i := 67) rfl rfl)⟩
theorem ok_X9_advances : mok m_X9_advances := ⟨(gt5 (i := 57) rfl rfl), ini_9, rfl, ⟨by decide +kernel, by decide +kernel, by decide +kernel⟩, by decide, by decide +kernel, ⟨(gt5 (i := 56) rfl rfl), (gp3 (i := 5) rfl)⟩⟩
theorem ok_X9_isWell : mok m_X9_isWell := ⟨(gt5 (i := 75) rfl rfl), ini_9, rfl, ⟨by decide +kernel, by decide +kernel, by decide +kernel⟩, by decide, by decide +kernel, ⟨(gt5 (i := 74) rfl rfl), (gp3 (i := 7) rfl)⟩⟩
theorem ok_X9_takes : mok m_X9_takes := ⟨(gt5 (i := 79) rfl rfl), ini_9, rfl, ⟨by decide +kernel, by decide +kernel, by decide +kernel⟩, by decide, by decide +kernel, ⟨(gt5 (i := 78) rfl rfl), (gp3 (i := 8) rfl)⟩⟩
theorem ok_X9_number : mok m_X9_number := ⟨(gt5 (i := 87) rfl rfl), ini_9, rfl, ⟨by decide +kernel, by decide +kernel, by decide +kernel⟩, by decide, by decide +kernel, ⟨(gt5 (i := 86) rfl rfl), (gp3 (i := 10) rfl)⟩⟩
theorem ok_X9_readsItem : mok m_X9_readsItem := ⟨(gt5 (i := 83) rfl rfl), ini_9, rfl, ⟨by decide +kernel, by decide +kernel, by decide +kernel⟩, by decide, by decide +kernel, ⟨(gt5 (i := 82) rfl rfl), (gp3 (i := 9) rfl)⟩⟩
theorem ok_X9_park : mok m_X9_park := ⟨(gt5 (i := 53) rfl rfl), ini_9, rfl, ⟨by decide +kernel, by decide +kernel, by decide +kernel⟩, by decide, by decide +kernel, ⟨(gt5 (i := 51) rfl rfl), (gt5 (i := 52) rfl rfl)⟩⟩
theorem ok_X9_begins : mok m_X9_begins := ⟨(gt4 (i := 167) rfl rfl), ini_9, rfl, ⟨by decide +kernel, by decide +kernel, by decide +kernel⟩, by decide, by decide +kernel, ⟨(gt4 (i := 166) rfl rfl), (gp3 (i := 4) rfl)⟩⟩
theorem ok_X9_isPlank : mok m_X9_isPlank := ⟨(gt5 (i := 95) rfl rfl), ini_9, rfl, ⟨by decide +kernel, by decide +kernel, by decide +kernel⟩, by decide, by decide +kernel, ⟨(gt5 (i := 94) rfl rfl), (gp3 (i := 11) rfl)⟩⟩
theorem ok_X9_isChild : mok m_X9_isChild := ⟨(gt5 (i := 127) rfl rfl), ini_9, rfl, ⟨by decide +kernel, by decide +kernel, by decide +kernel⟩, by decide, by decide +kernel, ⟨(gt5 (i := 126) rfl rfl), (gp4 (i := 1) rfl)⟩⟩
theorem ok_X9_isStone : mok m_X9_isStone := ⟨(gt5 (i := 135) rfl rfl), ini_9, rfl, ⟨by decide +kernel, by decide +kernel, by decide +kernel⟩, by decide, by decide +kernel, ⟨(gt5 (i := 134) rfl rfl), (gp4 (i := 2) rfl)⟩⟩
theorem ok_X9_stonesOn : mok m_X9_stonesOn := ⟨(gt5 (i := 104) rfl rfl), ini_9, rfl, ⟨by decide +kernel, by decide +kernel, by decide +kernel⟩, by decide, by decide +kernel, ⟨(gt5 (i := 103) rfl rfl), (gp3 (i := 13) rfl)⟩⟩
theorem ok_X9_momentOf : mok m_X9_momentOf := ⟨(gt5 (i := 100) rfl rfl), ini_9, rfl, ⟨by decide +kernel, by decide +kernel, by decide +kernel⟩, by decide, by decide +kernel, ⟨(gt5 (i := 99) rfl rfl), (gp3 (i := 12) rfl)⟩⟩
theorem ok_X9_tiltBy : mok m_X9_tiltBy := ⟨(gt5 (i := 112) rfl rfl), ini_9, rfl, ⟨by decide +kernel, by decide +kernel, by decide +kernel⟩, by decide, by decide +kernel, ⟨(gt5 (i := 111) rfl rfl), (gp3 (i := 15) rfl)⟩⟩
theorem ok_X9_tiltOf : mok m_X9_tiltOf := ⟨(gt5 (i := 108) rfl rfl), ini_9, rfl, ⟨by decide +kernel, by decide +kernel, by decide +kernel⟩, by decide, by decide +kernel, ⟨(gt5 (i := 107) rfl rfl), (gp3 (i := 14) rfl)⟩⟩
theorem ok_X9_sittingOn : mok m_X9_sittingOn := ⟨(gt5 (i := 119) rfl rfl), ini_9, rfl, ⟨by decide +kernel, by decide +kernel, by decide +kernel⟩, by decide, by decide +kernel, ⟨(gt5 (i := 118) rfl rfl), (gp4 (i := 0) rfl)⟩⟩
theorem ok_X9_plank : mok m_X9_plank := ⟨(gt5 (i := 91) rfl rfl), ini_9, rfl, ⟨by decide +kernel, by decide +kernel, by decide +kernel⟩, by decide, by decide +kernel, ⟨(gt5 (i := 89) rfl rfl), (gt5 (i := 90) rfl rfl)⟩⟩
theorem ok_X9_child : mok m_X9_child := ⟨(gt5 (i := 123) rfl rfl), ini_9, rfl, ⟨by decide +kernel, by decide +kernel, by decide +kernel⟩, by decide, by decide +kernel, ⟨(gt5 (i := 121) rfl rfl), (gt5 (i := 122) rfl rfl)⟩⟩
theorem ok_X9_stone : mok m_X9_stone := ⟨(gt5 (i := 131) rfl rfl), ini_9, rfl, ⟨by decide +kernel, by decide +kernel, by decide +kernel⟩, by decide, by decide +kernel, ⟨(gt5 (i := 129) rfl rfl), (gt5 (i := 130) rfl rfl)⟩⟩
theorem ok_X9_bumps : mok m_X9_bumps := ⟨(gt5 (i := 147) rfl rfl), ini_9, rfl, ⟨by decide +kernel, by decide +kernel, by decide +kernel⟩, by decide, by decide +kernel, ⟨(gt5 (i := 146) rfl rfl), (gp4 (i := 4) rfl)⟩⟩
theorem ok_X9_goes : mok m_X9_goes := ⟨(gt5 (i := 143) rfl rfl), ini_9, rfl, ⟨by decide +kernel, by decide +kernel, by decide +kernel⟩, by decide, by decide +kernel, ⟨(gt5 (i := 142) rfl rfl), (gp4 (i := 3) rfl)⟩⟩
theorem ok_X9_comes : mok m_X9_comes := ⟨(gt5 (i := 151) rfl rfl), ini_9, rfl, ⟨by decide +kernel, by decide +kernel, by decide +kernel⟩, by decide, by decide +kernel, ⟨(gt5 (i := 150) rfl rfl), (gp4 (i := 5) rfl)⟩⟩
theorem ok_X9_sits : mok m_X9_sits := ⟨(gt5 (i := 139) rfl rfl), ini_9, rfl, ⟨by decide +kernel, by decide +kernel, by decide +kernel⟩, by decide, by decide +kernel, ⟨(gt5 (i := 137) rfl rfl), (gt5 (i := 138) rfl rfl)⟩⟩
theorem ok_X9_leaves : mok m_X9_leaves := ⟨(gt5 (i := 155) rfl rfl), ini_9, rfl, ⟨by decide +kernel, by decide +kernel, by decide +kernel⟩, by decide, by decide +kernel, ⟨(gt5 (i := 153) rfl rfl), (gt5 (i := 154) rfl rfl)⟩⟩
theorem ok_X9_lay : mok m_X9_lay := ⟨(gt5 (i := 159) rfl rfl), ini_9, rfl, ⟨by decide +kernel, by decide +kernel, by decide +kernel⟩, by decide, by decide +kernel, ⟨(gt5 (i := 157) rfl rfl), (gt5 (i := 158) rfl rfl)⟩⟩
theorem ok_X9_take : mok m_X9_take := ⟨(gt5 (i := 163) rfl rfl), ini_9, rfl, ⟨by decide +kernel, by decide +kernel, by decide +kernel⟩, by decide, by decide +kernel, ⟨(gt5 (i := 161) rfl rfl), (gt5 (i := 162) rfl rfl)⟩⟩
theorem ok_X9_stepOf : mok m_X9_stepOf := ⟨(gt5 (i := 188) rfl rfl), ini_9, rfl, ⟨by decide +kernel, by decide +kernel, by decide +kernel⟩, by decide, by decide +kernel, ⟨(gt5 (i := 187) rfl rfl), (gp4 (i := 10) rfl)⟩⟩
theorem ok_X9_seats : mok m_X9_seats := ⟨(gt5 (i := 180) rfl rfl), ini_9, rfl, ⟨by decide +kernel, by decide +kernel, by decide +kernel⟩, by decide, by decide +kernel, ⟨(gt5 (i := 179) rfl rfl), (gp4 (i := 8) rfl)⟩⟩
theorem ok_X9_freeSeat : mok m_X9_freeSeat := ⟨(gt5 (i := 184) rfl rfl), ini_9, rfl, ⟨by decide +kernel, by decide +kernel, by decide +kernel⟩, by decide, by decide +kernel, ⟨(gt5 (i := 183) rfl rfl), (gp4 (i := 9) rfl)⟩⟩
theorem ok_X9_waysOf : mok m_X9_waysOf := ⟨(gt5 (i := 176) rfl rfl), ini_9, rfl, ⟨by decide +kernel, by decide +kernel, by decide +kernel⟩, by decide, by decide +kernel, ⟨(gt5 (i := 175) rfl rfl), (gp4 (i := 7) rfl)⟩⟩
theorem ok_X9_all : mok m_X9_all := ⟨(gt5 (i := 171) rfl rfl), ini_9, rfl, ⟨by decide +kernel, by decide +kernel, by decide +kernel⟩, by decide, by decide +kernel, ⟨(gt5 (i := 170) rfl rfl), (gp4 (i := 6) rfl)⟩⟩
theorem ok_X9_ways : mok m_X9_ways := ⟨(gt5 (i := 167) rfl rfl), ini_9, rfl, ⟨by decide +kernel, by decide +kernel, by decide +kernel⟩, by decide, by decide +kernel, ⟨(gt5 (i := 165) rfl rfl), (gt5 (i := 166) rfl rfl)⟩⟩
theorem ok_X9_ones : mok m_X9_ones := ⟨(gt5 (i := 195) rfl rfl), ini_9, rfl, ⟨by decide +kernel, by decide +kernel, by decide +kernel⟩, by decide, by decide +kernel, (gt5 (i := 194) rfl rfl)⟩
theorem ok_X9_most : mok m_X9_most := ⟨(gt5 (i := 192) rfl rfl), ini_9, rfl, ⟨by decide +kernel, by decide +kernel, by decide +kernel⟩, by decide, by decide +kernel, ⟨(gt5 (i := 190) rfl rfl), (gt5 (i := 191) rfl rfl)⟩⟩
theorem ok_X9_moves : mok m_X9_moves := ⟨(gt5 (i := 199) rfl rfl), ini_9, rfl, ⟨by decide +kernel, by decide +kernel, by decide +kernel⟩, by decide, by decide +kernel, ⟨(gt5 (i := 197) rfl rfl), (gt5 (i := 198) rfl rfl)⟩⟩
theorem ok_X9_hasStone : mok m_X9_hasStone := ⟨(gt5 (i := 211) rfl rfl), ini_9, rfl, ⟨by decide +kernel, by decide +kernel, by decide +kernel⟩, by decide, by decide +kernel, ⟨(gt5 (i := 210) rfl rfl), (gp4 (i := 12) rfl)⟩⟩
theorem ok_X9_levels : mok m_X9_levels := ⟨(gt5 (i := 207) rfl rfl), ini_9, rfl, ⟨by decide +kernel, by decide +kernel, by decide +kernel⟩, by decide, by decide +kernel, ⟨(gt5 (i := 206) rfl rfl), (gp4 (i := 11) rfl)⟩⟩
theorem ok_X9_ballast : mok m_X9_ballast := ⟨(gt5 (i := 203) rfl rfl), ini_9, rfl, ⟨by decide +kernel, by decide +kernel, by decide +kernel⟩, by decide, by decide +kernel, ⟨(gt5 (i := 201) rfl rfl), (gt5 (i := 202) rfl rfl)⟩⟩
theorem ok_X9_isTaken : mok m_X9_isTaken := ⟨(gt5 (i := 227) rfl rfl), ini_9, rfl, ⟨by decide +kernel, by decide +kernel, by decide +kernel⟩, by decide, by decide +kernel, ⟨(gt5 (i := 226) rfl rfl), (gp4 (i := 15) rfl)⟩⟩
theorem ok_X9_mayPut : mok m_X9_mayPut := ⟨(gt5 (i := 223) rfl rfl), ini_9, rfl, ⟨by decide +kernel, by decide +kernel, by decide +kernel⟩, by decide, by decide +kernel, ⟨(gt5 (i := 222) rfl rfl), (gp4 (i := 14) rfl)⟩⟩
theorem ok_X9_lastMove : mok m_X9_lastMove := ⟨(gt5 (i := 239) rfl rfl), ini_9, rfl, ⟨by decide +kernel, by decide +kernel, by decide +kernel⟩, by decide, by decide +kernel, ⟨(gt5 (i := 238) rfl rfl), (gp5 (i := 2) rfl)⟩⟩
theorem ok_X9_twoMoves : mok m_X9_twoMoves := ⟨(gt5 (i := 235) rfl rfl), ini_9, rfl, ⟨by decide +kernel, by decide +kernel, by decide +kernel⟩, by decide, by decide +kernel, ⟨(gt5 (i := 234) rfl rfl), (gp5 (i := 1) rfl)⟩⟩
theorem ok_X9_threeMoves : mok m_X9_threeMoves := ⟨(gt5 (i := 231) rfl rfl), ini_9, rfl, ⟨by decide +kernel, by decide +kernel, by decide +kernel⟩, by decide, by decide +kernel, ⟨(gt5 (i := 230) rfl rfl), (gp5 (i := 0) rfl)⟩⟩
theorem ok_X9_fourMoves : mok m_X9_fourMoves := ⟨(gt5 (i := 219) rfl rfl), ini_9, rfl, ⟨by decide +kernel, by decide +kernel, by decide +kernel⟩, by decide, by decide +kernel, ⟨(gt5 (i := 218) rfl rfl), (gp4 (i := 13) rfl)⟩⟩
theorem ok_X9_game : mok m_X9_game := ⟨(gt5 (i := 215) rfl rfl), ini_9, rfl, ⟨by decide +kernel, by decide +kernel, by decide +kernel⟩, by decide, by decide +kernel, ⟨(gt5 (i := 213) rfl rfl), (gt5 (i := 214) rfl rfl)⟩⟩
theorem ok_X9_strangers : mok m_X9_strangers := ⟨(gt6 (i := 3) rfl rfl), ini_9, rfl, ⟨by decide +kernel, by decide +kernel, by decide +kernel⟩, by decide, by decide +kernel, ⟨(gt6 (i := 1) rfl rfl), (gt6 (i := 2) rfl rfl)⟩⟩
theorem ok_X9_isStranger : mok m_X9_isStranger := ⟨(gt6 (i := 11) rfl rfl), ini_9, rfl, ⟨by decide +kernel, by decide +kernel, by decide +kernel⟩, by decide, by decide +kernel, ⟨(gt6 (i := 10) rfl rfl), (gp5 (i := 3) rfl)⟩⟩
theorem ok_X9_trial : mok m_X9_trial := ⟨(gt6 (i := 7) rfl rfl), ini_9, rfl, ⟨by decide +kernel, by decide +kernel, by decide +kernel⟩, by decide, by decide +kernel, ⟨(gt6 (i := 5) rfl rfl), (gt6 (i := 6) rfl rfl)⟩⟩
theorem ok_X9_weightIn : mok m_X9_weightIn := ⟨(gt6 (i := 33) rfl rfl), ini_9, rfl, ⟨by decide +kernel, by decide +kernel, by decide +kernel⟩, by decide, by decide +kernel, (gt6 (i := 32) rfl rfl)⟩
theorem ok_X9_weighs : mok m_X9_weighs := ⟨(gt6 (i := 30) rfl rfl), ini_9, rfl, ⟨by decide +kernel, by decide +kernel, by decide +kernel⟩, by decide, by decide +kernel, (gt6 (i := 29) rfl rfl)⟩
theorem ok_X9_allWays : mok m_X9_allWays := ⟨(gt6 (i := 23) rfl rfl), ini_9, rfl, ⟨by decide +kernel, by decide +kernel, by decide +kernel⟩, by decide, by decide +kernel, ⟨(gt6 (i := 22) rfl rfl), (gp5 (i := 5) rfl)⟩⟩
theorem ok_X9_fits : mok m_X9_fits := ⟨(gt6 (i := 27) rfl rfl), ini_9, rfl, ⟨by decide +kernel, by decide +kernel, by decide +kernel⟩, by decide, by decide +kernel, ⟨(gt6 (i := 26) rfl rfl), (gp5 (i := 6) rfl)⟩⟩
theorem ok_X9_couldBe : mok m_X9_couldBe := ⟨(gt6 (i := 19) rfl rfl), ini_9, rfl, ⟨by decide +kernel, by decide +kernel, by decide +kernel⟩, by decide, by decide +kernel, ⟨(gt6 (i := 18) rfl rfl), (gp5 (i := 4) rfl)⟩⟩
theorem ok_X9_could : mok m_X9_could := ⟨(gt6 (i := 15) rfl rfl), ini_9, rfl, ⟨by decide +kernel, by decide +kernel, by decide +kernel⟩, by decide, by decide +kernel, ⟨(gt6 (i := 13) rfl rfl), (gt6 (i := 14) rfl rfl)⟩⟩
theorem ok_X9_sure : mok m_X9_sure := ⟨(gt6 (i := 37) rfl rfl), ini_9, rfl, ⟨by decide +kernel, by decide +kernel, by decide +kernel⟩, by decide, by decide +kernel, ⟨(gt6 (i := 35) rfl rfl), (gt6 (i := 36) rfl rfl)⟩⟩
theorem ok_X9_next : mok m_X9_next := ⟨(gt6 (i := 41) rfl rfl), ini_9, rfl, ⟨by decide +kernel, by decide +kernel, by decide +kernel⟩, by decide, by decide +kernel, ⟨(gt6 (i := 39) rfl rfl), (gt6 (i := 40) rfl rfl)⟩⟩
theorem ok_X9_areAPair : mok m_X9_areAPair := ⟨(gt6 (i := 68) rfl rfl), ini_9, rfl, ⟨by decide +kernel, by decide +kernel, by decide +kernel⟩, by decide, by decide +kernel, ⟨(gt6 (i := 67) rfl rfl), (gp5 (i := 11) rfl)⟩⟩
theorem ok_X9_waits : mok m_X9_waits := ⟨(gt6 (i := 60) rfl rfl), ini_9, rfl, ⟨by decide +kernel, by decide +kernel, by decide +kernel⟩, by decide, by decide +kernel, ⟨(gt6 (i := 59) rfl rfl), (gp5 (i := 9) rfl)⟩⟩
theorem ok_X9_letsOff : mok m_X9_letsOff := ⟨(gt6 (i := 53) rfl rfl), ini_9, rfl, ⟨by decide +kernel, by decide +kernel, by decide +kernel⟩, by decide, by decide +kernel, ⟨(gt6 (i := 52) rfl rfl), (gp5 (i := 8) rfl)⟩⟩
theorem ok_X9_lesser : mok m_X9_lesser := ⟨(gt6 (i := 56) rfl rfl), ini_9, rfl, ⟨by decide +kernel, by decide +kernel, by decide +kernel⟩, by decide, by decide +kernel, (gt6 (i := 55) rfl rfl)⟩
theorem ok_X9_outOfRow : mok m_X9_outOfRow := ⟨(gt6 (i := 72) rfl rfl), ini_9, rfl, ⟨by decide +kernel, by decide +kernel, by decide +kernel⟩, by decide, by decide +kernel, ⟨(gt6 (i := 71) rfl rfl), (gp5 (i := 12) rfl)⟩⟩
theorem ok_X9_takesOn : mok m_X9_takesOn := ⟨(gt6 (i := 64) rfl rfl), ini_9, rfl, ⟨by decide +kernel, by decide +kernel, by decide +kernel⟩, by decide, by decide +kernel, ⟨(gt6 (i := 63) rfl rfl), (gp5 (i := 10) rfl)⟩⟩
theorem ok_X9_goesBy : mok m_X9_goesBy := ⟨(gt6 (i := 49) rfl rfl), ini_9, rfl, ⟨by decide +kernel, by decide +kernel, by decide +kernel⟩, by decide, by decide +kernel, ⟨(gt6 (i := 48) rfl rfl), (gp5 (i := 7) rfl)⟩⟩
theorem ok_X9_rides : mok m_X9_rides := ⟨(gt6 (i := 45) rfl rfl), ini_9, rfl, ⟨by decide +kernel, by decide +kernel, by decide +kernel⟩, by decide, by decide +kernel, ⟨(gt6 (i := 43) rfl rfl), (gt6 (i := 44) rfl rfl)⟩⟩
theorem ok_X9_forever : mok m_X9_forever := ⟨(gt6 (i := 76) rfl rfl), ini_9, rfl, ⟨by decide +kernel, by decide +kernel, by decide +kernel⟩, by decide, by decide +kernel, ⟨(gt6 (i := 74) rfl rfl), (gt6 (i := 75) rfl rfl)⟩⟩
theorem ok_X9_rate : mok m_X9_rate := ⟨(gt6 (i := 80) rfl rfl), ini_9, rfl, ⟨by decide +kernel, by decide +kernel, by decide +kernel⟩, by decide, by decide +kernel, ⟨(gt6 (i := 78) rfl rfl), (gt6 (i := 79) rfl rfl)⟩⟩
theorem ok_X9_sitting : mok m_X9_sitting := ⟨(gt6 (i := 93) rfl rfl), ini_9, rfl, ⟨by decide +kernel, by decide +kernel, by decide +kernel⟩, by decide, by decide +kernel, ⟨(gt6 (i := 92) rfl rfl), (gp5 (i := 13) rfl)⟩⟩
theorem ok_X9_keep : mok m_X9_keep := ⟨(gt6 (i := 89) rfl rfl), ini_9, rfl, ⟨by decide +kernel, by decide +kernel, by decide +kernel⟩, by decide, by decide +kernel, ⟨(gt6 (i := 87) rfl rfl), (gt6 (i := 88) rfl rfl)⟩⟩
theorem ok_X9_back : mok m_X9_back := ⟨(gt6 (i := 97) rfl rfl), ini_9, rfl, ⟨by decide +kernel, by decide +kernel, by decide +kernel⟩, by decide, by decide +kernel, ⟨(gt6 (i := 95) rfl rfl), (gt6 (i := 96) rfl rfl)⟩⟩
theorem ok_X9_count : mok m_X9_count := ⟨(gt6 (i := 101) rfl rfl), ini_9, rfl, ⟨by decide +kernel, by decide +kernel, by decide +kernel⟩, by decide, by decide +kernel, ⟨(gt6 (i := 99) rfl rfl), (gt6 (i := 100) rfl rfl)⟩⟩
theorem ok_X9_trace : mok m_X9_trace := ⟨(gt6 (i := 105) rfl rfl), ini_9, rfl, ⟨by decide +kernel, by decide +kernel, by decide +kernel⟩, by decide, by decide +kernel, ⟨(gt6 (i := 103) rfl rfl), (gt6 (i := 104) rfl rfl)⟩⟩
theorem ok_J6_bitCount_0f7a4 : mok m_J6_bitCount_0f7a4 := ⟨(gt3 (i := 10) rfl rfl), ini_10, rfl, ⟨by decide +kernel, by decide +kernel, by decide +kernel⟩, by decide, by decide +kernel, (gt3 (i := 9) rfl rfl)⟩
theorem ok_J6_signum_0f7a4 : mok m_J6_signum_0f7a4 := ⟨(gt3 (i := 54) rfl rfl), ini_10, rfl, ⟨by decide +kernel, by decide +kernel, by decide +kernel⟩, by decide, by decide +kernel, (gt3 (i := 53) rfl rfl)⟩
theorem ok_J0_length_8abf5 : mok m_J0_length_8abf5 := ⟨(gt2 (i := 130) rfl rfl), ini_13, rfl, ⟨by decide +kernel, by decide +kernel, by decide +kernel⟩, by decide, by decide +kernel, ⟨(gt2 (i := 128) rfl rfl), (gt2 (i := 129) rfl rfl)⟩⟩
theorem ok_J0_charAt_5068e : mok m_J0_charAt_5068e := ⟨(gt2 (i := 140) rfl rfl), ini_13, rfl, ⟨by decide +kernel, by decide +kernel, by decide +kernel⟩, by decide, by decide +kernel, ⟨(gt2 (i := 138) rfl rfl), (gt2 (i := 139) rfl rfl)⟩⟩
theorem ok_J0_coder_7d493 : mok m_J0_coder_7d493 := ⟨(gt2 (i := 134) rfl rfl), ini_13, rfl, ⟨by decide +kernel, by decide +kernel, by decide +kernel⟩, by decide, by decide +kernel, ⟨(gt2 (i := 132) rfl rfl), (gt2 (i := 133) rfl rfl)⟩⟩
theorem ok_J0_isLatin1_aae02 : mok m_J0_isLatin1_aae02 := ⟨(gt2 (i := 144) rfl rfl), ini_13, rfl, ⟨by decide +kernel, by decide +kernel, by decide +kernel⟩, by decide, by decide +kernel, ⟨(gt2 (i := 142) rfl rfl), (gt2 (i := 143) rfl rfl)⟩⟩
theorem ok_J0_checkIndex_df160 : mok m_J0_checkIndex_df160 := ⟨(gt2 (i := 150) rfl rfl), ini_13, rfl, ⟨by decide +kernel, by decide +kernel, by decide +kernel⟩, by decide, by decide +kernel, (gt2 (i := 149) rfl rfl)⟩
theorem ok_J1_charAt_3b067 : mok m_J1_charAt_3b067 := ⟨(gt2 (i := 147) rfl rfl), ini_14, rfl, ⟨by decide +kernel, by decide +kernel, by decide +kernel⟩, by decide, by decide +kernel, (gt2 (i := 146) rfl rfl)⟩
theorem ok_J7_fill_53178 : mok m_J7_fill_53178 := ⟨(gt4 (i := 23) rfl rfl), ini_12, rfl, ⟨by decide +kernel, by decide +kernel, by decide +kernel⟩, by decide, by decide +kernel, (gt4 (i := 22) rfl rfl)⟩
theorem ok_J3_checkIndex_8e157 : mok m_J3_checkIndex_8e157 := ⟨(gt2 (i := 155) rfl rfl), ini_15, rfl, ⟨by decide +kernel, by decide +kernel, by decide +kernel⟩, by decide, by decide +kernel, (gt2 (i := 154) rfl rfl)⟩
end
section
/-! the world as a table of places: a pure memory M (ints by place and slot, longs by place and slot), the shapes 'shp', addresses 'ad' -/
abbrev PM : Type := (Nat → Nat → Int32) × (Nat → Nat → Int64)
abbrev GG : Type := Launch × va_G × (Nat → ClassId) × (Nat → Nat)
def cv (ad : Nat → Nat) : Value → Value
  | .ref i => .ref (ad i)
  | v => v
def pfv (ad : Nat → Nat) (M : PM) (i k : Nat) (q : Nat × Nat) : Value := match q.1 with
  | 1 => .long (M.2 i k)
  | 2 => .ref (ad q.2)
  | _ => .int (M.1 i k)
def pid : Nat → Nat := fun x => x
theorem cv_pfv (ad : Nat → Nat) (M : PM) (i k : Nat) (q : Nat × Nat) : cv ad (pfv pid M i k q) = pfv ad M i k q := by
  obtain ⟨a, b⟩ := q
  match a with
  | 0 => rfl
  | 1 => rfl
  | 2 => rfl
  | n + 3 => rfl
def pce (ad : Nat → Nat) (cA : Nat → ClassId) (M : PM) (i : Nat) : Shp → va_E
  | .inl (t, n) => .inl (cA t, n, if t = 2 then .inr (.inl (M.2 i)) else .inl (M.1 i))
  | .inr (ci, ks) => .inr (ci, ks.zipIdx.map (fun p => pfv ad M i p.2 p.1))
def pws (ad : Nat → Nat) (cA : Nat → ClassId) (M : PM) : va_W := shp.zipIdx.map (fun p => (ad p.2, pce ad cA M p.2 p.1))
theorem shp_len : shp.length = 75 := by decide +kernel
theorem pws_get {ad : Nat → Nat} {cA : Nat → ClassId} {M : PM} {i : Nat} {sh : Shp} (h : shp[i]? = some sh) : (pws ad cA M)[i]? = some (ad i, pce ad cA M i sh) := by
  simp [pws, List.getElem?_map, List.getElem?_zipIdx, h]
theorem pws_some {ad : Nat → Nat} {cA : Nat → ClassId} {M : PM} {k : Nat} {q : Nat × va_E} (h : (pws ad cA M)[k]? = some q) : ∃ sh, shp[k]? = some sh ∧ q = (ad k, pce ad cA M k sh) := by
  cases hs : shp[k]? with
  | none => simp [pws, List.getElem?_map, List.getElem?_zipIdx, hs] at h
  | some sh => rw [pws_get hs] at h; exact ⟨sh, rfl, (Option.some.inj h).symm⟩
theorem pws_len {ad : Nat → Nat} {cA : Nat → ClassId} {M : PM} : (pws ad cA M).length = shp.length := by simp [pws]
theorem pce_congr {ad : Nat → Nat} {cA : Nat → ClassId} {M M' : PM} {i : Nat} (h1 : M'.1 i = M.1 i) (h2 : M'.2 i = M.2 i) (sh : Shp) : pce ad cA M' i sh = pce ad cA M i sh := by
  cases sh with
  | inl a => simp only [pce, h1, h2]
  | inr a => simp only [pce, pfv, h1, h2]
theorem pws_set {ad : Nat → Nat} {cA : Nat → ClassId} {M M' : PM} {i : Nat} {sh : Shp} (h : shp[i]? = some sh) (h1 : ∀ a, a ≠ i → M'.1 a = M.1 a ∧ M'.2 a = M.2 a) {e : va_E} (he : e = pce ad cA M' i sh) : (pws ad cA M).set i (ad i, e) = pws ad cA M' := by
  subst he
  apply List.ext_getElem?
  intro j
  rw [List.getElem?_set]
  by_cases hj : i = j
  · subst hj
    rw [if_pos rfl, pws_get h, pws_len, if_pos]
    exact (List.getElem?_eq_some_iff.mp h).1
  · rw [if_neg hj]
    cases hs : shp[j]? with
    | none =>
      have : shp.length ≤ j := List.getElem?_eq_none_iff.mp hs
      rw [List.getElem?_eq_none_iff.mpr (by rw [pws_len]; exact this), List.getElem?_eq_none_iff.mpr (by rw [pws_len]; exact this)]
    | some sj =>
      rw [pws_get hs, pws_get hs]
      have := h1 j (fun e => hj e.symm)
      rw [pce_congr this.1 this.2]
def AA (ad : Nat → Nat) : Nat → Prop := fun q => ∃ i, i < 75 ∧ q = ad i
def inj75 (ad : Nat → Nat) : Prop := ∀ i j, i < 75 → j < 75 → ad i = ad j → i = j
theorem shp_lt {i : Nat} {sh : Shp} (h : shp[i]? = some sh) : i < 75 := by
  have := (List.getElem?_eq_some_iff.mp h).1
  rw [shp_len] at this
  exact this
theorem pws_D {ad : Nat → Nat} {cA : Nat → ClassId} {M : PM} (hi : inj75 ad) : va_D (AA ad) (pws ad cA M) := by
  refine ⟨fun i j p q hp hq e => ?_, fun k q hk => ?_⟩
  · obtain ⟨s1, a1, rfl⟩ := pws_some hp
    obtain ⟨s2, a2, rfl⟩ := pws_some hq
    exact hi i j (shp_lt a1) (shp_lt a2) e
  · obtain ⟨s1, a1, rfl⟩ := pws_some hk
    exact ⟨k, shp_lt a1, rfl⟩
/-- a store of an int, of a long -/
def wI (M : PM) (i k : Nat) (v : Int32) : PM := (va_up M.1 i (upd (M.1 i) k v), M.2)
def wL (M : PM) (i k : Nat) (v : Int64) : PM := (M.1, va_up M.2 i (vp_updL (M.2 i) k v))
theorem wI_ne {M : PM} {i k : Nat} {v : Int32} : ∀ a, a ≠ i → (wI M i k v).1 a = M.1 a ∧ (wI M i k v).2 a = M.2 a := fun a h => ⟨by simp [wI, va_up, h], rfl⟩
theorem wL_ne {M : PM} {i k : Nat} {v : Int64} : ∀ a, a ≠ i → (wL M i k v).1 a = M.1 a ∧ (wL M i k v).2 a = M.2 a := fun a h => ⟨rfl, by simp [wL, va_up, h]⟩
/-- what stands still: static arrays, strings -/
def ctA : List Int32 := [-1, 0, 0, 1, 2, 0]
def ctM : List Int32 := [1, 10, 100, 1000, 10000, 100000]
def ctB : List (List Int32) := [[112, 108, 97, 110, 107], [99, 104, 105, 108, 100], [115, 116, 111, 110, 101]]
def SF (ad : Nat → Nat) (A : Nat → Prop) (s : State) (H : Heap) : Prop :=
  va_Z "SeesawPark" "KIND_ABOVE" "[I" (.ref (ad 200)) A s H ∧ va_T .int (ad 200) 6 (fun j => .int (ctA.getD j 0)) A s H ∧
  va_Z "SeesawPark" "KIND_MARK" "[I" (.ref (ad 201)) A s H ∧ va_T .int (ad 201) 6 (fun j => .int (ctM.getD j 0)) A s H ∧
  va_Z "java/lang/String" "COMPACT_STRINGS" "Z" (.int 1) A s H ∧
  (va_Z "jdk/internal/util/Preconditions" "SIOOBE_FORMATTER" "Ljava/util/function/BiFunction;" .null A s H ∨ va_Z "jdk/internal/util/Preconditions" "SIOOBE_FORMATTER" "Ljava/util/function/BiFunction;" (.ref (ad 230)) A s H) ∧
  vk_S 3 [5, 5, 5] ctB (fun i => ad (210 + i)) (fun i => ad (220 + i)) A s H
def y_seat : MethodName := ⟨"SeesawPark", "stepOfSeat", "(II)I"⟩
def VF (ad : Nat → Nat) (s : State) : Prop :=
  vk_R "SeesawPark$Told" 98 "plank" (ad 210) s ∧ vk_R "SeesawPark$Told" 104 "child" (ad 211) s ∧ vk_R "SeesawPark$Told" 106 "stone" (ad 212) s ∧
  va_Nw (.methodLinkNest "SeesawPark$Crowd" 27 y_seat "SeesawPark") s ∧ va_Nw (.methodLinkNest "SeesawPark$Contest" 45 y_seat "SeesawPark") s
def tysl (cA : Nat → ClassId) : List (ClassId × FieldType) := [(cA 0, .int), (cA 1, .boolean), (cA 2, .long)]
def WK (G : GG) (s : State) : Prop := va_K G.2.1 cls (tysl G.2.2.1) s ∧ inj75 G.2.2.2 ∧ SF G.2.2.2 (AA G.2.2.2) s s.heap ∧ VF G.2.2.2 s
theorem SF.moved {ad : Nat → Nat} {A : Nat → Prop} {u U : State} {H : Heap} (hvm : u.vm.Alike U.vm) (h : SF ad A u H) : SF ad A U H := by
  obtain ⟨h1, h2, h3, h4, h5, h6, h7⟩ := h
  exact ⟨h1.moved hvm, h2.moved hvm, h3.moved hvm, h4.moved hvm, h5.moved hvm, h6.imp (fun z => z.moved hvm) (fun z => z.moved hvm), h7.moved hvm⟩
theorem SF.kept {ad : Nat → Nat} {A : Nat → Prop} {U : State} {H H1 : Heap} (h : SF ad A U H) (hq : ∀ a : Nat, a < H.size → ¬ A a → H1[a]? = H[a]?) : SF ad A U H1 := by
  obtain ⟨h1, h2, h3, h4, h5, h6, h7⟩ := h
  exact ⟨h1.kept hq, h2.kept hq, h3.kept hq, h4.kept hq, h5.kept hq, h6.imp (fun z => z.kept hq) (fun z => z.kept hq), h7.kept hq⟩
theorem WK.move {G : GG} {s U : State} (h : WK G s) (hW : s.WarmedH U.vm) (hq : ∀ a : Nat, a < s.heap.size → ¬ AA G.2.2.2 a → U.heap[a]? = s.heap[a]?) : WK G U := by
  obtain ⟨h1, h2, h3, h4, h5, h6, h7, h8⟩ := h
  exact ⟨va_K.moved hW.alike h1, h2, (h3.kept hq).moved hW.alike, h4.warm hW, h5.warm hW, h6.warm hW, h7.warmM hW, h8.warmM hW⟩
theorem WK.blind {G : GG} {U : State} {g : JFrame} {mk : MethodId} {a : Array Value} (h : WK G U) : WK G (U.calling g mk a) := by
  obtain ⟨h1, h2, h3, h4, h5, h6, h7, h8⟩ := h
  exact ⟨va_K.moved (u := U) (U := U.calling g mk a) (Vm.Alike.refl U.vm) h1, h2, SF.moved (u := U) (U := U.calling g mk a) (Vm.Alike.refl U.vm) h3, h4.same rfl, h5.same rfl, h6.same rfl, va_Nw.same rfl (u := U) rfl h7, va_Nw.same rfl (u := U) rfl h8⟩
/-! contracts over the table's world -/
def rmd (d : Nat) : Room := { frames := d, cells := 0, slots := 0, locals := 64 * d }
def Qp (G : GG) (Post : Option Value → PM → Prop) : Array Value → State → Outcome → State → Prop := fun _ st o t =>
  (∃ (r : Option Value) (M : PM), o = .returned (r.map (cv G.2.2.2)) ∧ Post r M ∧ va_P G.2.1 cls (pws G.2.2.2 G.2.2.1 M) t.heap) ∧ va_F (AA G.2.2.2) st t
def PC (G : GG) (d : Nat) (μ : Mth) (args : List Value) (M : PM) (Post : Option Value → PM → Prop) : Prop :=
  mok μ ∧ Met G.1 μ.2.1 (mcode μ :: gw) (rmd d) (va_Pc (args.map (cv G.2.2.2)) (fun U => WK G U ∧ va_P G.2.1 cls (pws G.2.2.2 G.2.2.1 M) U.heap)) (Qp G Post) 0 0 (AA G.2.2.2)
/-- locals: what is known of each place -/
def lg : List (Option Value) → Nat → Option Value
  | [], _ => none
  | o :: _, 0 => o
  | _ :: r, k + 1 => lg r k
def lvH (ad : Nat → Nat) (ls : Array Slot) (n : Nat) (L : List (Option Value)) : Prop := ls.size = n ∧ lv_wf ls ∧ ∀ i v, lg L i = some v → ls[i]? = some (.val (cv ad v))
def wide : Option Value → Option Value
  | some (.long _) => none
  | some (.double _) => none
  | o => o
def stL : List (Option Value) → Nat → Value → List (Option Value)
  | [], _, _ => []
  | _ :: r, 0, v => some v :: r
  | o :: r, 1, v => wide o :: stL r 0 v
  | o :: r, i + 2, v => o :: stL r (i + 1) v
def noL : List (Option Value) → Nat → List (Option Value)
  | [], _ => []
  | _ :: r, 0 => none :: r
  | o :: r, i + 1 => o :: noL r i
theorem wide_some {o : Option Value} {v : Value} (h : wide o = some v) : o = some v ∧ v.category = 1 := by
  match o with
  | none => cases h
  | some (.long _) => cases h
  | some (.double _) => cases h
  | some (.int _) => cases h; exact ⟨rfl, rfl⟩
  | some (.float _) => cases h; exact ⟨rfl, rfl⟩
  | some .null => cases h; exact ⟨rfl, rfl⟩
  | some (.ref _) => cases h; exact ⟨rfl, rfl⟩
  | some (.retAddr _) => cases h; exact ⟨rfl, rfl⟩
theorem lg_stL : ∀ {L : List (Option Value)} {i j : Nat} {v w : Value}, lg (stL L i v) j = some w → (j = i ∧ w = v) ∨ (j ≠ i ∧ lg L j = some w ∧ (j + 1 = i → w.category = 1))
  | [], i, j, v, w, h => by simp [stL, lg] at h
  | o :: r, 0, 0, v, w, h => Or.inl ⟨rfl, (Option.some.inj h).symm⟩
  | o :: r, 0, j + 1, v, w, h => Or.inr ⟨by omega, h, by omega⟩
  | o :: r, 1, 0, v, w, h => Or.inr ⟨by omega, (wide_some h).1, fun _ => (wide_some h).2⟩
  | o :: r, 1, j + 1, v, w, h => by
    have h : lg (stL r 0 v) j = some w := h
    rcases lg_stL h with ⟨a, b⟩ | ⟨a, b, c⟩
    · exact Or.inl ⟨by omega, b⟩
    · exact Or.inr ⟨by omega, b, by omega⟩
  | o :: r, i + 2, 0, v, w, h => Or.inr ⟨by omega, h, by omega⟩
  | o :: r, i + 2, j + 1, v, w, h => by
    have h : lg (stL r (i + 1) v) j = some w := h
    rcases lg_stL h with ⟨a, b⟩ | ⟨a, b, c⟩
    · exact Or.inl ⟨by omega, b⟩
    · exact Or.inr ⟨by omega, b, fun e => c (by omega)⟩
theorem lg_noL : ∀ {L : List (Option Value)} {i j : Nat} {w : Value}, lg (noL L i) j = some w → j ≠ i ∧ lg L j = some w
  | [], i, j, w, h => by simp [noL, lg] at h
  | o :: r, 0, 0, w, h => by cases h
  | o :: r, 0, j + 1, w, h => ⟨by omega, h⟩
  | o :: r, i + 1, 0, w, h => ⟨by omega, h⟩
  | o :: r, i + 1, j + 1, w, h => by
    have h : lg (noL r i) j = some w := h
    obtain ⟨a, b⟩ := lg_noL h
    exact ⟨by omega, b⟩
/-- all that is known, as the kit's list -/
def cvl (ad : Nat → Nat) (L : List (Option Value)) : List (Nat × Value) := (List.range L.length).filterMap (fun i => (lg L i).map (fun v => (i, cv ad v)))
theorem lg_lt : ∀ {L : List (Option Value)} {i : Nat} {v : Value}, lg L i = some v → i < L.length
  | [], _, _, h => by cases h
  | _ :: _, 0, _, _ => by simp
  | _ :: r, i + 1, v, h => by
    have : i < r.length := lg_lt (show lg r i = some v from h)
    simp; omega
theorem cvl_mem {ad : Nat → Nat} {L : List (Option Value)} {i : Nat} {v : Value} (h : lg L i = some v) : (i, cv ad v) ∈ cvl ad L :=
  List.mem_filterMap.mpr ⟨i, List.mem_range.mpr (lg_lt h), by rw [h]; rfl⟩
theorem lvH.has {ad : Nat → Nat} {ls : Array Slot} {n : Nat} {L : List (Option Value)} (h : lvH ad ls n L) : lv_has ls n (cvl ad L) := by
  refine ⟨h.1, h.2.1, fun q hq => ?_⟩
  obtain ⟨i, -, hi⟩ := List.mem_filterMap.mp hq
  cases hv : lg L i with
  | none => rw [hv] at hi; cases hi
  | some v => rw [hv] at hi; cases hi; exact h.2.2 i v hv
theorem cv_cat (ad : Nat → Nat) (v : Value) : (cv ad v).category = v.category := by cases v <;> rfl
theorem lvH.st1 {ad : Nat → Nat} {ls' : Array Slot} {n i : Nat} {L : List (Option Value)} {v : Value} (h : lv_has ls' n ((i, cv ad v) :: (cvl ad L).filter (fun q => !(q.1 == i) && !(q.1 + 1 == i && q.2.category == 2)))) : lvH ad ls' n (stL L i v) := by
  refine ⟨h.1, h.2.1, fun j w hj => ?_⟩
  rcases lg_stL hj with ⟨rfl, rfl⟩ | ⟨a, b, c⟩
  · exact h.2.2 _ List.mem_cons_self
  · refine h.2.2 (j, cv ad w) (List.mem_cons_of_mem _ (List.mem_filter.mpr ⟨cvl_mem b, ?_⟩))
    simp only [Bool.and_eq_true, Bool.not_eq_true', beq_eq_false_iff_ne, ne_eq, Bool.and_eq_false_iff]
    refine ⟨a, ?_⟩
    by_cases e : j + 1 = i
    · right; rw [cv_cat, c e]; decide
    · left; exact e
theorem lvH.st2 {ad : Nat → Nat} {ls' : Array Slot} {n i : Nat} {L : List (Option Value)} {v : Value} (h : lv_has ls' n ((i, cv ad v) :: (cvl ad L).filter (fun q => !(q.1 == i) && (!(q.1 == i + 1) && !(q.1 + 1 == i && q.2.category == 2))))) : lvH ad ls' n (stL (noL L (i + 1)) i v) := by
  refine ⟨h.1, h.2.1, fun j w hj => ?_⟩
  rcases lg_stL hj with ⟨rfl, rfl⟩ | ⟨a, b, c⟩
  · exact h.2.2 _ List.mem_cons_self
  · obtain ⟨a2, b2⟩ := lg_noL b
    refine h.2.2 (j, cv ad w) (List.mem_cons_of_mem _ (List.mem_filter.mpr ⟨cvl_mem b2, ?_⟩))
    simp only [Bool.and_eq_true, Bool.not_eq_true', beq_eq_false_iff_ne, ne_eq, Bool.and_eq_false_iff]
    refine ⟨a, a2, ?_⟩
    by_cases e : j + 1 = i
    · right; rw [cv_cat, c e]; decide
    · left; exact e
def PX (G : GG) (d : Nat) (μ : Mth) (Post : Option Value → PM → Prop) (pc : Nat) (L : List (Option Value)) (st : List Value) (M : PM) : Prop :=
  ∀ (p : Program) (e : Env) (s : State) (m : MethodId) (args : Array Value) (below : List Frame) (meth : Method) (c : Code) (H : Heap) (locs : List Loc) (ls : Array Slot),
    p.tables.exec = Jvm.exec → c.code = μ.2.2.1 → c.maxLocals = μ.2.2.2.1 → meth.sig.returnType = μ.2.2.2.2.1 → meth.locks = false → s.vm.findClass (nmo μ.1) = some m.cls → (∀ w ∈ gw, w.before args s = true) → WK G s → va_P G.2.1 cls (pws G.2.2.2 G.2.2.1 M) H → va_S (AA G.2.2.2) s.heap H locs → lvH G.2.2.2 ls μ.2.2.2.1 L →
    W p G.1 e (rmd (d + 1)) s m args below meth c H locs 0 0 (MQ below (Qp G Post) args s 0 0 (AA G.2.2.2)) (F0 m pc ls (st.map (cv G.2.2.2)))
/-! from the body to the contract -/
def entL : List Value → List (Option Value)
  | [] => []
  | .long x :: r => some (.long x) :: none :: entL r
  | .double x :: r => some (.double x) :: none :: entL r
  | v :: r => some v :: entL r
theorem entL_len (ad : Nat → Nat) : ∀ vs : List Value, (lg_sl (vs.map (cv ad))).length = (entL vs).length
  | [] => rfl
  | v :: r => by
    have ih := entL_len ad r
    cases v <;> simp [lg_sl, entL, cv, Value.category] at ih ⊢ <;> omega
theorem lg_pad : ∀ {L : List (Option Value)} {n i : Nat} {v : Value}, lg (L ++ List.replicate n none) i = some v → lg L i = some v
  | [], 0, i, v, h => h
  | [], n + 1, 0, v, h => by cases h
  | [], n + 1, i + 1, v, h => by
    have h : lg ([] ++ List.replicate n none) i = some v := h
    exact absurd (lg_pad h) (by simp [lg])
  | o :: r, n, 0, v, h => h
  | o :: r, n, i + 1, v, h => lg_pad (L := r) (n := n) (i := i) (v := v) h
theorem entL_args (ad : Nat → Nat) : ∀ (vs : List Value) (k i : Nat) (v : Value), lg (entL vs) i = some v → (k + i, cv ad v) ∈ lv_args k (vs.map (cv ad))
  | [], k, i, v, h => by cases h
  | .long x :: r, k, 0, v, h => by cases h; exact List.mem_cons_self
  | .long x :: r, k, 1, v, h => by cases h
  | .long x :: r, k, i + 2, v, h => by
    have := entL_args ad r (k + 2) i v h
    rw [show k + (i + 2) = k + 2 + i by omega]
    exact List.mem_cons_of_mem _ this
  | .double x :: r, k, 0, v, h => by cases h; exact List.mem_cons_self
  | .double x :: r, k, 1, v, h => by cases h
  | .double x :: r, k, i + 2, v, h => by
    have := entL_args ad r (k + 2) i v h
    rw [show k + (i + 2) = k + 2 + i by omega]
    exact List.mem_cons_of_mem _ this
  | .int x :: r, k, 0, v, h => by cases h; exact List.mem_cons_self
  | .int x :: r, k, i + 1, v, h => by
    have := entL_args ad r (k + 1) i v h
    rw [show k + (i + 1) = k + 1 + i by omega]
    exact List.mem_cons_of_mem _ this
  | .float x :: r, k, 0, v, h => by cases h; exact List.mem_cons_self
  | .float x :: r, k, i + 1, v, h => by
    have := entL_args ad r (k + 1) i v h
    rw [show k + (i + 1) = k + 1 + i by omega]
    exact List.mem_cons_of_mem _ this
  | .null :: r, k, 0, v, h => by cases h; exact List.mem_cons_self
  | .null :: r, k, i + 1, v, h => by
    have := entL_args ad r (k + 1) i v h
    rw [show k + (i + 1) = k + 1 + i by omega]
    exact List.mem_cons_of_mem _ this
  | .ref x :: r, k, 0, v, h => by cases h; exact List.mem_cons_self
  | .ref x :: r, k, i + 1, v, h => by
    have := entL_args ad r (k + 1) i v h
    rw [show k + (i + 1) = k + 1 + i by omega]
    exact List.mem_cons_of_mem _ this
  | .retAddr x :: r, k, 0, v, h => by cases h; exact List.mem_cons_self
  | .retAddr x :: r, k, i + 1, v, h => by
    have := entL_args ad r (k + 1) i v h
    rw [show k + (i + 1) = k + 1 + i by omega]
    exact List.mem_cons_of_mem _ this
theorem PC.of {G : GG} {d : Nat} {μ : Mth} {av : List Value} {M : PM} {Post : Option Value → PM → Prop} (hm : mok μ) (hlen : (entL av).length ≤ μ.2.2.2.1) (h : PX G d μ Post 0 (entL av ++ List.replicate (μ.2.2.2.1 - (entL av).length) none) [] M) : PC G (d + 1) μ av M Post := by
  refine ⟨hm, Met.ofW (cc := μ.2.2.1) (maxL := μ.2.2.2.1) (ret := μ.2.2.2.2.1) (ws' := gw) hm.2.2.2.2.2.1 rfl ?_⟩
  intro p e s m args below meth c s₁ B hml hv
  obtain ⟨rfl, hWK, hP⟩ := hv
  have hts := atoms_spec (ws := mcode μ :: gw) B.pre
  have hl := lv_entry (av.map (cv G.2.2.2)) (n := μ.2.2.2.1) (by rw [entL_len]; exact hlen)
  rw [lg_entry_eq]
  refine h p e s m _ below meth c s.heap [] _ B.exec B.bytes hml B.returns B.notSynchronized ?_ (fun w hw => hts w (List.mem_cons_of_mem _ hw)) hWK hP va_S.rf ⟨hl.1, hl.2.1, fun i v hv => ?_⟩
  · rw [hm.2.2.1]; exact findClass_of_methodNamed B.named
  · have h1 := entL_args G.2.2.2 av 0 i v (lg_pad hv)
    rw [Nat.zero_add] at h1
    exact hl.2.2 _ h1
end
section
/-! one step, as a weakest precondition; its soundness -/
abbrev KK : Type := Nat → List (Option Value) → List Value → PM → Prop
def gd (b : Bool) (P : Prop) : Prop := match b with
  | true => P
  | false => False
theorem gd_inv {b : Bool} {P : Prop} (h : gd b P) : b = true ∧ P := by
  cases b with
  | true => exact ⟨rfl, h⟩
  | false => exact h.elim
def p1 (st : List Value) (f : Int32 → List Value → Prop) : Prop := match st with
  | .int a :: r => f a r
  | _ => False
def p2 (st : List Value) (f : Int32 → Int32 → List Value → Prop) : Prop := match st with
  | .int b :: .int a :: r => f a b r
  | _ => False
def q1 (st : List Value) (f : Int64 → List Value → Prop) : Prop := match st with
  | .long a :: r => f a r
  | _ => False
def q2 (st : List Value) (f : Int64 → Int64 → List Value → Prop) : Prop := match st with
  | .long b :: .long a :: r => f a b r
  | _ => False
def qi (st : List Value) (f : Int64 → Int32 → List Value → Prop) : Prop := match st with
  | .int b :: .long a :: r => f a b r
  | _ => False
def r1 (st : List Value) (f : Nat → List Value → Prop) : Prop := match st with
  | .ref a :: r => f a r
  | _ => False
def gI (o : Option Value) (f : Int32 → Prop) : Prop := match o with
  | some (.int x) => f x
  | _ => False
def gL (o : Option Value) (f : Int64 → Prop) : Prop := match o with
  | some (.long x) => f x
  | _ => False
def gR (o : Option Value) (f : Nat → Prop) : Prop := match o with
  | some (.ref x) => f x
  | _ => False
theorem p1_inv {st : List Value} {f : Int32 → List Value → Prop} (h : p1 st f) : ∃ a r, st = .int a :: r ∧ f a r := by
  unfold p1 at h; split at h
  · exact ⟨_, _, rfl, h⟩
  · exact h.elim
theorem p2_inv {st : List Value} {f : Int32 → Int32 → List Value → Prop} (h : p2 st f) : ∃ a b r, st = .int b :: .int a :: r ∧ f a b r := by
  unfold p2 at h; split at h
  · exact ⟨_, _, _, rfl, h⟩
  · exact h.elim
theorem q1_inv {st : List Value} {f : Int64 → List Value → Prop} (h : q1 st f) : ∃ a r, st = .long a :: r ∧ f a r := by
  unfold q1 at h; split at h
  · exact ⟨_, _, rfl, h⟩
  · exact h.elim
theorem q2_inv {st : List Value} {f : Int64 → Int64 → List Value → Prop} (h : q2 st f) : ∃ a b r, st = .long b :: .long a :: r ∧ f a b r := by
  unfold q2 at h; split at h
  · exact ⟨_, _, _, rfl, h⟩
  · exact h.elim
theorem qi_inv {st : List Value} {f : Int64 → Int32 → List Value → Prop} (h : qi st f) : ∃ a b r, st = .int b :: .long a :: r ∧ f a b r := by
  unfold qi at h; split at h
  · exact ⟨_, _, _, rfl, h⟩
  · exact h.elim
theorem r1_inv {st : List Value} {f : Nat → List Value → Prop} (h : r1 st f) : ∃ (a : Nat) (r : List Value), st = .ref a :: r ∧ f a r := by
  unfold r1 at h; split at h
  · exact ⟨_, _, rfl, h⟩
  · exact h.elim
theorem gI_inv {x : Option Value} {f : Int32 → Prop} (h : gI x f) : ∃ a, x = some (.int a) ∧ f a := by
  unfold gI at h; split at h
  · exact ⟨_, rfl, h⟩
  · exact h.elim
theorem gL_inv {x : Option Value} {f : Int64 → Prop} (h : gL x f) : ∃ a, x = some (.long a) ∧ f a := by
  unfold gL at h; split at h
  · exact ⟨_, rfl, h⟩
  · exact h.elim
theorem gR_inv {x : Option Value} {f : Nat → Prop} (h : gR x f) : ∃ a : Nat, x = some (.ref a) ∧ f a := by
  unfold gR at h; split at h
  · exact ⟨_, rfl, h⟩
  · exact h.elim
def ac5 (st : List Value) (f : Nat → Nat → Int32 → Int32 → Int32 → List Value → Prop) : Prop := match st with
  | .int n :: .int dp :: .ref b :: .int sp :: .ref a :: r => f a b sp dp n r
  | _ => False
theorem ac5_inv {st : List Value} {f : Nat → Nat → Int32 → Int32 → Int32 → List Value → Prop} (h : ac5 st f) : ∃ (a b : Nat) (sp dp n : Int32) (r : List Value), st = .int n :: .int dp :: .ref b :: .int sp :: .ref a :: r ∧ f a b sp dp n r := by
  unfold ac5 at h; split at h
  · exact ⟨_, _, _, _, _, _, rfl, h⟩
  · exact h.elim
def ar2 (a b : Nat) (f : Nat → Nat → Prop) : Prop := match shp[a]?, shp[b]? with
  | some (.inl (t, n0)), some (.inl (t2, n1)) => gd (Nat.beq t 0 && Nat.beq t2 0) (f n0 n1)
  | _, _ => False
theorem ar2_inv {a b : Nat} {f : Nat → Nat → Prop} (h : ar2 a b f) : ∃ n0 n1, shp[a]? = some (.inl (0, n0)) ∧ shp[b]? = some (.inl (0, n1)) ∧ f n0 n1 := by
  unfold ar2 at h; split at h
  · rename_i t n0 t2 n1 h1 h2
    obtain ⟨h3, h4⟩ := gd_inv h
    rw [Bool.and_eq_true] at h3
    have z1 := Nat.eq_of_beq_eq_true h3.1
    have z2 := Nat.eq_of_beq_eq_true h3.2
    subst z1; subst z2
    exact ⟨_, _, h1, h2, h4⟩
  · exact h.elim
def br (c A B : Prop) : Prop := (c → A) ∧ (¬ c → B)
def bz (c : ClassFile.Cond) (a : Int32) (A B : Prop) : Prop := match c with
  | .eq => br (a = 0) A B
  | .ne => br (a = 0) B A
  | .lt => br (a < 0) A B
  | .ge => br (0 ≤ a) A B
  | .gt => br (0 < a) A B
  | .le => br (a ≤ 0) A B
def bc (c : ClassFile.Cond) (a b : Int32) (A B : Prop) : Prop := match c with
  | .eq => br (a = b) A B
  | .ne => br (a = b) B A
  | .lt => br (a < b) A B
  | .ge => br (b ≤ a) A B
  | .gt => br (b < a) A B
  | .le => br (a ≤ b) A B
/-- a field by the constant pool's entry, at a place: its class, its slot, its kind -/
def fld (own idx a : Nat) : Option (Nat × Nat × Nat × Nat) := match lkp (fll.getD own []) idx with
  | none => none
  | some q => match shp[a]? with
    | some (.inr (ci, ks)) => bif Nat.beq ci q.1 then (match ks[q.2]? with | some kd => some (ci, q.2, kd.1, kd.2) | none => none) else none
    | _ => none
theorem fld_inv {own idx a ci k kd rp : Nat} (h : fld own idx a = some (ci, k, kd, rp)) : ∃ ks, flok own (idx, ci, k) ∧ shp[a]? = some (.inr (ci, ks)) ∧ ks[k]? = some (kd, rp) := by
  unfold fld at h
  cases hl : lkp (fll.getD own []) idx with
  | none => rw [hl] at h; cases h
  | some q =>
    rw [hl] at h
    cases hs : shp[a]? with
    | none => rw [hs] at h; cases h
    | some sh =>
      rw [hs] at h
      cases sh with
      | inl z => cases h
      | inr z =>
        obtain ⟨c0, ks⟩ := z
        dsimp only at h
        cases hb : Nat.beq c0 q.1 with
        | false => rw [hb] at h; cases h
        | true =>
          rw [hb] at h
          cases hk : ks[q.2]? with
          | none => simp only [hk, cond_true] at h; cases h
          | some kd0 =>
            simp only [hk, cond_true] at h
            have hc : c0 = q.1 := Nat.eq_of_beq_eq_true hb
            obtain ⟨q1, q2⟩ := q
            obtain ⟨k1, k2⟩ := kd0
            simp only [Option.some.injEq, Prod.mk.injEq] at h
            obtain ⟨e1, e2, e3, e4⟩ := h
            subst e1; subst e2; subst e3; subst e4
            dsimp only at hc hk
            subst hc
            refine ⟨ks, ?_, rfl, hk⟩
            have hm := lkp_mem hl
            cases ho : fll[own]? with
            | none => rw [List.getD_eq_getElem?_getD, ho] at hm; cases hm
            | some row => rw [List.getD_eq_getElem?_getD, ho] at hm; exact fll_ok own row ho _ hm
/-- the fields of the constant Strings -/
def sfl (own idx a : Nat) : Option Value := bif Nat.beq own 13 && Nat.ble 210 a && Nat.ble a 212 then (bif Nat.beq idx 9 then some (.ref (a + 10)) else bif Nat.beq idx 15 then some (.int 0) else none) else none
/-- constant arrays of ints -/
def cti (a : Nat) : Option (List Int32) := bif Nat.beq a 200 then some ctA else bif Nat.beq a 201 then some ctM else none
/-- an answer fits its type -/
def ret1 (ret : Option FieldType) (v : Int32) (P : Prop) : Prop := match ret with
  | some .int => P
  | some .boolean => (v = 0 ∨ v = 1) ∧ P
  | some ty => narrow ty (.int v) = .int v ∧ P
  | none => False
def csum (st : List Value) : Nat := (st.map fun v => v.category).sum
def swt (K : Nat → Prop) (a : Int32) (lo hi : Int) (dt : Nat) : Int → List Nat → Prop
  | _, [] => (a.toInt < lo ∨ hi < a.toInt) → K dt
  | n, t :: ts => (a = Int32.ofInt n → K t) ∧ swt K a lo hi dt (n + 1) ts
def recv (a ci : Nat) : Bool := match shp[a]? with
  | some (.inr (c0, _)) => Nat.beq c0 ci
  | _ => Nat.beq ci 13 && Nat.ble 210 a && Nat.ble a 212
def gst (own idx : Nat) : Option (List Value) :=
  bif Nat.beq own 8 then (bif Nat.beq idx 322 then some [.ref 201] else bif Nat.beq idx 325 then some [.ref 200] else none)
  else bif Nat.beq own 13 then (bif Nat.beq idx 38 then some [.int 1] else bif Nat.beq idx 1053 then some [.null, .ref 230] else none) else none
def allv (f : Value → Prop) : List Value → Prop
  | [] => True
  | [v] => f v
  | v :: r => f v ∧ allv f r
def callee (own idx : Nat) : Option (Mth × Nat) := lkp (cll.getD own []) idx
theorem callee_ok {own idx : Nat} {q : Mth × Nat} (h : callee own idx = some q) : clok own (idx, q) := by
  have hm := lkp_mem h
  cases ho : cll[own]? with
  | none => rw [List.getD_eq_getElem?_getD, ho] at hm; cases hm
  | some row => rw [List.getD_eq_getElem?_getD, ho] at hm; exact cll_ok own row ho _ hm
def kci (own idx : Nat) : Option Int32 := lkp (kil.getD own []) idx
def kcl (own idx : Nat) : Option Int64 := lkp (kll.getD own []) idx
theorem kci_ok {own idx : Nat} {q : Int32} (h : kci own idx = some q) : Cond.constant (nmo own) idx q ∈ gw := by
  have hm := lkp_mem h
  cases ho : kil[own]? with
  | none => rw [List.getD_eq_getElem?_getD, ho] at hm; cases hm
  | some row => rw [List.getD_eq_getElem?_getD, ho] at hm; exact kil_ok own row ho _ hm
theorem kcl_ok {own idx : Nat} {q : Int64} (h : kcl own idx = some q) : Cond.constantLong (nmo own) idx q ∈ gw := by
  have hm := lkp_mem h
  cases ho : kll[own]? with
  | none => rw [List.getD_eq_getElem?_getD, ho] at hm; cases hm
  | some row => rw [List.getD_eq_getElem?_getD, ho] at hm; exact kll_ok own row ho _ hm

def dp1 (st : List Value) (f : Value → List Value → Prop) : Prop := match st with
  | v :: r => gd (Nat.beq v.category 1) (f v r)
  | _ => False
theorem dp1_inv {st : List Value} {f : Value → List Value → Prop} (h : dp1 st f) : ∃ v r, st = v :: r ∧ v.category = 1 ∧ f v r := by
  unfold dp1 at h; split at h
  · obtain ⟨h1, h2⟩ := gd_inv h; exact ⟨_, _, rfl, Nat.eq_of_beq_eq_true h1, h2⟩
  · exact h.elim
def dp2 (st : List Value) (f : Value → Value → List Value → Prop) : Prop := match st with
  | v :: w :: r => gd (Nat.beq v.category 1) (gd (Nat.beq w.category 1) (f v w r))
  | _ => False
theorem dp2_inv {st : List Value} {f : Value → Value → List Value → Prop} (h : dp2 st f) : ∃ v w r, st = v :: w :: r ∧ v.category = 1 ∧ w.category = 1 ∧ f v w r := by
  unfold dp2 at h; split at h
  · obtain ⟨h1, h2⟩ := gd_inv h; obtain ⟨h2, h3⟩ := gd_inv h2; exact ⟨_, _, _, rfl, Nat.eq_of_beq_eq_true h1, Nat.eq_of_beq_eq_true h2, h3⟩
  · exact h.elim

def st1 (G : GG) (d : Nat) (μ : Mth) (Post : Option Value → PM → Prop) (i : Instr) (tg : List Nat) (kv : Int32) (pc : Nat) (L : List (Option Value)) (st : List Value) (M : PM) (K : KK) : Prop := match i with
  | .iconst _ => K (pc + 1) L (.int kv :: st) M
  | .bipush _ => K (pc + 2) L (.int kv :: st) M
  | .sipush _ => K (pc + 3) L (.int kv :: st) M
  | .lconst k => K (pc + 1) L (.long (Int64.ofNat (k : Nat)) :: st) M
  | .iload k => gI (lg L k) (fun x => K (pc + 2) L (.int x :: st) M)
  | .iload_n k => gI (lg L (k : Nat)) (fun x => K (pc + 1) L (.int x :: st) M)
  | .lload k => gL (lg L k) (fun x => K (pc + 2) L (.long x :: st) M)
  | .lload_n k => gL (lg L (k : Nat)) (fun x => K (pc + 1) L (.long x :: st) M)
  | .aload_n k => gR (lg L (k : Nat)) (fun x => K (pc + 1) L (.ref x :: st) M)
  | .istore k => p1 st (fun x r => gd (Nat.blt k μ.2.2.2.1) (K (pc + 2) (stL L k (.int x)) r M))
  | .istore_n k => p1 st (fun x r => gd (Nat.blt (k : Nat) μ.2.2.2.1) (K (pc + 1) (stL L (k : Nat) (.int x)) r M))
  | .astore_n k => r1 st (fun x r => gd (Nat.blt (k : Nat) μ.2.2.2.1) (K (pc + 1) (stL L (k : Nat) (.ref x)) r M))
  | .lstore k => q1 st (fun x r => gd (Nat.blt (k + 1) μ.2.2.2.1) (K (pc + 2) (stL (noL L (k + 1)) k (.long x)) r M))
  | .lstore_n k => q1 st (fun x r => gd (Nat.blt ((k : Nat) + 1) μ.2.2.2.1) (K (pc + 1) (stL (noL L ((k : Nat) + 1)) (k : Nat) (.long x)) r M))
  | .iinc k _ => gI (lg L k) (fun x => gd (Nat.blt k μ.2.2.2.1) (K (pc + 3) (stL L k (.int (x + kv))) st M))
  | .iadd => p2 st (fun a b r => K (pc + 1) L (.int (a + b) :: r) M)
  | .isub => p2 st (fun a b r => K (pc + 1) L (.int (a - b) :: r) M)
  | .imul => p2 st (fun a b r => K (pc + 1) L (.int (a * b) :: r) M)
  | .ishl => p2 st (fun a b r => K (pc + 1) L (.int (a <<< (b &&& 31)) :: r) M)
  | .ishr => p2 st (fun a b r => K (pc + 1) L (.int (a >>> (b &&& 31)) :: r) M)
  | .iand => p2 st (fun a b r => K (pc + 1) L (.int (a &&& b) :: r) M)
  | .ior => p2 st (fun a b r => K (pc + 1) L (.int (a ||| b) :: r) M)
  | .ixor => p2 st (fun a b r => K (pc + 1) L (.int (a ^^^ b) :: r) M)
  | .idiv => p2 st (fun a b r => ¬ b = 0 ∧ K (pc + 1) L (.int (a / b) :: r) M)
  | .irem => p2 st (fun a b r => ¬ b = 0 ∧ K (pc + 1) L (.int (a - a / b * b) :: r) M)
  | .iushr => p2 st (fun a b r => K (pc + 1) L (.int ((a.toUInt32 >>> (b.toUInt32 &&& Int32.toUInt32 31)).toInt32) :: r) M)
  | .ineg => p1 st (fun a r => K (pc + 1) L (.int (-a) :: r) M)
  | .i2c => p1 st (fun a r => K (pc + 1) L (.int (a.toUInt32 % 65536).toInt32 :: r) M)
  | .i2l => p1 st (fun a r => K (pc + 1) L (.long a.toInt64 :: r) M)
  | .l2i => q1 st (fun a r => K (pc + 1) L (.int a.toInt32 :: r) M)
  | .ladd => q2 st (fun a b r => K (pc + 1) L (.long (a + b) :: r) M)
  | .lmul => q2 st (fun a b r => K (pc + 1) L (.long (a * b) :: r) M)
  | .land => q2 st (fun a b r => K (pc + 1) L (.long (a &&& b) :: r) M)
  | .lor => q2 st (fun a b r => K (pc + 1) L (.long (a ||| b) :: r) M)
  | .lshl => qi st (fun a b r => K (pc + 1) L (.long (a <<< (b.toInt64 &&& 63)) :: r) M)
  | .lshr => qi st (fun a b r => K (pc + 1) L (.long (a >>> (b.toInt64 &&& 63)) :: r) M)
  | .lushr => qi st (fun a b r => K (pc + 1) L (.long ((a.toUInt64 >>> (b.toInt64.toUInt64 &&& Int64.toUInt64 63)).toInt64) :: r) M)
  | .lcmp => q2 st (fun a b r => K (pc + 1) L (.int (lg_cmp a b) :: r) M)
  | .dup => dp1 st (fun v r => K (pc + 1) L (v :: v :: r) M)
  | .pop => dp1 st (fun _ r => K (pc + 1) L r M)
  | .dup2 => dp2 st (fun v w r => K (pc + 1) L (v :: w :: v :: w :: r) M)
  | .ifCond c _ => p1 st (fun a r => bz c a (K (tg.getD 0 0) L r M) (K (pc + 3) L r M))
  | .if_icmp c _ => p2 st (fun a b r => bc c a b (K (tg.getD 0 0) L r M) (K (pc + 3) L r M))
  | .goto _ => K (tg.getD 0 0) L st M
  | .tableswitch _ lo hi _ => p1 st (fun a r => swt (fun t => K t L r M) a lo hi (tg.getD 0 0) lo tg.tail)
  | .getfield idx => r1 st (fun a r => match fld μ.1 idx a with | some (_, k, kd, rp) => K (pc + 3) L (pfv pid M a k (kd, rp) :: r) M | none => (match sfl μ.1 idx a with | some v => K (pc + 3) L (v :: r) M | none => False))
  | .putfield idx => match st with
    | .int v :: .ref a :: r => (match fld μ.1 idx a with | some (ci, k, kd, _) => gd (!((fcl ci).2.1 k).2.2.2) (match kd with | 0 => K (pc + 3) L r (wI M a k v) | 3 => (v = 0 ∨ v = 1) ∧ K (pc + 3) L r (wI M a k v) | _ => False) | none => False)
    | .long v :: .ref a :: r => (match fld μ.1 idx a with | some (ci, k, kd, _) => gd (!((fcl ci).2.1 k).2.2.2) (match kd with | 1 => K (pc + 3) L r (wL M a k v) | _ => False) | none => False)
    | _ => False
  | .getstatic idx => match gst μ.1 idx with | some vs => allv (fun v => K (pc + 3) L (v :: st) M) vs | none => False
  | .iaload => p1 st (fun i st1 => r1 st1 (fun a r => match shp[a]? with
    | some (.inl (t, n)) => gd (Nat.beq t 0) (vp_in i n ∧ K (pc + 1) L (.int (M.1 a i.toNatClampNeg) :: r) M)
    | _ => (match cti a with | some l => vp_in i 6 ∧ K (pc + 1) L (.int (l.getD i.toNatClampNeg 0) :: r) M | none => False)))
  | .baload => p1 st (fun i st1 => r1 st1 (fun a r => match shp[a]? with
    | some (.inl (t, n)) => gd (Nat.beq t 1) (vp_in i n ∧ K (pc + 1) L (.int (M.1 a i.toNatClampNeg) :: r) M)
    | _ => gd (Nat.ble 220 a && Nat.ble a 222) (vp_in i 5 ∧ K (pc + 1) L (.int ((ctB.getD (a - 220) []).getD i.toNatClampNeg 0) :: r) M)))
  | .laload => p1 st (fun i st1 => r1 st1 (fun a r => match shp[a]? with
    | some (.inl (t, n)) => gd (Nat.beq t 2) (vp_in i n ∧ K (pc + 1) L (.long (M.2 a i.toNatClampNeg) :: r) M)
    | _ => False))
  | .iastore => p2 st (fun i v st1 => r1 st1 (fun a r => match shp[a]? with
    | some (.inl (t, n)) => gd (Nat.beq t 0) (vp_in i n ∧ K (pc + 1) L r (wI M a i.toNatClampNeg v))
    | _ => False))
  | .bastore => p2 st (fun i v st1 => r1 st1 (fun a r => match shp[a]? with
    | some (.inl (t, n)) => gd (Nat.beq t 1) (vp_in i n ∧ (v = 0 ∨ v = 1) ∧ K (pc + 1) L r (wI M a i.toNatClampNeg v))
    | _ => False))
  | .lastore => q1 st (fun v st0 => p1 st0 (fun i st1 => r1 st1 (fun a r => match shp[a]? with
    | some (.inl (t, n)) => gd (Nat.beq t 2) (vp_in i n ∧ K (pc + 1) L r (wL M a i.toNatClampNeg v))
    | _ => False)))
  | .arraylength => r1 st (fun a r => match shp[a]? with
    | some (.inl (t, n)) => gd (Nat.ble t 2) (K (pc + 1) L (.int (Int32.ofNat n) :: r) M)
    | _ => gd (Nat.ble 220 a && Nat.ble a 222) (K (pc + 1) L (.int 5 :: r) M))
  | .ldc idx => match kci μ.1 idx with
    | some v => K (pc + 2) L (.int v :: st) M
    | none => gd (Nat.beq μ.1 6) (bif Nat.beq idx 98 then K (pc + 2) L (.ref 210 :: st) M else bif Nat.beq idx 104 then K (pc + 2) L (.ref 211 :: st) M else bif Nat.beq idx 106 then K (pc + 2) L (.ref 212 :: st) M else False)
  | .ldc_w idx => match kci μ.1 idx with | some v => K (pc + 3) L (.int v :: st) M | none => False
  | .ldc2_w idx => match kcl μ.1 idx with | some v => K (pc + 3) L (.long v :: st) M | none => False
  | .invokevirtual idx => match callee μ.1 idx with
    | some (μ2, kd) => gd (Nat.beq kd 0) (gd (!μ2.2.2.2.2.2.1) (r1 (st.drop μ2.2.2.2.2.2.2) (fun a r => gd (Nat.ble (csum r) 8 && recv a μ2.1) (PC G d μ2 (.ref a :: (st.take μ2.2.2.2.2.2.2).reverse) M (fun v M2 => K (pc + 3) L (v.toList ++ r) M2)))))
    | none => False
  | .invokestatic idx => match callee μ.1 idx with
    | some (μ2, kd) => (match kd with
      | 3 => ac5 st (fun a b sp dp n r => gd (Nat.ble (csum r) 8) (ar2 a b (fun n0 n1 => (¬ sp < 0 ∧ ¬ dp < 0 ∧ ¬ n < 0 ∧ sp.toNatClampNeg + n.toNatClampNeg ≤ n0 ∧ dp.toNatClampNeg + n.toNatClampNeg ≤ n1) ∧ K (pc + 3) L r (va_up M.1 b (va_cpy (M.1 a) (M.1 b) sp.toNatClampNeg dp.toNatClampNeg n.toNatClampNeg), M.2))))
      | 4 => p1 st (fun x r => gd (Nat.ble (csum r) 8) (K (pc + 3) L (.int (if 0 ≤ x then x else 0 - x) :: r) M))
      | 5 => p2 st (fun x y r => gd (Nat.ble (csum r) 8) (K (pc + 3) L (.int (if x < y then y else x) :: r) M))
      | 6 => p2 st (fun x y r => gd (Nat.ble (csum r) 8) (K (pc + 3) L (.int (if y < x then y else x) :: r) M))
      | 0 => False
      | _ => gd (μ2.2.2.2.2.2.1 && Nat.ble μ2.2.2.2.2.2.2 st.length && Nat.ble (csum (st.drop μ2.2.2.2.2.2.2)) 8) (PC G d μ2 ((st.take μ2.2.2.2.2.2.2).reverse) M (fun v M2 => K (pc + 3) L (v.toList ++ st.drop μ2.2.2.2.2.2.2) M2)))
    | none => False
  | .ireturn => match st with | [.int v] => ret1 μ.2.2.2.2.1 v (Post (some (.int v)) M) | _ => False
  | .lreturn => match st with | [.long v] => gd (decide (μ.2.2.2.2.1 = some .long)) (Post (some (.long v)) M) | _ => False
  | .areturn => match st with | [.ref v] => (match μ.2.2.2.2.1 with | some (.object _) => Post (some (.ref v)) M | _ => False) | _ => False
  | .return_ => match st with | [] => (match μ.2.2.2.2.1 with | none => Post none M | _ => False) | _ => False
  | _ => False
def HK (G : GG) (d : Nat) (μ : Mth) (Post : Option Value → PM → Prop) (K : KK) : Prop := ∀ pc L st M, K pc L st M → PX G d μ Post pc L st M
section X1
variable {G : GG} {d : Nat} {μ : Mth} {Post : Option Value → PM → Prop} {pc : Nat} {L : List (Option Value)} {st : List Value} {M : PM}

theorem x_iconst {K : KK} (hK : HK G d μ Post K) {n : Int} {kv : Int32} (hv : Int32.ofInt n = kv) (hd : decode μ.2.2.1 pc = .ok (.iconst n, 1)) (h : K (pc + 1) L (.int kv :: st) M) : PX G d μ Post pc L st M := by
  intro p e s m args below meth c H locs ls hx hb hml hr hk hown hts hW hP hS hl
  exact lv_iconst hx hb hd hv (hK _ _ _ _ h p e s m args below meth c H locs ls hx hb hml hr hk hown hts hW hP hS hl)
theorem x_bipush {K : KK} (hK : HK G d μ Post K) {n : Int} {kv : Int32} (hv : (Int8.ofInt n).toInt32 = kv) (hd : decode μ.2.2.1 pc = .ok (.bipush n, 2)) (h : K (pc + 2) L (.int kv :: st) M) : PX G d μ Post pc L st M := by
  intro p e s m args below meth c H locs ls hx hb hml hr hk hown hts hW hP hS hl
  exact lv_bipush hx hb hd hv (hK _ _ _ _ h p e s m args below meth c H locs ls hx hb hml hr hk hown hts hW hP hS hl)
theorem x_sipush {K : KK} (hK : HK G d μ Post K) {n : Int} {kv : Int32} (hv : (Int16.ofInt n).toInt32 = kv) (hd : decode μ.2.2.1 pc = .ok (.sipush n, 3)) (h : K (pc + 3) L (.int kv :: st) M) : PX G d μ Post pc L st M := by
  intro p e s m args below meth c H locs ls hx hb hml hr hk hown hts hW hP hS hl
  exact lv_sipush hx hb hd hv (hK _ _ _ _ h p e s m args below meth c H locs ls hx hb hml hr hk hown hts hW hP hS hl)
theorem x_lconst {K : KK} (hK : HK G d μ Post K) {k : Fin 2} (hd : decode μ.2.2.1 pc = .ok (.lconst k, 1)) (h : K (pc + 1) L (.long (Int64.ofNat (k : Nat)) :: st) M) : PX G d μ Post pc L st M := by
  intro p e s m args below meth c H locs ls hx hb hml hr hk hown hts hW hP hS hl
  exact lv_lconst hx hb hd rfl (hK _ _ _ _ h p e s m args below meth c H locs ls hx hb hml hr hk hown hts hW hP hS hl)
theorem x_iload {K : KK} (hK : HK G d μ Post K) {k : Nat} (hd : decode μ.2.2.1 pc = .ok (.iload k, 2)) (h : gI (lg L k) (fun x => K (pc + 2) L (.int x :: st) M)) : PX G d μ Post pc L st M := by
  intro p e s m args below meth c H locs ls hx hb hml hr hk hown hts hW hP hS hl
  obtain ⟨x, e1, h1⟩ := gI_inv h
  exact lv_iload hx hb hd (hl.2.2 _ _ e1) (hK _ _ _ _ h1 p e s m args below meth c H locs ls hx hb hml hr hk hown hts hW hP hS hl)
theorem x_iload_n {K : KK} (hK : HK G d μ Post K) {k : Fin 4} (hd : decode μ.2.2.1 pc = .ok (.iload_n k, 1)) (h : gI (lg L (k : Nat)) (fun x => K (pc + 1) L (.int x :: st) M)) : PX G d μ Post pc L st M := by
  intro p e s m args below meth c H locs ls hx hb hml hr hk hown hts hW hP hS hl
  obtain ⟨x, e1, h1⟩ := gI_inv h
  exact lv_iload_n hx hb hd rfl (hl.2.2 _ _ e1) (hK _ _ _ _ h1 p e s m args below meth c H locs ls hx hb hml hr hk hown hts hW hP hS hl)
theorem x_lload {K : KK} (hK : HK G d μ Post K) {k : Nat} (hd : decode μ.2.2.1 pc = .ok (.lload k, 2)) (h : gL (lg L k) (fun x => K (pc + 2) L (.long x :: st) M)) : PX G d μ Post pc L st M := by
  intro p e s m args below meth c H locs ls hx hb hml hr hk hown hts hW hP hS hl
  obtain ⟨x, e1, h1⟩ := gL_inv h
  exact lv_lload hx hb hd (hl.2.2 _ _ e1) (hK _ _ _ _ h1 p e s m args below meth c H locs ls hx hb hml hr hk hown hts hW hP hS hl)
theorem x_lload_n {K : KK} (hK : HK G d μ Post K) {k : Fin 4} (hd : decode μ.2.2.1 pc = .ok (.lload_n k, 1)) (h : gL (lg L (k : Nat)) (fun x => K (pc + 1) L (.long x :: st) M)) : PX G d μ Post pc L st M := by
  intro p e s m args below meth c H locs ls hx hb hml hr hk hown hts hW hP hS hl
  obtain ⟨x, e1, h1⟩ := gL_inv h
  exact lv_lload_n hx hb hd rfl (hl.2.2 _ _ e1) (hK _ _ _ _ h1 p e s m args below meth c H locs ls hx hb hml hr hk hown hts hW hP hS hl)
theorem x_aload_n {K : KK} (hK : HK G d μ Post K) {k : Fin 4} (hd : decode μ.2.2.1 pc = .ok (.aload_n k, 1)) (h : gR (lg L (k : Nat)) (fun x => K (pc + 1) L (.ref x :: st) M)) : PX G d μ Post pc L st M := by
  intro p e s m args below meth c H locs ls hx hb hml hr hk hown hts hW hP hS hl
  obtain ⟨x, e1, h1⟩ := gR_inv h
  exact lv_aload_n hx hb hd rfl (hl.2.2 _ _ e1) (hK _ _ _ _ h1 p e s m args below meth c H locs ls hx hb hml hr hk hown hts hW hP hS hl)
theorem x_istore {K : KK} (hK : HK G d μ Post K) {k : Nat} (hd : decode μ.2.2.1 pc = .ok (.istore k, 2)) (h : p1 st (fun x r => gd (Nat.blt k μ.2.2.2.1) (K (pc + 2) (stL L k (.int x)) r M))) : PX G d μ Post pc L st M := by
  intro p e s m args below meth c H locs ls hx hb hml hr hk hown hts hW hP hS hl
  obtain ⟨x, r, rfl, h1⟩ := p1_inv h
  obtain ⟨hk1, h1⟩ := gd_inv h1
  exact lv_istore hx hb hd hl.has (Nat.le_of_ble_eq_true hk1) rfl (fun ls2 hl2 => hK _ _ _ _ (h1) p e s m args below meth c H locs ls2 hx hb hml hr hk hown hts hW hP hS (lvH.st1 hl2))
theorem x_istore_n {K : KK} (hK : HK G d μ Post K) {k : Fin 4} (hd : decode μ.2.2.1 pc = .ok (.istore_n k, 1)) (h : p1 st (fun x r => gd (Nat.blt (k : Nat) μ.2.2.2.1) (K (pc + 1) (stL L (k : Nat) (.int x)) r M))) : PX G d μ Post pc L st M := by
  intro p e s m args below meth c H locs ls hx hb hml hr hk hown hts hW hP hS hl
  obtain ⟨x, r, rfl, h1⟩ := p1_inv h
  obtain ⟨hk1, h1⟩ := gd_inv h1
  exact lv_istore_n hx hb hd rfl hl.has (Nat.le_of_ble_eq_true hk1) rfl (fun ls2 hl2 => hK _ _ _ _ (h1) p e s m args below meth c H locs ls2 hx hb hml hr hk hown hts hW hP hS (lvH.st1 hl2))
theorem x_astore_n {K : KK} (hK : HK G d μ Post K) {k : Fin 4} (hd : decode μ.2.2.1 pc = .ok (.astore_n k, 1)) (h : r1 st (fun x r => gd (Nat.blt (k : Nat) μ.2.2.2.1) (K (pc + 1) (stL L (k : Nat) (.ref x)) r M))) : PX G d μ Post pc L st M := by
  intro p e s m args below meth c H locs ls hx hb hml hr hk hown hts hW hP hS hl
  obtain ⟨x, r, rfl, h1⟩ := r1_inv h
  obtain ⟨hk1, h1⟩ := gd_inv h1
  exact lv_astore_n hx hb hd rfl hl.has (Nat.le_of_ble_eq_true hk1) rfl (fun ls2 hl2 => hK _ _ _ _ (h1) p e s m args below meth c H locs ls2 hx hb hml hr hk hown hts hW hP hS (lvH.st1 hl2))
theorem x_lstore {K : KK} (hK : HK G d μ Post K) {k : Nat} (hd : decode μ.2.2.1 pc = .ok (.lstore k, 2)) (h : q1 st (fun x r => gd (Nat.blt (k + 1) μ.2.2.2.1) (K (pc + 2) (stL (noL L (k + 1)) k (.long x)) r M))) : PX G d μ Post pc L st M := by
  intro p e s m args below meth c H locs ls hx hb hml hr hk hown hts hW hP hS hl
  obtain ⟨x, r, rfl, h1⟩ := q1_inv h
  obtain ⟨hk1, h1⟩ := gd_inv h1
  exact lv_lstore hx hb hd hl.has (Nat.le_of_ble_eq_true hk1) rfl (fun ls2 hl2 => hK _ _ _ _ (h1) p e s m args below meth c H locs ls2 hx hb hml hr hk hown hts hW hP hS (lvH.st2 hl2))
theorem x_lstore_n {K : KK} (hK : HK G d μ Post K) {k : Fin 4} (hd : decode μ.2.2.1 pc = .ok (.lstore_n k, 1)) (h : q1 st (fun x r => gd (Nat.blt ((k : Nat) + 1) μ.2.2.2.1) (K (pc + 1) (stL (noL L ((k : Nat) + 1)) (k : Nat) (.long x)) r M))) : PX G d μ Post pc L st M := by
  intro p e s m args below meth c H locs ls hx hb hml hr hk hown hts hW hP hS hl
  obtain ⟨x, r, rfl, h1⟩ := q1_inv h
  obtain ⟨hk1, h1⟩ := gd_inv h1
  exact lv_lstore_n hx hb hd rfl hl.has (Nat.le_of_ble_eq_true hk1) rfl (fun ls2 hl2 => hK _ _ _ _ (h1) p e s m args below meth c H locs ls2 hx hb hml hr hk hown hts hW hP hS (lvH.st2 hl2))
theorem x_iinc {K : KK} (hK : HK G d μ Post K) {k : Nat} {n : Int} {kv : Int32} (hv : Int32.ofInt n = kv) (hd : decode μ.2.2.1 pc = .ok (.iinc k n, 3)) (h : gI (lg L k) (fun x => gd (Nat.blt k μ.2.2.2.1) (K (pc + 3) (stL L k (.int (x + kv))) st M))) : PX G d μ Post pc L st M := by
  intro p e s m args below meth c H locs ls hx hb hml hr hk hown hts hW hP hS hl
  obtain ⟨x, e1, h1⟩ := gI_inv h
  obtain ⟨hk1, h1⟩ := gd_inv h1
  obtain ⟨j, hj⟩ := List.mem_iff_getElem?.mp (cvl_mem (ad := G.2.2.2) e1)
  exact lv_iinc hx hb hd hl.has (k := j) hj (by rw [hv]) (Nat.le_of_ble_eq_true hk1) rfl (fun ls2 hl2 => hK _ _ _ _ (h1) p e s m args below meth c H locs ls2 hx hb hml hr hk hown hts hW hP hS (lvH.st1 hl2))
theorem x_iadd {K : KK} (hK : HK G d μ Post K) (hd : decode μ.2.2.1 pc = .ok (.iadd, 1)) (h : p2 st (fun a b r => K (pc + 1) L (.int (a + b) :: r) M)) : PX G d μ Post pc L st M := by
  intro p e s m args below meth c H locs ls hx hb hml hr hk hown hts hW hP hS hl
  obtain ⟨a, b, r, rfl, h1⟩ := p2_inv h
  exact lv_iadd hx hb hd (hK _ _ _ _ h1 p e s m args below meth c H locs ls hx hb hml hr hk hown hts hW hP hS hl)
theorem x_isub {K : KK} (hK : HK G d μ Post K) (hd : decode μ.2.2.1 pc = .ok (.isub, 1)) (h : p2 st (fun a b r => K (pc + 1) L (.int (a - b) :: r) M)) : PX G d μ Post pc L st M := by
  intro p e s m args below meth c H locs ls hx hb hml hr hk hown hts hW hP hS hl
  obtain ⟨a, b, r, rfl, h1⟩ := p2_inv h
  exact lv_isub hx hb hd (hK _ _ _ _ h1 p e s m args below meth c H locs ls hx hb hml hr hk hown hts hW hP hS hl)
theorem x_imul {K : KK} (hK : HK G d μ Post K) (hd : decode μ.2.2.1 pc = .ok (.imul, 1)) (h : p2 st (fun a b r => K (pc + 1) L (.int (a * b) :: r) M)) : PX G d μ Post pc L st M := by
  intro p e s m args below meth c H locs ls hx hb hml hr hk hown hts hW hP hS hl
  obtain ⟨a, b, r, rfl, h1⟩ := p2_inv h
  exact lv_imul hx hb hd (hK _ _ _ _ h1 p e s m args below meth c H locs ls hx hb hml hr hk hown hts hW hP hS hl)
theorem x_ishl {K : KK} (hK : HK G d μ Post K) (hd : decode μ.2.2.1 pc = .ok (.ishl, 1)) (h : p2 st (fun a b r => K (pc + 1) L (.int (a <<< (b &&& 31)) :: r) M)) : PX G d μ Post pc L st M := by
  intro p e s m args below meth c H locs ls hx hb hml hr hk hown hts hW hP hS hl
  obtain ⟨a, b, r, rfl, h1⟩ := p2_inv h
  exact lv_ishl hx hb hd (hK _ _ _ _ h1 p e s m args below meth c H locs ls hx hb hml hr hk hown hts hW hP hS hl)
theorem x_ishr {K : KK} (hK : HK G d μ Post K) (hd : decode μ.2.2.1 pc = .ok (.ishr, 1)) (h : p2 st (fun a b r => K (pc + 1) L (.int (a >>> (b &&& 31)) :: r) M)) : PX G d μ Post pc L st M := by
  intro p e s m args below meth c H locs ls hx hb hml hr hk hown hts hW hP hS hl
  obtain ⟨a, b, r, rfl, h1⟩ := p2_inv h
  exact lv_ishr hx hb hd (hK _ _ _ _ h1 p e s m args below meth c H locs ls hx hb hml hr hk hown hts hW hP hS hl)
theorem x_iand {K : KK} (hK : HK G d μ Post K) (hd : decode μ.2.2.1 pc = .ok (.iand, 1)) (h : p2 st (fun a b r => K (pc + 1) L (.int (a &&& b) :: r) M)) : PX G d μ Post pc L st M := by
  intro p e s m args below meth c H locs ls hx hb hml hr hk hown hts hW hP hS hl
  obtain ⟨a, b, r, rfl, h1⟩ := p2_inv h
  exact lv_iand hx hb hd (hK _ _ _ _ h1 p e s m args below meth c H locs ls hx hb hml hr hk hown hts hW hP hS hl)
theorem x_ior {K : KK} (hK : HK G d μ Post K) (hd : decode μ.2.2.1 pc = .ok (.ior, 1)) (h : p2 st (fun a b r => K (pc + 1) L (.int (a ||| b) :: r) M)) : PX G d μ Post pc L st M := by
  intro p e s m args below meth c H locs ls hx hb hml hr hk hown hts hW hP hS hl
  obtain ⟨a, b, r, rfl, h1⟩ := p2_inv h
  exact lv_ior hx hb hd (hK _ _ _ _ h1 p e s m args below meth c H locs ls hx hb hml hr hk hown hts hW hP hS hl)
theorem x_ixor {K : KK} (hK : HK G d μ Post K) (hd : decode μ.2.2.1 pc = .ok (.ixor, 1)) (h : p2 st (fun a b r => K (pc + 1) L (.int (a ^^^ b) :: r) M)) : PX G d μ Post pc L st M := by
  intro p e s m args below meth c H locs ls hx hb hml hr hk hown hts hW hP hS hl
  obtain ⟨a, b, r, rfl, h1⟩ := p2_inv h
  exact lv_ixor hx hb hd (hK _ _ _ _ h1 p e s m args below meth c H locs ls hx hb hml hr hk hown hts hW hP hS hl)
theorem x_idiv {K : KK} (hK : HK G d μ Post K) (hd : decode μ.2.2.1 pc = .ok (.idiv, 1)) (h : p2 st (fun a b r => ¬ b = 0 ∧ K (pc + 1) L (.int (a / b) :: r) M)) : PX G d μ Post pc L st M := by
  intro p e s m args below meth c H locs ls hx hb hml hr hk hown hts hW hP hS hl
  obtain ⟨a, b, r, rfl, h0, h1⟩ := p2_inv h
  exact lv_idiv hx hb hd h0 (hK _ _ _ _ h1 p e s m args below meth c H locs ls hx hb hml hr hk hown hts hW hP hS hl)
theorem x_irem {K : KK} (hK : HK G d μ Post K) (hd : decode μ.2.2.1 pc = .ok (.irem, 1)) (h : p2 st (fun a b r => ¬ b = 0 ∧ K (pc + 1) L (.int (a - a / b * b) :: r) M)) : PX G d μ Post pc L st M := by
  intro p e s m args below meth c H locs ls hx hb hml hr hk hown hts hW hP hS hl
  obtain ⟨a, b, r, rfl, h0, h1⟩ := p2_inv h
  exact lv_irem hx hb hd h0 (hK _ _ _ _ h1 p e s m args below meth c H locs ls hx hb hml hr hk hown hts hW hP hS hl)
theorem x_iushr {K : KK} (hK : HK G d μ Post K) (hd : decode μ.2.2.1 pc = .ok (.iushr, 1)) (h : p2 st (fun a b r => K (pc + 1) L (.int ((a.toUInt32 >>> (b.toUInt32 &&& Int32.toUInt32 31)).toInt32) :: r) M)) : PX G d μ Post pc L st M := by
  intro p e s m args below meth c H locs ls hx hb hml hr hk hown hts hW hP hS hl
  obtain ⟨a, b, r, rfl, h1⟩ := p2_inv h
  exact lv_iushr hx hb hd rfl (hK _ _ _ _ h1 p e s m args below meth c H locs ls hx hb hml hr hk hown hts hW hP hS hl)
theorem x_ineg {K : KK} (hK : HK G d μ Post K) (hd : decode μ.2.2.1 pc = .ok (.ineg, 1)) (h : p1 st (fun a r => K (pc + 1) L (.int (-a) :: r) M)) : PX G d μ Post pc L st M := by
  intro p e s m args below meth c H locs ls hx hb hml hr hk hown hts hW hP hS hl
  obtain ⟨a, r, rfl, h1⟩ := p1_inv h
  have h2 := hK _ _ _ _ h1 p e s m args below meth c H locs ls hx hb hml hr hk hown hts hW hP hS hl
  first | exact lv_ineg hx hb hd h2 | exact lv_ineg hx hb hd rfl h2 | exact lv_ineg hx hb hd (by rw [show (0 - a : Int32) = -a by simp]; exact h2)
theorem x_i2c {K : KK} (hK : HK G d μ Post K) (hd : decode μ.2.2.1 pc = .ok (.i2c, 1)) (h : p1 st (fun a r => K (pc + 1) L (.int (a.toUInt32 % 65536).toInt32 :: r) M)) : PX G d μ Post pc L st M := by
  intro p e s m args below meth c H locs ls hx hb hml hr hk hown hts hW hP hS hl
  obtain ⟨a, r, rfl, h1⟩ := p1_inv h
  exact lv_i2c hx hb hd rfl (hK _ _ _ _ h1 p e s m args below meth c H locs ls hx hb hml hr hk hown hts hW hP hS hl)
theorem x_i2l {K : KK} (hK : HK G d μ Post K) (hd : decode μ.2.2.1 pc = .ok (.i2l, 1)) (h : p1 st (fun a r => K (pc + 1) L (.long a.toInt64 :: r) M)) : PX G d μ Post pc L st M := by
  intro p e s m args below meth c H locs ls hx hb hml hr hk hown hts hW hP hS hl
  obtain ⟨a, r, rfl, h1⟩ := p1_inv h
  exact lv_i2l hx hb hd rfl (hK _ _ _ _ h1 p e s m args below meth c H locs ls hx hb hml hr hk hown hts hW hP hS hl)
theorem x_l2i {K : KK} (hK : HK G d μ Post K) (hd : decode μ.2.2.1 pc = .ok (.l2i, 1)) (h : q1 st (fun a r => K (pc + 1) L (.int a.toInt32 :: r) M)) : PX G d μ Post pc L st M := by
  intro p e s m args below meth c H locs ls hx hb hml hr hk hown hts hW hP hS hl
  obtain ⟨a, r, rfl, h1⟩ := q1_inv h
  exact lv_l2i hx hb hd rfl (hK _ _ _ _ h1 p e s m args below meth c H locs ls hx hb hml hr hk hown hts hW hP hS hl)
theorem x_ladd {K : KK} (hK : HK G d μ Post K) (hd : decode μ.2.2.1 pc = .ok (.ladd, 1)) (h : q2 st (fun a b r => K (pc + 1) L (.long (a + b) :: r) M)) : PX G d μ Post pc L st M := by
  intro p e s m args below meth c H locs ls hx hb hml hr hk hown hts hW hP hS hl
  obtain ⟨a, b, r, rfl, h1⟩ := q2_inv h
  exact lv_ladd hx hb hd (hK _ _ _ _ h1 p e s m args below meth c H locs ls hx hb hml hr hk hown hts hW hP hS hl)
theorem x_lmul {K : KK} (hK : HK G d μ Post K) (hd : decode μ.2.2.1 pc = .ok (.lmul, 1)) (h : q2 st (fun a b r => K (pc + 1) L (.long (a * b) :: r) M)) : PX G d μ Post pc L st M := by
  intro p e s m args below meth c H locs ls hx hb hml hr hk hown hts hW hP hS hl
  obtain ⟨a, b, r, rfl, h1⟩ := q2_inv h
  exact lv_lmul hx hb hd (hK _ _ _ _ h1 p e s m args below meth c H locs ls hx hb hml hr hk hown hts hW hP hS hl)
theorem x_land {K : KK} (hK : HK G d μ Post K) (hd : decode μ.2.2.1 pc = .ok (.land, 1)) (h : q2 st (fun a b r => K (pc + 1) L (.long (a &&& b) :: r) M)) : PX G d μ Post pc L st M := by
  intro p e s m args below meth c H locs ls hx hb hml hr hk hown hts hW hP hS hl
  obtain ⟨a, b, r, rfl, h1⟩ := q2_inv h
  exact lv_land hx hb hd (hK _ _ _ _ h1 p e s m args below meth c H locs ls hx hb hml hr hk hown hts hW hP hS hl)
theorem x_lor {K : KK} (hK : HK G d μ Post K) (hd : decode μ.2.2.1 pc = .ok (.lor, 1)) (h : q2 st (fun a b r => K (pc + 1) L (.long (a ||| b) :: r) M)) : PX G d μ Post pc L st M := by
  intro p e s m args below meth c H locs ls hx hb hml hr hk hown hts hW hP hS hl
  obtain ⟨a, b, r, rfl, h1⟩ := q2_inv h
  exact lv_lor hx hb hd (hK _ _ _ _ h1 p e s m args below meth c H locs ls hx hb hml hr hk hown hts hW hP hS hl)
theorem x_lshl {K : KK} (hK : HK G d μ Post K) (hd : decode μ.2.2.1 pc = .ok (.lshl, 1)) (h : qi st (fun a b r => K (pc + 1) L (.long (a <<< (b.toInt64 &&& 63)) :: r) M)) : PX G d μ Post pc L st M := by
  intro p e s m args below meth c H locs ls hx hb hml hr hk hown hts hW hP hS hl
  obtain ⟨a, b, r, rfl, h1⟩ := qi_inv h
  exact lv_lshl hx hb hd rfl (hK _ _ _ _ h1 p e s m args below meth c H locs ls hx hb hml hr hk hown hts hW hP hS hl)
theorem x_lshr {K : KK} (hK : HK G d μ Post K) (hd : decode μ.2.2.1 pc = .ok (.lshr, 1)) (h : qi st (fun a b r => K (pc + 1) L (.long (a >>> (b.toInt64 &&& 63)) :: r) M)) : PX G d μ Post pc L st M := by
  intro p e s m args below meth c H locs ls hx hb hml hr hk hown hts hW hP hS hl
  obtain ⟨a, b, r, rfl, h1⟩ := qi_inv h
  exact lv_lshr hx hb hd rfl (hK _ _ _ _ h1 p e s m args below meth c H locs ls hx hb hml hr hk hown hts hW hP hS hl)
theorem x_lushr {K : KK} (hK : HK G d μ Post K) (hd : decode μ.2.2.1 pc = .ok (.lushr, 1)) (h : qi st (fun a b r => K (pc + 1) L (.long ((a.toUInt64 >>> (b.toInt64.toUInt64 &&& Int64.toUInt64 63)).toInt64) :: r) M)) : PX G d μ Post pc L st M := by
  intro p e s m args below meth c H locs ls hx hb hml hr hk hown hts hW hP hS hl
  obtain ⟨a, b, r, rfl, h1⟩ := qi_inv h
  exact lv_lushr hx hb hd rfl (hK _ _ _ _ h1 p e s m args below meth c H locs ls hx hb hml hr hk hown hts hW hP hS hl)
theorem x_lcmp {K : KK} (hK : HK G d μ Post K) (hd : decode μ.2.2.1 pc = .ok (.lcmp, 1)) (h : q2 st (fun a b r => K (pc + 1) L (.int (lg_cmp a b) :: r) M)) : PX G d μ Post pc L st M := by
  intro p e s m args below meth c H locs ls hx hb hml hr hk hown hts hW hP hS hl
  obtain ⟨a, b, r, rfl, h1⟩ := q2_inv h
  exact W.lcmp hx hb hd (hK _ _ _ _ h1 p e s m args below meth c H locs ls hx hb hml hr hk hown hts hW hP hS hl)
theorem x_dup {K : KK} (hK : HK G d μ Post K) (hd : decode μ.2.2.1 pc = .ok (.dup, 1)) (h : dp1 st (fun v r => K (pc + 1) L (v :: v :: r) M)) : PX G d μ Post pc L st M := by
  intro p e s m args below meth c H locs ls hx hb hml hr hk hown hts hW hP hS hl
  obtain ⟨v, r, rfl, hc, h1⟩ := dp1_inv h
  exact lv_dup hx hb hd (by rw [cv_cat]; exact hc) (hK _ _ _ _ h1 p e s m args below meth c H locs ls hx hb hml hr hk hown hts hW hP hS hl)
theorem x_pop {K : KK} (hK : HK G d μ Post K) (hd : decode μ.2.2.1 pc = .ok (.pop, 1)) (h : dp1 st (fun _ r => K (pc + 1) L r M)) : PX G d μ Post pc L st M := by
  intro p e s m args below meth c H locs ls hx hb hml hr hk hown hts hW hP hS hl
  obtain ⟨v, r, rfl, hc, h1⟩ := dp1_inv h
  exact lv_pop hx hb hd (by rw [cv_cat]; exact hc) (hK _ _ _ _ h1 p e s m args below meth c H locs ls hx hb hml hr hk hown hts hW hP hS hl)
theorem x_dup2 {K : KK} (hK : HK G d μ Post K) (hd : decode μ.2.2.1 pc = .ok (.dup2, 1)) (h : dp2 st (fun v w r => K (pc + 1) L (v :: w :: v :: w :: r) M)) : PX G d μ Post pc L st M := by
  intro p e s m args below meth c H locs ls hx hb hml hr hk hown hts hW hP hS hl
  obtain ⟨v, w, r, rfl, hc, hc2, h1⟩ := dp2_inv h
  exact lv_dup2_11 hx hb hd (by rw [cv_cat]; exact hc) (by rw [cv_cat]; exact hc2) (hK _ _ _ _ h1 p e s m args below meth c H locs ls hx hb hml hr hk hown hts hW hP hS hl)
theorem x_ifCond {K : KK} (hK : HK G d μ Post K) {cc : ClassFile.Cond} {f : Int} {tg : List Nat} (hv : (pc : Int) + f = ((tg.getD 0 0 : Nat) : Int)) (hd : decode μ.2.2.1 pc = .ok (.ifCond cc f, 3)) (h : p1 st (fun a r => bz cc a (K (tg.getD 0 0) L r M) (K (pc + 3) L r M))) : PX G d μ Post pc L st M := by
  intro p e s m args below meth c H locs ls hx hb hml hr hk hown hts hW hP hS hl
  obtain ⟨a, r, rfl, h1⟩ := p1_inv h
  cases cc with
  | eq => exact lv_if_eq hx hb hd hv (fun q => hK _ _ _ _ (h1.1 q) p e s m args below meth c H locs ls hx hb hml hr hk hown hts hW hP hS hl) (fun q => hK _ _ _ _ (h1.2 q) p e s m args below meth c H locs ls hx hb hml hr hk hown hts hW hP hS hl)
  | ne => exact lv_if_ne hx hb hd hv (fun q => hK _ _ _ _ (h1.2 q) p e s m args below meth c H locs ls hx hb hml hr hk hown hts hW hP hS hl) (fun q => hK _ _ _ _ (h1.1 q) p e s m args below meth c H locs ls hx hb hml hr hk hown hts hW hP hS hl)
  | lt => exact lv_if_lt hx hb hd hv (fun q => hK _ _ _ _ (h1.1 q) p e s m args below meth c H locs ls hx hb hml hr hk hown hts hW hP hS hl) (fun q => hK _ _ _ _ (h1.2 q) p e s m args below meth c H locs ls hx hb hml hr hk hown hts hW hP hS hl)
  | ge => exact lv_if_ge hx hb hd hv (fun q => hK _ _ _ _ (h1.1 q) p e s m args below meth c H locs ls hx hb hml hr hk hown hts hW hP hS hl) (fun q => hK _ _ _ _ (h1.2 q) p e s m args below meth c H locs ls hx hb hml hr hk hown hts hW hP hS hl)
  | gt => exact lv_if_gt hx hb hd hv (fun q => hK _ _ _ _ (h1.1 q) p e s m args below meth c H locs ls hx hb hml hr hk hown hts hW hP hS hl) (fun q => hK _ _ _ _ (h1.2 q) p e s m args below meth c H locs ls hx hb hml hr hk hown hts hW hP hS hl)
  | le => exact lv_if_le hx hb hd hv (fun q => hK _ _ _ _ (h1.1 q) p e s m args below meth c H locs ls hx hb hml hr hk hown hts hW hP hS hl) (fun q => hK _ _ _ _ (h1.2 q) p e s m args below meth c H locs ls hx hb hml hr hk hown hts hW hP hS hl)

theorem x_if_icmp {K : KK} (hK : HK G d μ Post K) {cc : ClassFile.Cond} {f : Int} {tg : List Nat} (hv : (pc : Int) + f = ((tg.getD 0 0 : Nat) : Int)) (hd : decode μ.2.2.1 pc = .ok (.if_icmp cc f, 3)) (h : p2 st (fun a b r => bc cc a b (K (tg.getD 0 0) L r M) (K (pc + 3) L r M))) : PX G d μ Post pc L st M := by
  intro p e s m args below meth c H locs ls hx hb hml hr hk hown hts hW hP hS hl
  obtain ⟨a, b, r, rfl, h1⟩ := p2_inv h
  cases cc with
  | eq => exact lv_icmp_eq hx hb hd hv (fun q => hK _ _ _ _ (h1.1 q) p e s m args below meth c H locs ls hx hb hml hr hk hown hts hW hP hS hl) (fun q => hK _ _ _ _ (h1.2 q) p e s m args below meth c H locs ls hx hb hml hr hk hown hts hW hP hS hl)
  | ne => exact lv_icmp_ne hx hb hd hv (fun q => hK _ _ _ _ (h1.2 q) p e s m args below meth c H locs ls hx hb hml hr hk hown hts hW hP hS hl) (fun q => hK _ _ _ _ (h1.1 q) p e s m args below meth c H locs ls hx hb hml hr hk hown hts hW hP hS hl)
  | lt => exact lv_icmp_lt hx hb hd hv (fun q => hK _ _ _ _ (h1.1 q) p e s m args below meth c H locs ls hx hb hml hr hk hown hts hW hP hS hl) (fun q => hK _ _ _ _ (h1.2 q) p e s m args below meth c H locs ls hx hb hml hr hk hown hts hW hP hS hl)
  | ge => exact lv_icmp_ge hx hb hd hv (fun q => hK _ _ _ _ (h1.1 q) p e s m args below meth c H locs ls hx hb hml hr hk hown hts hW hP hS hl) (fun q => hK _ _ _ _ (h1.2 q) p e s m args below meth c H locs ls hx hb hml hr hk hown hts hW hP hS hl)
  | gt => exact lv_icmp_gt hx hb hd hv (fun q => hK _ _ _ _ (h1.1 q) p e s m args below meth c H locs ls hx hb hml hr hk hown hts hW hP hS hl) (fun q => hK _ _ _ _ (h1.2 q) p e s m args below meth c H locs ls hx hb hml hr hk hown hts hW hP hS hl)
  | le => exact lv_icmp_le hx hb hd hv (fun q => hK _ _ _ _ (h1.1 q) p e s m args below meth c H locs ls hx hb hml hr hk hown hts hW hP hS hl) (fun q => hK _ _ _ _ (h1.2 q) p e s m args below meth c H locs ls hx hb hml hr hk hown hts hW hP hS hl)

theorem x_goto {K : KK} (hK : HK G d μ Post K) {f : Int} {tg : List Nat} (hv : (pc : Int) + f = ((tg.getD 0 0 : Nat) : Int)) (hd : decode μ.2.2.1 pc = .ok (.goto f, 3)) (h : K (tg.getD 0 0) L st M) : PX G d μ Post pc L st M := by
  intro p e s m args below meth c H locs ls hx hb hml hr hk hown hts hW hP hS hl
  exact lv_goto hx hb hd hv (hK _ _ _ _ h p e s m args below meth c H locs ls hx hb hml hr hk hown hts hW hP hS hl)
end X1
end
section
theorem fb_asI' (x : Int32) : Int32.ofInt x.toInt = x := by simp
section X2
variable {G : GG} {d : Nat} {μ : Mth} {Post : Option Value → PM → Prop} {pc : Nat} {L : List (Option Value)} {st : List Value} {M : PM}
theorem swt_out {K : Nat → Prop} {a : Int32} {lo hi : Int} {dt : Nat} (ho : a.toInt < lo ∨ hi < a.toInt) : ∀ (n : Int) (ts : List Nat), swt K a lo hi dt n ts → K dt
  | _, [], h => h ho
  | n, _ :: ts, h => swt_out ho (n + 1) ts h.2
theorem swt_in {K : Nat → Prop} {a : Int32} {lo hi : Int} {dt : Nat} : ∀ (n : Int) (ts : List Nat) (j t : Nat), swt K a lo hi dt n ts → a.toInt = n + j → ts[j]? = some t → K t
  | n, t0 :: ts, 0, t, h, ha, ht => by
    cases ht
    refine h.1 ?_
    rw [show n = a.toInt by omega]
    exact (fb_asI' a).symm
  | n, t0 :: ts, j + 1, t, h, ha, ht => swt_in (n + 1) ts j t h.2 (by omega) ht
theorem x_tableswitch {K : KK} (hK : HK G d μ Post K) {df lo hi : Int} {os : Array Int} {ln : Nat} {tg : List Nat} (hv : tg.map (fun t : Nat => (t : Int) - (pc : Int)) = df :: os.toList) (hs : (os.size : Int) = hi - lo + 1) (hd : decode μ.2.2.1 pc = .ok (.tableswitch df lo hi os, ln)) (h : p1 st (fun a r => swt (fun t => K t L r M) a lo hi (tg.getD 0 0) lo tg.tail)) : PX G d μ Post pc L st M := by
  intro p e s m args below meth c H locs ls hx hb hml hr hk hown hts hW hP hS hl
  obtain ⟨a, r, rfl, h1⟩ := p1_inv h
  cases tg with
  | nil => cases hv
  | cons t0 ts =>
    simp only [List.map_cons, List.cons.injEq] at hv
    obtain ⟨e1, e2⟩ := hv
    by_cases ho : a.toInt < lo ∨ hi < a.toInt
    · exact lv_tableOut hx hb hd ho (tgt := t0) (by omega) (hK _ _ _ _ (swt_out ho lo ts h1) p e s m args below meth c H locs ls hx hb hml hr hk hown hts hW hP hS hl)
    · have hlo : ¬ a.toInt < lo := fun q => ho (Or.inl q)
      have hhi : ¬ hi < a.toInt := fun q => ho (Or.inr q)
      have hj : (a.toInt - lo).toNat < os.toList.length := by rw [Array.length_toList]; omega
      have hj2 : (a.toInt - lo).toNat < ts.length := by rw [← e2] at hj; simpa using hj
      have hk1 : ts[(a.toInt - lo).toNat]? = some ts[(a.toInt - lo).toNat] := List.getElem?_eq_getElem hj2
      have ho2 : os[(a.toInt - lo).toNat]? = some ((ts[(a.toInt - lo).toNat] : Int) - (pc : Int)) := by
        rw [← Array.getElem?_toList, ← e2, List.getElem?_map, hk1]; rfl
      exact lv_tableIn hx hb hd hlo hhi ho2 (tgt := ts[(a.toInt - lo).toNat]) (by omega) (hK _ _ _ _ (swt_in lo ts (a.toInt - lo).toNat _ h1 (by omega) hk1) p e s m args below meth c H locs ls hx hb hml hr hk hown hts hW hP hS hl)
theorem tysl_get (cA : Nat → ClassId) {t : Nat} (h : t ≤ 2) : (tysl cA)[t]? = some (cA t, if t = 0 then .int else if t = 1 then .boolean else .long) := by
  match t, h with
  | 0, _ => rfl
  | 1, _ => rfl
  | 2, _ => rfl
  | n + 3, h => omega
theorem fcl_get {ci : Nat} (h : ci < 10) : cls[ci]? = some ((fcl ci).1, (fcl ci).2.1, (fcl ci).2.2) := by
  match ci, h with
  | 0, _ => rfl
  | 1, _ => rfl
  | 2, _ => rfl
  | 3, _ => rfl
  | 4, _ => rfl
  | 5, _ => rfl
  | 6, _ => rfl
  | 7, _ => rfl
  | 8, _ => rfl
  | 9, _ => rfl
  | n + 10, h => omega
/-- slots' kinds and types go together -/
def kty (ci k : Nat) : FieldType := (tyc.getD ci ty0) k
theorem kty_nm : ∀ ci, ci < 10 → ∀ a, a < (fcl ci).2.2 → ∀ b, b < (fcl ci).2.2 → a ≠ b → ((fcl ci).2.1 a).2.1 ≠ ((fcl ci).2.1 b).2.1 := by
  intro ci h
  match ci, h with
  | 0, _ => exact nm0
  | 1, _ => exact nm1
  | 2, _ => exact nm2
  | 3, _ => exact nm3
  | 4, _ => exact nm4
  | 5, _ => exact nm5
  | 6, _ => exact nm6
  | 7, _ => exact nm7
  | 8, _ => exact nm8
  | 9, _ => exact nm9
  | n + 10, h => omega
theorem kty_ok : ∀ ci, ci < 10 → ∀ k, k < (fcl ci).2.2 → parseFieldDescriptor ((fcl ci).2.1 k).2.2.1 = some (kty ci k) := by
  intro ci h
  match ci, h with
  | 0, _ => exact tyok0
  | 1, _ => exact tyok1
  | 2, _ => exact tyok2
  | 3, _ => exact tyok3
  | 4, _ => exact tyok4
  | 5, _ => exact tyok5
  | 6, _ => exact tyok6
  | 7, _ => exact tyok7
  | 8, _ => exact tyok8
  | 9, _ => exact tyok9
  | n + 10, h => omega
def kfit (ci k kd : Nat) : Bool := match kd with
  | 0 => decide (kty ci k = .int)
  | 1 => decide (kty ci k = .long)
  | 3 => decide (kty ci k = .boolean)
  | _ => true
theorem shp_fit : shp.all (fun sh => match sh with | .inl q => decide (q.1 ≤ 2) | .inr q => q.2.zipIdx.all (fun z => kfit q.1 z.2 z.1.1)) = true := by decide +kernel
theorem shp_kd {a ci k kd rp : Nat} {ks : List (Nat × Nat)} (h : shp[a]? = some (.inr (ci, ks))) (hk : ks[k]? = some (kd, rp)) : kfit ci k kd = true := by
  have h1 := List.all_eq_true.mp shp_fit _ (List.mem_of_getElem? h)
  have h2 := List.all_eq_true.mp h1 ((kd, rp), k) (List.mem_of_getElem? (i := k) (by simp [List.getElem?_zipIdx, hk]))
  exact h2
theorem shp_ty {a t n : Nat} (h : shp[a]? = some (.inl (t, n))) : t ≤ 2 := by
  have h1 := List.all_eq_true.mp shp_fit _ (List.mem_of_getElem? h)
  simpa using h1
theorem pfs_get {ad : Nat → Nat} {a k kd rp : Nat} {ks : List (Nat × Nat)} (hk : ks[k]? = some (kd, rp)) : (ks.zipIdx.map (fun p => pfv ad M a p.2 p.1))[k]? = some (pfv ad M a k (kd, rp)) := by
  rw [List.getElem?_map, List.getElem?_zipIdx, hk]
  simp
theorem x_getfield {K : KK} (hK : HK G d μ Post K) {idx : Nat} (hd : decode μ.2.2.1 pc = .ok (.getfield idx, 3)) (h : r1 st (fun a r => match fld μ.1 idx a with | some (_, k, kd, rp) => K (pc + 3) L (pfv pid M a k (kd, rp) :: r) M | none => (match sfl μ.1 idx a with | some v => K (pc + 3) L (v :: r) M | none => False))) (hm : mok μ) : PX G d μ Post pc L st M := by
  intro p e s m args below meth c H locs ls hx hb hml hr hk hown hts hW hP hS hl
  obtain ⟨a, r, rfl, h1⟩ := r1_inv h
  cases hf : fld μ.1 idx a with
  | none =>
    rw [hf] at h1
    cases hz : sfl μ.1 idx a with
    | none => rw [hz] at h1; exact h1.elim
    | some v =>
      rw [hz] at h1
      dsimp only at h1
      have hq : μ.1 = 13 ∧ 210 ≤ a ∧ a ≤ 212 ∧ ((idx = 9 ∧ v = .ref (a + 10)) ∨ (idx = 15 ∧ v = .int 0)) := by
        unfold sfl at hz
        cases hb1 : (Nat.beq μ.1 13 && Nat.ble 210 a && Nat.ble a 212) with
        | false => rw [hb1] at hz; cases hz
        | true =>
          rw [hb1] at hz
          simp only [Bool.and_eq_true] at hb1
          refine ⟨Nat.eq_of_beq_eq_true hb1.1.1, Nat.le_of_ble_eq_true hb1.1.2, Nat.le_of_ble_eq_true hb1.2, ?_⟩
          cases hb2 : Nat.beq idx 9 with
          | true => rw [hb2] at hz; cases hz; exact Or.inl ⟨Nat.eq_of_beq_eq_true hb2, rfl⟩
          | false =>
            rw [hb2] at hz
            cases hb3 : Nat.beq idx 15 with
            | true => rw [hb3] at hz; cases hz; exact Or.inr ⟨Nat.eq_of_beq_eq_true hb3, rfl⟩
            | false => rw [hb3] at hz; cases hz
      obtain ⟨e1, e2, e3, e4⟩ := hq
      have hS7 := hW.2.2.1.2.2.2.2.2.2
      have h3 := (hS7.1 (a - 210) (by omega))
      have z1 : 210 + (a - 210) = a := by omega
      have z2 : 220 + (a - 210) = a + 10 := by omega
      simp only [z1, z2] at h3
      rw [e1] at hown
      rcases e4 with ⟨rfl, rfl⟩ | ⟨rfl, rfl⟩
      · exact vk_getf hx hb h3.2.2.1 hS hown (hts _ sfl_13_9) (fun _ z => z) hd (hK _ _ _ _ (h1) p e s m args below meth c H locs ls hx hb hml hr hk (by rw [e1]; exact hown) hts hW hP hS hl)
      · exact vk_getf hx hb h3.2.1 hS hown (hts _ sfl_13_15) (fun _ z => z) hd (hK _ _ _ _ (h1) p e s m args below meth c H locs ls hx hb hml hr hk (by rw [e1]; exact hown) hts hW hP hS hl)
  | some q =>
    obtain ⟨ci, k, kd, rp⟩ := q
    rw [hf] at h1
    dsimp only at h1
    obtain ⟨ks, hfl, hs, hkk⟩ := fld_inv hf
    have h2 := hK _ _ _ _ h1 p e s m args below meth c H locs ls hx hb hml hr hk hown hts hW hP hS hl
    rw [List.map_cons, cv_pfv] at h2
    exact va_get (D := G.2.1) (ci := ci) (v := pfv G.2.2.2 M a k (kd, rp)) (C := (fcl ci).1) (T := (fcl ci).2.1) (N := (fcl ci).2.2) hx hb hts (lay_ok ci hfl.2.1) hown hW.1 hP a (pws_get hs) (fcl_get hfl.2.1) k hfl.2.2 (hts _ hfl.1) (fun _ z => z) (pfs_get hkk) hd h2
theorem x_putI {K : KK} (hK : HK G d μ Post K) {idx : Nat} {v : Int32} {a ci k kd rp : Nat} {r : List Value} (hd : decode μ.2.2.1 pc = .ok (.putfield idx, 3)) (hf : fld μ.1 idx a = some (ci, k, kd, rp)) (hn : ((fcl ci).2.1 k).2.2.2 = false) (hkd : kd = 0 ∨ (kd = 3 ∧ (v = 0 ∨ v = 1))) (h : K (pc + 3) L r (wI M a k v)) : PX G d μ Post pc L (.int v :: .ref a :: r) M := by
  intro p e s m args below meth c H locs ls hx hb hml hr hk hown hts hW hP hS hl
  obtain ⟨ks, hfl, hs, hkk⟩ := fld_inv hf
  have hfit := shp_kd hs hkk
  have hlen : k < ks.length := (List.getElem?_eq_some_iff.mp hkk).1
  have hnf : narrow (kty ci k) (.int v) = .int v ∧ fits (kty ci k) (.int v) = true := by
    rcases hkd with rfl | ⟨rfl, h01⟩
    · have e0 : kty ci k = .int := by simpa [kfit] using hfit
      rw [e0]; exact ⟨rfl, rfl⟩
    · have e0 : kty ci k = .boolean := by simpa [kfit] using hfit
      rw [e0]
      rcases h01 with rfl | rfl
      · exact ⟨by decide, by decide⟩
      · exact ⟨by decide, by decide⟩
  refine va_put (D := G.2.1) (ci := ci) (v := .int v) (ty := kty ci k) (C := (fcl ci).1) (T := (fcl ci).2.1) (N := (fcl ci).2.2) hx hb hts (lay_ok ci hfl.2.1) (kty ci) (kty_ok ci hfl.2.1) (kty_nm ci hfl.2.1) hown hW.1 hP (pws_D hW.2.1) hS a (pws_get hs) (fcl_get hfl.2.1) k hfl.2.2 (hts _ hfl.1) (fun _ z => z) hn (kty_ok ci hfl.2.1 k hfl.2.2) hnf.1 hnf.2 (by simpa using hlen) hd (fun H1 locs1 hP1 hD1 hS1 => ?_)
  rw [pws_set hs (M' := wI M a k v) wI_ne] at hP1
  · exact hK _ _ _ _ h p e s m args below meth c H1 locs1 ls hx hb hml hr hk hown hts hW hP1 hS1 hl
  · simp only [pce]
    congr 2
    apply List.ext_getElem?
    intro j
    rw [List.getElem?_set, List.getElem?_map, List.getElem?_map, List.getElem?_zipIdx]
    by_cases hj : k = j
    · subst hj
      rw [if_pos rfl, if_pos (by simpa using hlen), hkk]
      rcases hkd with rfl | ⟨rfl, h01⟩ <;> simp [pfv, wI, va_up, upd]
    · rw [if_neg hj]
      cases ks[j]? with
      | none => rfl
      | some z =>
        have hj2 : ¬ j = k := fun q => hj q.symm
        simp [pfv, wI, va_up, upd, hj2]
theorem x_putL {K : KK} (hK : HK G d μ Post K) {idx : Nat} {v : Int64} {a ci k rp : Nat} {r : List Value} (hd : decode μ.2.2.1 pc = .ok (.putfield idx, 3)) (hf : fld μ.1 idx a = some (ci, k, 1, rp)) (hn : ((fcl ci).2.1 k).2.2.2 = false) (h : K (pc + 3) L r (wL M a k v)) : PX G d μ Post pc L (.long v :: .ref a :: r) M := by
  intro p e s m args below meth c H locs ls hx hb hml hr hk hown hts hW hP hS hl
  obtain ⟨ks, hfl, hs, hkk⟩ := fld_inv hf
  have hfit := shp_kd hs hkk
  have hlen : k < ks.length := (List.getElem?_eq_some_iff.mp hkk).1
  have e0 : kty ci k = .long := by simpa [kfit] using hfit
  refine va_put (D := G.2.1) (ci := ci) (v := .long v) (ty := kty ci k) (C := (fcl ci).1) (T := (fcl ci).2.1) (N := (fcl ci).2.2) hx hb hts (lay_ok ci hfl.2.1) (kty ci) (kty_ok ci hfl.2.1) (kty_nm ci hfl.2.1) hown hW.1 hP (pws_D hW.2.1) hS a (pws_get hs) (fcl_get hfl.2.1) k hfl.2.2 (hts _ hfl.1) (fun _ z => z) hn (kty_ok ci hfl.2.1 k hfl.2.2) (by rw [e0]; rfl) (by rw [e0]; rfl) (by simpa using hlen) hd (fun H1 locs1 hP1 hD1 hS1 => ?_)
  rw [pws_set hs (M' := wL M a k v) wL_ne] at hP1
  · exact hK _ _ _ _ h p e s m args below meth c H1 locs1 ls hx hb hml hr hk hown hts hW hP1 hS1 hl
  · simp only [pce]
    congr 2
    apply List.ext_getElem?
    intro j
    rw [List.getElem?_set, List.getElem?_map, List.getElem?_map, List.getElem?_zipIdx]
    by_cases hj : k = j
    · subst hj
      rw [if_pos rfl, if_pos (by simpa using hlen), hkk]
      simp [pfv, wL, va_up, vp_updL]
    · rw [if_neg hj]
      cases ks[j]? with
      | none => rfl
      | some z =>
        have hj2 : ¬ j = k := fun q => hj q.symm
        simp [pfv, wL, va_up, vp_updL, hj2]
end X2
end
section
section X3
variable {G : GG} {d : Nat} {μ : Mth} {Post : Option Value → PM → Prop} {pc : Nat} {L : List (Option Value)} {st : List Value} {M : PM}
theorem allv_mem {f : Value → Prop} : ∀ {vs : List Value}, allv f vs → ∀ v ∈ vs, f v
  | [], _, v, hv => by cases hv
  | [w], h, v, hv => by rw [List.mem_singleton.mp hv]; exact h
  | w :: x :: r, h, v, hv => by
    rcases List.mem_cons.mp hv with rfl | hv
    · exact h.1
    · exact allv_mem h.2 v hv
theorem x_getstatic {K : KK} (hK : HK G d μ Post K) {idx : Nat} (hd : decode μ.2.2.1 pc = .ok (.getstatic idx, 3)) (h : match gst μ.1 idx with | some vs => allv (fun v => K (pc + 3) L (v :: st) M) vs | none => False) : PX G d μ Post pc L st M := by
  intro p e s m args below meth c H locs ls hx hb hml hr hk hown hts hW hP hS hl
  cases hg : gst μ.1 idx with
  | none => rw [hg] at h; exact h.elim
  | some vs =>
    rw [hg] at h
    have h := allv_mem h
    have hZ := hW.2.2.1
    unfold gst at hg
    cases h8 : Nat.beq μ.1 8 with
    | true =>
      rw [h8] at hg
      have e8 := Nat.eq_of_beq_eq_true h8
      have hown2 := hown
      rw [e8] at hown2
      cases h1 : Nat.beq idx 322 with
      | true =>
        rw [h1] at hg; cases hg
        have e1 := Nat.eq_of_beq_eq_true h1
        subst e1
        exact va_gets hx hb hZ.2.2.1 hS hown2 (hts _ sfl_8_322) (fun _ z => z) hd (hK _ _ _ _ (h (.ref 201) (by simp)) p e s m args below meth c H locs ls hx hb hml hr hk hown hts hW hP hS hl)
      | false =>
        rw [h1] at hg
        cases h2 : Nat.beq idx 325 with
        | true =>
          rw [h2] at hg; cases hg
          have e1 := Nat.eq_of_beq_eq_true h2
          subst e1
          exact va_gets hx hb hZ.1 hS hown2 (hts _ sfl_8_325) (fun _ z => z) hd (hK _ _ _ _ (h (.ref 200) (by simp)) p e s m args below meth c H locs ls hx hb hml hr hk hown hts hW hP hS hl)
        | false => rw [h2] at hg; cases hg
    | false =>
      rw [h8] at hg
      cases h13 : Nat.beq μ.1 13 with
      | false => rw [h13] at hg; cases hg
      | true =>
        rw [h13] at hg
        have e13 := Nat.eq_of_beq_eq_true h13
        have hown2 := hown
        rw [e13] at hown2
        cases h1 : Nat.beq idx 38 with
        | true =>
          rw [h1] at hg; cases hg
          have e1 := Nat.eq_of_beq_eq_true h1
          subst e1
          exact va_gets hx hb hZ.2.2.2.2.1 hS hown2 (hts _ sfl_13_38) (fun _ z => z) hd (hK _ _ _ _ (h (.int 1) (by simp)) p e s m args below meth c H locs ls hx hb hml hr hk hown hts hW hP hS hl)
        | false =>
          rw [h1] at hg
          cases h2 : Nat.beq idx 1053 with
          | true =>
            rw [h2] at hg; cases hg
            have e1 := Nat.eq_of_beq_eq_true h2
            subst e1
            rcases hZ.2.2.2.2.2.1 with z | z
            · exact va_gets hx hb z hS hown2 (hts _ sfl_13_1053) (fun _ z => z) hd (hK _ _ _ _ (h .null (by simp)) p e s m args below meth c H locs ls hx hb hml hr hk hown hts hW hP hS hl)
            · exact va_gets hx hb z hS hown2 (hts _ sfl_13_1053) (fun _ z => z) hd (hK _ _ _ _ (h (.ref 230) (by simp)) p e s m args below meth c H locs ls hx hb hml hr hk hown hts hW hP hS hl)
          | false => rw [h2] at hg; cases hg
theorem pws_arr {ad : Nat → Nat} {cA : Nat → ClassId} {a t n : Nat} (h : shp[a]? = some (.inl (t, n))) (ht : ¬ t = 2) : (pws ad cA M)[a]? = some (ad a, .inl (cA t, n, .inl (M.1 a))) := by
  rw [pws_get h]; simp [pce, ht]
theorem pws_arrL {ad : Nat → Nat} {cA : Nat → ClassId} {a n : Nat} (h : shp[a]? = some (.inl (2, n))) : (pws ad cA M)[a]? = some (ad a, .inl (cA 2, n, .inr (.inl (M.2 a)))) := by
  rw [pws_get h]; rfl
theorem x_iaload {K : KK} (hK : HK G d μ Post K) (hd : decode μ.2.2.1 pc = .ok (.iaload, 1)) (h : p1 st (fun i st1 => r1 st1 (fun a r => match shp[a]? with
    | some (.inl (t, n)) => gd (Nat.beq t 0) (vp_in i n ∧ K (pc + 1) L (.int (M.1 a i.toNatClampNeg) :: r) M)
    | _ => (match cti a with | some l => vp_in i 6 ∧ K (pc + 1) L (.int (l.getD i.toNatClampNeg 0) :: r) M | none => False)))) : PX G d μ Post pc L st M := by
  intro p e s m args below meth c H locs ls hx hb hml hr hk hown hts hW hP hS hl
  obtain ⟨i, st1, rfl, hA⟩ := p1_inv h
  obtain ⟨a, r, rfl, hB⟩ := r1_inv hA
  have key : ∀ (l : List Int32), cti a = some l → vp_in i 6 ∧ K (pc + 1) L (.int (l.getD i.toNatClampNeg 0) :: r) M → W p G.1 e (rmd (d + 1)) s m args below meth c H locs 0 0 (MQ below (Qp G Post) args s 0 0 (AA G.2.2.2)) (F0 m pc ls ((.int i :: .ref a :: r).map (cv G.2.2.2))) := by
    intro l hc ⟨h1, h2⟩
    have hZ := hW.2.2.1
    unfold cti at hc
    cases e1 : Nat.beq a 200 with
    | true =>
      rw [e1] at hc; cases hc
      have e2 := Nat.eq_of_beq_eq_true e1
      subst e2
      exact va_ti hx hb hZ.2.1 hS h1 rfl hd (hK _ _ _ _ (h2) p e s m args below meth c H locs ls hx hb hml hr hk hown hts hW hP hS hl)
    | false =>
      rw [e1] at hc
      cases e3 : Nat.beq a 201 with
      | true =>
        rw [e3] at hc; cases hc
        have e2 := Nat.eq_of_beq_eq_true e3
        subst e2
        exact va_ti hx hb hZ.2.2.2.1 hS h1 rfl hd (hK _ _ _ _ (h2) p e s m args below meth c H locs ls hx hb hml hr hk hown hts hW hP hS hl)
      | false => rw [e3] at hc; cases hc
  cases hs : shp[a]? with
  | none =>
    rw [hs] at hB
    cases hc : cti a with
    | none => rw [hc] at hB; exact hB.elim
    | some l => rw [hc] at hB; exact key l hc hB
  | some sh =>
    cases sh with
    | inr z =>
      rw [hs] at hB
      cases hc : cti a with
      | none => rw [hc] at hB; exact hB.elim
      | some l => rw [hc] at hB; exact key l hc hB
    | inl z =>
      obtain ⟨t, n⟩ := z
      rw [hs] at hB
      obtain ⟨e0, h1, h2⟩ := gd_inv hB
      have e0 := Nat.eq_of_beq_eq_true e0
      subst e0
      exact va_iald hx hb hW.1 hP a 0 (pws_arr hs (by decide)) rfl h1 hd (hK _ _ _ _ (h2) p e s m args below meth c H locs ls hx hb hml hr hk hown hts hW hP hS hl)
theorem x_baload {K : KK} (hK : HK G d μ Post K) (hd : decode μ.2.2.1 pc = .ok (.baload, 1)) (h : p1 st (fun i st1 => r1 st1 (fun a r => match shp[a]? with
    | some (.inl (t, n)) => gd (Nat.beq t 1) (vp_in i n ∧ K (pc + 1) L (.int (M.1 a i.toNatClampNeg) :: r) M)
    | _ => gd (Nat.ble 220 a && Nat.ble a 222) (vp_in i 5 ∧ K (pc + 1) L (.int ((ctB.getD (a - 220) []).getD i.toNatClampNeg 0) :: r) M)))) : PX G d μ Post pc L st M := by
  intro p e s m args below meth c H locs ls hx hb hml hr hk hown hts hW hP hS hl
  obtain ⟨i, st1, rfl, hA⟩ := p1_inv h
  obtain ⟨a, r, rfl, hB⟩ := r1_inv hA
  have key : gd (Nat.ble 220 a && Nat.ble a 222) (vp_in i 5 ∧ K (pc + 1) L (.int ((ctB.getD (a - 220) []).getD i.toNatClampNeg 0) :: r) M) → W p G.1 e (rmd (d + 1)) s m args below meth c H locs 0 0 (MQ below (Qp G Post) args s 0 0 (AA G.2.2.2)) (F0 m pc ls ((.int i :: .ref a :: r).map (cv G.2.2.2))) := by
    intro h
    obtain ⟨h0, h1, h2⟩ := gd_inv h
    simp only [Bool.and_eq_true] at h0
    have a1 := Nat.le_of_ble_eq_true h0.1
    have a2 := Nat.le_of_ble_eq_true h0.2
    have hS7 := hW.2.2.1.2.2.2.2.2.2
    have h3 := (hS7.1 (a - 220) (by omega)).2.2.2
    have z2 : 220 + (a - 220) = a := by omega
    have z3 : ([5, 5, 5] : List Nat).getD (a - 220) 0 = 5 := by
      have : a - 220 = 0 ∨ a - 220 = 1 ∨ a - 220 = 2 := by omega
      rcases this with q | q | q <;> rw [q] <;> rfl
    simp only [z2, z3] at h3
    exact va_tb hx hb h3 hS h1 rfl hd (hK _ _ _ _ (h2) p e s m args below meth c H locs ls hx hb hml hr hk hown hts hW hP hS hl)
  cases hs : shp[a]? with
  | none => rw [hs] at hB; exact key hB
  | some sh =>
    cases sh with
    | inr z => rw [hs] at hB; exact key hB
    | inl z =>
      obtain ⟨t, n⟩ := z
      rw [hs] at hB
      obtain ⟨e0, h1, h2⟩ := gd_inv hB
      have e0 := Nat.eq_of_beq_eq_true e0
      subst e0
      exact va_zald hx hb hW.1 hP a 1 (pws_arr hs (by decide)) rfl h1 hd (hK _ _ _ _ (h2) p e s m args below meth c H locs ls hx hb hml hr hk hown hts hW hP hS hl)
theorem x_laload {K : KK} (hK : HK G d μ Post K) (hd : decode μ.2.2.1 pc = .ok (.laload, 1)) (h : p1 st (fun i st1 => r1 st1 (fun a r => match shp[a]? with
    | some (.inl (t, n)) => gd (Nat.beq t 2) (vp_in i n ∧ K (pc + 1) L (.long (M.2 a i.toNatClampNeg) :: r) M)
    | _ => False))) : PX G d μ Post pc L st M := by
  intro p e s m args below meth c H locs ls hx hb hml hr hk hown hts hW hP hS hl
  obtain ⟨i, st1, rfl, hA⟩ := p1_inv h
  obtain ⟨a, r, rfl, hB⟩ := r1_inv hA
  cases hs : shp[a]? with
  | none => rw [hs] at hB; exact hB.elim
  | some sh =>
    cases sh with
    | inr z => rw [hs] at hB; exact hB.elim
    | inl z =>
      obtain ⟨t, n⟩ := z
      rw [hs] at hB
      obtain ⟨e0, h1, h2⟩ := gd_inv hB
      have e0 := Nat.eq_of_beq_eq_true e0
      subst e0
      exact va_lald hx hb hW.1 hP a 2 (pws_arrL hs) rfl h1 hd (hK _ _ _ _ (h2) p e s m args below meth c H locs ls hx hb hml hr hk hown hts hW hP hS hl)
theorem x_iastore {K : KK} (hK : HK G d μ Post K) (hd : decode μ.2.2.1 pc = .ok (.iastore, 1)) (h : p2 st (fun i v st1 => r1 st1 (fun a r => match shp[a]? with
    | some (.inl (t, n)) => gd (Nat.beq t 0) (vp_in i n ∧ K (pc + 1) L r (wI M a i.toNatClampNeg v))
    | _ => False))) : PX G d μ Post pc L st M := by
  intro p e s m args below meth c H locs ls hx hb hml hr hk hown hts hW hP hS hl
  obtain ⟨i, v, st1, rfl, hA⟩ := p2_inv h
  obtain ⟨a, r, rfl, hB⟩ := r1_inv hA
  cases hs : shp[a]? with
  | none => rw [hs] at hB; exact hB.elim
  | some sh =>
    cases sh with
    | inr z => rw [hs] at hB; exact hB.elim
    | inl z =>
      obtain ⟨t, n⟩ := z
      rw [hs] at hB
      obtain ⟨e0, h1, h2⟩ := gd_inv hB
      have e0 := Nat.eq_of_beq_eq_true e0
      subst e0
      refine va_iast hx hb hW.1 hP (pws_D hW.2.1) hS a 0 (pws_arr hs (by decide)) rfl h1 hd (fun H1 locs1 hP1 hD1 hS1 => ?_)
      rw [pws_set hs (M' := wI M a i.toNatClampNeg v) wI_ne (by simp [pce, wI, va_up])] at hP1
      exact hK _ _ _ _ h2 p e s m args below meth c H1 locs1 ls hx hb hml hr hk hown hts hW hP1 hS1 hl
theorem x_bastore {K : KK} (hK : HK G d μ Post K) (hd : decode μ.2.2.1 pc = .ok (.bastore, 1)) (h : p2 st (fun i v st1 => r1 st1 (fun a r => match shp[a]? with
    | some (.inl (t, n)) => gd (Nat.beq t 1) (vp_in i n ∧ (v = 0 ∨ v = 1) ∧ K (pc + 1) L r (wI M a i.toNatClampNeg v))
    | _ => False))) : PX G d μ Post pc L st M := by
  intro p e s m args below meth c H locs ls hx hb hml hr hk hown hts hW hP hS hl
  obtain ⟨i, v, st1, rfl, hA⟩ := p2_inv h
  obtain ⟨a, r, rfl, hB⟩ := r1_inv hA
  cases hs : shp[a]? with
  | none => rw [hs] at hB; exact hB.elim
  | some sh =>
    cases sh with
    | inr z => rw [hs] at hB; exact hB.elim
    | inl z =>
      obtain ⟨t, n⟩ := z
      rw [hs] at hB
      obtain ⟨e0, h1, h3, h2⟩ := gd_inv hB
      have e0 := Nat.eq_of_beq_eq_true e0
      subst e0
      refine va_zast hx hb hW.1 hP (pws_D hW.2.1) hS a 1 (pws_arr hs (by decide)) rfl h1 hd (fun H1 locs1 hP1 hD1 hS1 => ?_)
      have hv : vp_nar .boolean v = v := by rcases h3 with rfl | rfl <;> decide
      rw [hv, pws_set hs (M' := wI M a i.toNatClampNeg v) wI_ne (by simp [pce, wI, va_up])] at hP1
      exact hK _ _ _ _ h2 p e s m args below meth c H1 locs1 ls hx hb hml hr hk hown hts hW hP1 hS1 hl
theorem x_lastore {K : KK} (hK : HK G d μ Post K) (hd : decode μ.2.2.1 pc = .ok (.lastore, 1)) (h : q1 st (fun v st0 => p1 st0 (fun i st1 => r1 st1 (fun a r => match shp[a]? with
    | some (.inl (t, n)) => gd (Nat.beq t 2) (vp_in i n ∧ K (pc + 1) L r (wL M a i.toNatClampNeg v))
    | _ => False)))) : PX G d μ Post pc L st M := by
  intro p e s m args below meth c H locs ls hx hb hml hr hk hown hts hW hP hS hl
  obtain ⟨v, st0, rfl, hA⟩ := q1_inv h
  obtain ⟨i, st1, rfl, hB⟩ := p1_inv hA
  obtain ⟨a, r, rfl, hC⟩ := r1_inv hB
  cases hs : shp[a]? with
  | none => rw [hs] at hC; exact hC.elim
  | some sh =>
    cases sh with
    | inr z => rw [hs] at hC; exact hC.elim
    | inl z =>
      obtain ⟨t, n⟩ := z
      rw [hs] at hC
      obtain ⟨e0, h1, h2⟩ := gd_inv hC
      have e0 := Nat.eq_of_beq_eq_true e0
      subst e0
      refine va_last hx hb hW.1 hP (pws_D hW.2.1) hS a 2 (pws_arrL hs) rfl h1 hd (fun H1 locs1 hP1 hD1 hS1 => ?_)
      rw [pws_set hs (M' := wL M a i.toNatClampNeg v) wL_ne (by simp [pce, wL, va_up])] at hP1
      exact hK _ _ _ _ h2 p e s m args below meth c H1 locs1 ls hx hb hml hr hk hown hts hW hP1 hS1 hl
theorem x_arraylength {K : KK} (hK : HK G d μ Post K) (hd : decode μ.2.2.1 pc = .ok (.arraylength, 1)) (h : r1 st (fun a r => match shp[a]? with
    | some (.inl (t, n)) => gd (Nat.ble t 2) (K (pc + 1) L (.int (Int32.ofNat n) :: r) M)
    | _ => gd (Nat.ble 220 a && Nat.ble a 222) (K (pc + 1) L (.int 5 :: r) M))) : PX G d μ Post pc L st M := by
  intro p e s m args below meth c H locs ls hx hb hml hr hk hown hts hW hP hS hl
  obtain ⟨a, r, rfl, hA⟩ := r1_inv h
  have key : gd (Nat.ble 220 a && Nat.ble a 222) (K (pc + 1) L (.int 5 :: r) M) → W p G.1 e (rmd (d + 1)) s m args below meth c H locs 0 0 (MQ below (Qp G Post) args s 0 0 (AA G.2.2.2)) (F0 m pc ls ((.ref a :: r).map (cv G.2.2.2))) := by
    intro h
    obtain ⟨h0, h2⟩ := gd_inv h
    simp only [Bool.and_eq_true] at h0
    have a1 := Nat.le_of_ble_eq_true h0.1
    have a2 := Nat.le_of_ble_eq_true h0.2
    have hS7 := hW.2.2.1.2.2.2.2.2.2
    have h3 := (hS7.1 (a - 220) (by omega)).2.2.2
    have z2 : 220 + (a - 220) = a := by omega
    have z3 : ([5, 5, 5] : List Nat).getD (a - 220) 0 = 5 := by
      have : a - 220 = 0 ∨ a - 220 = 1 ∨ a - 220 = 2 := by omega
      rcases this with q | q | q <;> rw [q] <;> rfl
    simp only [z2, z3] at h3
    exact va_tlen hx hb h3 hS rfl hd (hK _ _ _ _ (h2) p e s m args below meth c H locs ls hx hb hml hr hk hown hts hW hP hS hl)
  cases hs : shp[a]? with
  | none => rw [hs] at hA; exact key hA
  | some sh =>
    cases sh with
    | inr z => rw [hs] at hA; exact key hA
    | inl z =>
      obtain ⟨t, n⟩ := z
      rw [hs] at hA
      obtain ⟨e0, h2⟩ := gd_inv hA
      have e0 := Nat.le_of_ble_eq_true e0
      have h4 := hK _ _ _ _ h2 p e s m args below meth c H locs ls hx hb hml hr hk hown hts hW hP hS hl
      by_cases ht : t = 2
      · subst ht
        exact va_alen hx hb hW.1 hP a 2 (pws_arrL hs) (tysl_get G.2.2.1 (by decide)) rfl hd h4
      · exact va_alen hx hb hW.1 hP a t (pws_arr hs ht) (tysl_get G.2.2.1 e0) rfl hd h4
theorem x_ldc {K : KK} (hK : HK G d μ Post K) {idx : Nat} (hd : decode μ.2.2.1 pc = .ok (.ldc idx, 2)) (h : match kci μ.1 idx with
    | some v => K (pc + 2) L (.int v :: st) M
    | none => gd (Nat.beq μ.1 6) (bif Nat.beq idx 98 then K (pc + 2) L (.ref 210 :: st) M else bif Nat.beq idx 104 then K (pc + 2) L (.ref 211 :: st) M else bif Nat.beq idx 106 then K (pc + 2) L (.ref 212 :: st) M else False)) : PX G d μ Post pc L st M := by
  intro p e s m args below meth c H locs ls hx hb hml hr hk hown hts hW hP hS hl
  cases hc : kci μ.1 idx with
  | some v =>
    rw [hc] at h
    exact lv_ldc hx hb hown (hts _ (kci_ok hc)) hd (hK _ _ _ _ (h) p e s m args below meth c H locs ls hx hb hml hr hk hown hts hW hP hS hl)
  | none =>
    rw [hc] at h
    obtain ⟨e6, hA⟩ := gd_inv h
    have e6 := Nat.eq_of_beq_eq_true e6
    have hown2 := hown
    rw [e6] at hown2
    have hV := hW.2.2.2
    cases h1 : Nat.beq idx 98 with
    | true =>
      rw [h1] at hA
      have e1 := Nat.eq_of_beq_eq_true h1
      subst e1
      exact va_ldcS hx hb hown2 hV.1 hd (hK _ _ _ _ (hA) p e s m args below meth c H locs ls hx hb hml hr hk hown hts hW hP hS hl)
    | false =>
      rw [h1] at hA
      cases h2 : Nat.beq idx 104 with
      | true =>
        rw [h2] at hA
        have e1 := Nat.eq_of_beq_eq_true h2
        subst e1
        exact va_ldcS hx hb hown2 hV.2.1 hd (hK _ _ _ _ (hA) p e s m args below meth c H locs ls hx hb hml hr hk hown hts hW hP hS hl)
      | false =>
        rw [h2] at hA
        cases h3 : Nat.beq idx 106 with
        | true =>
          rw [h3] at hA
          have e1 := Nat.eq_of_beq_eq_true h3
          subst e1
          exact va_ldcS hx hb hown2 hV.2.2.1 hd (hK _ _ _ _ (hA) p e s m args below meth c H locs ls hx hb hml hr hk hown hts hW hP hS hl)
        | false => rw [h3] at hA; exact hA.elim
theorem x_ldc_w {K : KK} (hK : HK G d μ Post K) {idx : Nat} (hd : decode μ.2.2.1 pc = .ok (.ldc_w idx, 3)) (h : match kci μ.1 idx with | some v => K (pc + 3) L (.int v :: st) M | none => False) : PX G d μ Post pc L st M := by
  intro p e s m args below meth c H locs ls hx hb hml hr hk hown hts hW hP hS hl
  cases hc : kci μ.1 idx with
  | some v =>
    rw [hc] at h
    exact lv_ldcw hx hb hown (hts _ (kci_ok hc)) hd (hK _ _ _ _ (h) p e s m args below meth c H locs ls hx hb hml hr hk hown hts hW hP hS hl)
  | none => rw [hc] at h; exact h.elim
theorem x_ldc2_w {K : KK} (hK : HK G d μ Post K) {idx : Nat} (hd : decode μ.2.2.1 pc = .ok (.ldc2_w idx, 3)) (h : match kcl μ.1 idx with | some v => K (pc + 3) L (.long v :: st) M | none => False) : PX G d μ Post pc L st M := by
  intro p e s m args below meth c H locs ls hx hb hml hr hk hown hts hW hP hS hl
  cases hc : kcl μ.1 idx with
  | some v =>
    rw [hc] at h
    exact lv_ldc2 hx hb hown (hts _ (kcl_ok hc)) hd (hK _ _ _ _ (h) p e s m args below meth c H locs ls hx hb hml hr hk hown hts hW hP hS hl)
  | none => rw [hc] at h; exact h.elim
/-- an answer -/
theorem Qp.ret {G : GG} {Post : Option Value → PM → Prop} {as : Array Value} {s t : State} {H : Heap} {locs : List Loc} {v : Option Value} {M : PM} (hp : Post v M) (hP : va_P G.2.1 cls (pws G.2.2.2 G.2.2.1 M) H) (hS : va_S (AA G.2.2.2) s.heap H locs) (ht : t.heap = H) : Qp G Post as s (.returned (v.map (cv G.2.2.2))) t :=
  ⟨⟨v, M, rfl, hp, by rw [ht]; exact hP⟩, hS.F ht⟩
theorem x_ireturn (hd : decode μ.2.2.1 pc = .ok (.ireturn, 1)) (h : match st with | [.int v] => ret1 μ.2.2.2.2.1 v (Post (some (.int v)) M) | _ => False) : PX G d μ Post pc L st M := by
  intro p e s m args below meth c H locs ls hx hb hml hr hk hown hts hW hP hS hl
  split at h
  · rename_i v
    cases hq : μ.2.2.2.2.1 with
    | none => rw [hq] at h; exact h.elim
    | some ty =>
      rw [hq] at h hr
      have h1 : narrow ty (.int v) = .int v ∧ Post (some (.int v)) M := by
        cases ty with
        | int => exact ⟨rfl, h⟩
        | boolean => refine ⟨?_, h.2⟩; rcases h.1 with rfl | rfl <;> decide
        | byte => exact h
        | char => exact h
        | double => exact h
        | float => exact h
        | long => exact h
        | short => exact h
        | object _ => exact h
        | array _ => exact h
      exact W.zret hx hb hr h1.1 (fun t ht hw => Qp.ret h1.2 hP hS ht) hS.2.2 hd (hlocks := hk)
  · exact h.elim
theorem x_lreturn (hd : decode μ.2.2.1 pc = .ok (.lreturn, 1)) (h : match st with | [.long v] => gd (decide (μ.2.2.2.2.1 = some .long)) (Post (some (.long v)) M) | _ => False) : PX G d μ Post pc L st M := by
  intro p e s m args below meth c H locs ls hx hb hml hr hk hown hts hW hP hS hl
  split at h
  · rename_i v
    obtain ⟨h0, h1⟩ := gd_inv h
    rw [of_decide_eq_true h0] at hr
    exact W.lret hx hb hr (fun t ht hw => Qp.ret h1 hP hS ht) hS.2.2 hd (hlocks := hk)
  · exact h.elim
theorem x_areturn (hd : decode μ.2.2.1 pc = .ok (.areturn, 1)) (h : match st with | [.ref v] => (match μ.2.2.2.2.1 with | some (.object _) => Post (some (.ref v)) M | _ => False) | _ => False) : PX G d μ Post pc L st M := by
  intro p e s m args below meth c H locs ls hx hb hml hr hk hown hts hW hP hS hl
  split at h
  · rename_i v
    split at h
    · rename_i nm hq
      rw [hq] at hr
      exact W.aret hx hb hr (Or.inl ⟨_, rfl⟩) (Or.inr ⟨_, rfl⟩) (fun t ht hw => Qp.ret h hP hS ht) hS.2.2 hd (hlocks := hk)
    · exact h.elim
  · exact h.elim
theorem x_return (hd : decode μ.2.2.1 pc = .ok (.return_, 1)) (h : match st with | [] => (match μ.2.2.2.2.1 with | none => Post none M | _ => False) | _ => False) : PX G d μ Post pc L st M := by
  intro p e s m args below meth c H locs ls hx hb hml hr hk hown hts hW hP hS hl
  split at h
  · split at h
    · rename_i hq
      rw [hq] at hr
      exact W.vret hx hb hr (fun t ht hw => Qp.ret (v := none) h hP hS ht) hS.2.2 hd (hlocks := hk)
    · exact h.elim
  · exact h.elim
end X3
end
section
theorem shp_ci : shp.all (fun sh => match sh with | .inl _ => true | .inr q => decide (q.1 < 10)) = true := by decide +kernel
theorem nmo_fcl {ci : Nat} (h : ci < 10) : nmo ci = (fcl ci).1 := by
  match ci, h with
  | 0, _ => rfl
  | 1, _ => rfl
  | 2, _ => rfl
  | 3, _ => rfl
  | 4, _ => rfl
  | 5, _ => rfl
  | 6, _ => rfl
  | 7, _ => rfl
  | 8, _ => rfl
  | 9, _ => rfl
  | n + 10, h => omega
section X4
variable {G : GG} {d : Nat} {μ : Mth} {Post : Option Value → PM → Prop} {pc : Nat} {L : List (Option Value)} {st : List Value} {M : PM}
/-- behind a call over the table's world -/
theorem x_back {p : Program} {e : Env} {s : State} {m : MethodId} {args : Array Value} {below : List Frame} {meth : Method} {c : Code} {H : Heap} {locs : List Loc} {ls : Array Slot} {a : Array Value} {st0 rest : List Value} {Q : State → Prop} {P2 : Option Value → PM → Prop}
    (hr : va_Run p G.1 e (rmd (d + 1)) s m args below meth c H locs 0 0 0 0 (F0 m pc ls st0) rest (Qp G P2 a) (AA G.2.2.2)) (hS : va_S (AA G.2.2.2) s.heap H locs)
    (kk : ∀ (v : Option Value) (M2 : PM) (H1 : Heap) (locs1 : List Loc), P2 v M2 → va_P G.2.1 cls (pws G.2.2.2 G.2.2.1 M2) H1 → va_S (AA G.2.2.2) s.heap H1 locs1 → W p G.1 e (rmd (d + 1)) s m args below meth c H1 locs1 0 0 Q (F0 m (pc + 3) ls ((v.map (cv G.2.2.2)).toList ++ rest))) :
    W p G.1 e (rmd (d + 1)) s m args below meth c H locs 0 0 Q (F0 m pc ls st0) := by
  intro T hT X
  obtain ⟨v, st₀, t, T', L, h0, X', hL, e1, e2, ⟨⟨r, M2, hv, hp, hP2⟩, hz, hk⟩, stp⟩ := hr T hT X
  rw [h0] at hz hk
  cases hv
  rw [← e1] at hP2 hz hk
  obtain ⟨t2, a1, b1⟩ := kk r M2 T'.heap (locs ++ L) hp hP2 ⟨Nat.le_trans hS.1 hz, fun q h1 h2 => by rw [hk q (Nat.lt_of_lt_of_le h1 hS.1) h2]; exact hS.2.1 q h1 h2, fun q hq => by
      rcases List.mem_append.mp hq with h | h
      · exact hS.2.2 q h
      · exact hL q h⟩ T' rfl X'
  exact ⟨t2, stp t2 a1, b1⟩
theorem gw_good {w : Cond} (h : w ∈ gw) : (w.onTables && w.keeps) = true ∨ ∃ ty, w = .arrayClass ty := good_of_word (List.mem_filter.mp h).2
theorem gw_in {μ2 : Mth} (hm : mok μ2) : GoodIn gw (mcode μ2 :: gw) := by
  intro w hw
  rcases List.mem_cons.mp hw with rfl | hw
  · exact ⟨hm.1, gw_good hm.1⟩
  · exact ⟨hw, gw_good hw⟩
theorem x_pre {p : Program} {s : State} {H : Heap} {locs : List Loc} {av : List Value} (hW : WK G s) (hP : va_P G.2.1 cls (pws G.2.2.2 G.2.2.1 M) H) (hS : va_S (AA G.2.2.2) s.heap H locs) :
    FrameBlind (va_Pc (av.map (cv G.2.2.2)) (fun U => WK G U ∧ va_P G.2.1 cls (pws G.2.2.2 G.2.2.1 M) U.heap)) ∧ ∀ U : State, U.heap = H → s.WarmedH U.vm → va_Pc (av.map (cv G.2.2.2)) (fun U => WK G U ∧ va_P G.2.1 cls (pws G.2.2.2 G.2.2.1 M) U.heap) (av.map (cv G.2.2.2)).toArray U := by
  refine ⟨fun a U g mk h => ⟨h.1, h.2.1.blind, h.2.2⟩, fun U hU hw => ⟨rfl, hW.move hw (fun a h1 h2 => by rw [hU]; exact hS.2.1 a h1 h2), by rw [hU]; exact hP⟩⟩
theorem csum_cv (ad : Nat → Nat) : ∀ st : List Value, ((st.map (cv ad)).map fun v => v.category).sum = csum st
  | [] => rfl
  | v :: r => by
    have := csum_cv ad r
    simp only [csum, List.map_cons, List.sum_cons, cv_cat] at this ⊢
    omega
theorem x_calledB {p : Program} {s : State} {args : Array Value} {own : String} {idx : Nat} {μ2 : Mth} (hts : ∀ w ∈ gw, w.before args s = true) (hm : mok μ2) (hl : (Cond.methodLink own idx μ2.2.1).before args s = true) : CallB (rmd (d + 1)) s args own idx μ2.2.1 μ2.2.2.1 μ2.2.2.2.1 μ2.2.2.2.2.1 (mcode μ2 :: gw) (rmd d) 0 0 μ2.2.2.2.2.2.2 :=
  callB_of μ2.2.2.2.2.2.2 hts (gw_in hm) rfl rfl rfl (hts _ hm.2.1) hl hm.2.2.2.1 ⟨Nat.le_refl _, by have := hm.2.2.2.2.1; show 8 + (μ2.2.2.2.1 + 11) + 64 * d ≤ 64 * (d + 1); omega⟩
theorem x_invokevirtual {K : KK} (hK : HK G d μ Post K) {idx : Nat} (hd : decode μ.2.2.1 pc = .ok (.invokevirtual idx, 3)) (h : match callee μ.1 idx with
    | some (μ2, kd) => gd (Nat.beq kd 0) (gd (!μ2.2.2.2.2.2.1) (r1 (st.drop μ2.2.2.2.2.2.2) (fun a r => gd (Nat.ble (csum r) 8 && recv a μ2.1) (PC G d μ2 (.ref a :: (st.take μ2.2.2.2.2.2.2).reverse) M (fun v M2 => K (pc + 3) L (v.toList ++ r) M2)))))
    | none => False) : PX G d μ Post pc L st M := by
  intro p e s m args below meth c H locs ls hx hb hml hr hk hown hts hW hP hS hl
  cases hc : callee μ.1 idx with
  | none => rw [hc] at h; exact h.elim
  | some q =>
    obtain ⟨μ2, kd⟩ := q
    rw [hc] at h
    obtain ⟨e0, h1⟩ := gd_inv h
    have e0 := Nat.eq_of_beq_eq_true e0
    subst e0
    obtain ⟨hst, h2⟩ := gd_inv h1
    obtain ⟨a, r, hdr, h3⟩ := r1_inv h2
    obtain ⟨hb8, hm, hM⟩ := gd_inv h3
    simp only [Bool.and_eq_true] at hb8
    have hlink : Cond.methodLink (nmo μ.1) idx μ2.2.1 ∈ gw := callee_ok hc
    have hstat : μ2.2.2.2.2.2.1 = false := by simpa using hst
    have hlast := hm.2.2.2.2.2.2
    rw [if_neg (by rw [hstat]; decide)] at hlast
    have hsplit : st = (st.take μ2.2.2.2.2.2.2) ++ .ref a :: r := by rw [← hdr]; exact (List.take_append_drop _ _).symm
    have hlen : (st.take μ2.2.2.2.2.2.2).length = μ2.2.2.2.2.2.2 := by
      have : (st.drop μ2.2.2.2.2.2.2).length = r.length + 1 := by rw [hdr]; rfl
      rw [List.length_drop] at this
      rw [List.length_take]; omega
    have hrecv : ∃ cellB : Cell, H[G.2.2.2 a]? = some cellB ∧ cellB.vm.isStatics = false ∧ s.vm.findClass μ2.2.1.cls = some cellB.cls := by
      have h4 := hb8.2
      have str : (Nat.beq μ2.1 13 && Nat.ble 210 a && Nat.ble a 212) = true → ∃ cellB : Cell, H[G.2.2.2 a]? = some cellB ∧ cellB.vm.isStatics = false ∧ s.vm.findClass μ2.2.1.cls = some cellB.cls := by
        intro h5
        simp only [Bool.and_eq_true] at h5
        have e13 := Nat.eq_of_beq_eq_true h5.1.1
        have a1 := Nat.le_of_ble_eq_true h5.1.2
        have a2 := Nat.le_of_ble_eq_true h5.2
        have h6 := vk_recv (i := a - 210) hW.2.2.1.2.2.2.2.2.2 (by omega) hS
        have z1 : 210 + (a - 210) = a := by omega
        simp only [z1] at h6
        rw [← hm.2.2.1, e13]
        exact h6
      unfold recv at h4
      cases hs : shp[a]? with
      | none => rw [hs] at h4; exact str h4
      | some sh =>
        cases sh with
        | inl z => rw [hs] at h4; exact str h4
        | inr z =>
          obtain ⟨ci, ks⟩ := z
          rw [hs] at h4
          have e5 : ci = μ2.1 := Nat.eq_of_beq_eq_true h4
          subst e5
          have hci : μ2.1 < 10 := by
            have h7 := List.all_eq_true.mp shp_ci _ (List.mem_of_getElem? hs)
            simpa using h7
          have h8 := va_recv hW.1 hP (fcl_get hci) (pws_get hs)
          rw [← hm.2.2.1, show nmo μ2.1 = (fcl μ2.1).1 from nmo_fcl hci]
          exact h8
    have hpre := x_pre (p := p) (av := .ref a :: (st.take μ2.2.2.2.2.2.2).reverse) hW hP hS
    refine x_back (va_runV (As := ((st.take μ2.2.2.2.2.2.2).reverse).map (cv G.2.2.2)) (rest := r.map (cv G.2.2.2)) (b := G.2.2.2 a) (C := μ2.2.1.cls) (bytes := μ2.2.2.1) (maxL := μ2.2.2.2.1) (ret := μ2.2.2.2.2.1) (n := μ2.2.2.2.2.2.2) (own := nmo μ.1) ⟨hx, hb, hml, hown, hts⟩ hM ⟨x_calledB (p := p) hts hm (hts _ hlink), hts _ hlast.1, hts _ hlast.2⟩ ⟨hpre.1, hrecv, hpre.2⟩ rfl (by rw [List.length_map, List.length_reverse]; exact hlen) hl.1 ?_ ?_ hd ⟨Nat.le_refl _, Nat.le_refl _⟩) hS ?_
    · show st.map (cv G.2.2.2) = _
      rw [← List.map_reverse, List.reverse_reverse]
      conv => lhs; rw [hsplit]
      rw [List.map_append]; rfl
    · show 2 * 0 + _ ≤ 8
      have := Nat.le_of_ble_eq_true hb8.1
      rw [csum_cv]; omega
    · intro v M2 H1 locs1 hp hP1 hS1
      have h9 := hK _ _ _ _ hp p e s m args below meth c H1 locs1 ls hx hb hml hr hk hown hts hW hP1 hS1 hl
      rw [List.map_append] at h9
      cases v <;> exact h9
theorem x_invokestatic {K : KK} (hK : HK G d μ Post K) {idx : Nat} (hd : decode μ.2.2.1 pc = .ok (.invokestatic idx, 3)) (h : match callee μ.1 idx with
    | some (μ2, kd) => (match kd with
      | 3 => ac5 st (fun a b sp dp n r => gd (Nat.ble (csum r) 8) (ar2 a b (fun n0 n1 => (¬ sp < 0 ∧ ¬ dp < 0 ∧ ¬ n < 0 ∧ sp.toNatClampNeg + n.toNatClampNeg ≤ n0 ∧ dp.toNatClampNeg + n.toNatClampNeg ≤ n1) ∧ K (pc + 3) L r (va_up M.1 b (va_cpy (M.1 a) (M.1 b) sp.toNatClampNeg dp.toNatClampNeg n.toNatClampNeg), M.2))))
      | 4 => p1 st (fun x r => gd (Nat.ble (csum r) 8) (K (pc + 3) L (.int (if 0 ≤ x then x else 0 - x) :: r) M))
      | 5 => p2 st (fun x y r => gd (Nat.ble (csum r) 8) (K (pc + 3) L (.int (if x < y then y else x) :: r) M))
      | 6 => p2 st (fun x y r => gd (Nat.ble (csum r) 8) (K (pc + 3) L (.int (if y < x then y else x) :: r) M))
      | 0 => False
      | _ => gd (μ2.2.2.2.2.2.1 && Nat.ble μ2.2.2.2.2.2.2 st.length && Nat.ble (csum (st.drop μ2.2.2.2.2.2.2)) 8) (PC G d μ2 ((st.take μ2.2.2.2.2.2.2).reverse) M (fun v M2 => K (pc + 3) L (v.toList ++ st.drop μ2.2.2.2.2.2.2) M2)))
    | none => False) (hnest : ∀ μ2, callee μ.1 idx = some (μ2, 2) → (μ.1 = 0 ∧ idx = 45 ∨ μ.1 = 1 ∧ idx = 27) ∧ μ2.2.1 = y_seat) (hkd : ∀ q, callee μ.1 idx = some q → q.2 ≤ 6) : PX G d μ Post pc L st M := by
  intro p e s m args below meth c H locs ls hx hb hml hr hk hown hts hW hP hS hl
  cases hc : callee μ.1 idx with
  | none => rw [hc] at h; exact h.elim
  | some q =>
    obtain ⟨μ2, kd⟩ := q
    rw [hc] at h
    have hok := callee_ok hc
    have hini : Cond.initialized "java/lang/Math" ∈ gw := ini_11
    have plain : ∀ (cw : gd (μ2.2.2.2.2.2.1 && Nat.ble μ2.2.2.2.2.2.2 st.length && Nat.ble (csum (st.drop μ2.2.2.2.2.2.2)) 8) (PC G d μ2 ((st.take μ2.2.2.2.2.2.2).reverse) M (fun v M2 => K (pc + 3) L (v.toList ++ st.drop μ2.2.2.2.2.2.2) M2))), (kd = 1 ∨ kd = 2) → W p G.1 e (rmd (d + 1)) s m args below meth c H locs 0 0 (MQ below (Qp G Post) args s 0 0 (AA G.2.2.2)) (F0 m pc ls (st.map (cv G.2.2.2))) := by
      intro cw h12
      obtain ⟨hb8, hm, hM⟩ := gd_inv cw
      simp only [Bool.and_eq_true] at hb8
      have hlast := hm.2.2.2.2.2.2
      rw [if_pos hb8.1.1] at hlast
      have hlen : (st.take μ2.2.2.2.2.2.2).length = μ2.2.2.2.2.2.2 := by
        have := Nat.le_of_ble_eq_true hb8.1.2
        rw [List.length_take]; omega
      have hpre := x_pre (p := p) (av := (st.take μ2.2.2.2.2.2.2).reverse) hW hP hS
      have hrest : 2 * (F0 m pc ls (st.map (cv G.2.2.2))).monitorRoom + (((st.drop μ2.2.2.2.2.2.2).map (cv G.2.2.2)).map fun v => v.category).sum ≤ 8 := by
        show 2 * 0 + _ ≤ 8
        have := Nat.le_of_ble_eq_true hb8.2
        rw [csum_cv]; omega
      have hstk : st.map (cv G.2.2.2) = (((st.take μ2.2.2.2.2.2.2).reverse).map (cv G.2.2.2)).reverse ++ (st.drop μ2.2.2.2.2.2.2).map (cv G.2.2.2) := by
        rw [← List.map_reverse, List.reverse_reverse, ← List.map_append, List.take_append_drop]
      have fin : ∀ (v : Option Value) (M2 : PM) (H1 : Heap) (locs1 : List Loc), K (pc + 3) L (v.toList ++ st.drop μ2.2.2.2.2.2.2) M2 → va_P G.2.1 cls (pws G.2.2.2 G.2.2.1 M2) H1 → va_S (AA G.2.2.2) s.heap H1 locs1 → W p G.1 e (rmd (d + 1)) s m args below meth c H1 locs1 0 0 (MQ below (Qp G Post) args s 0 0 (AA G.2.2.2)) (F0 m (pc + 3) ls ((v.map (cv G.2.2.2)).toList ++ (st.drop μ2.2.2.2.2.2.2).map (cv G.2.2.2))) := by
        intro v M2 H1 locs1 hp hP1 hS1
        have h9 := hK _ _ _ _ hp p e s m args below meth c H1 locs1 ls hx hb hml hr hk hown hts hW hP1 hS1 hl
        rw [List.map_append] at h9
        cases v <;> exact h9
      rcases h12 with rfl | rfl
      · exact x_back (va_runS (As := ((st.take μ2.2.2.2.2.2.2).reverse).map (cv G.2.2.2)) (rest := (st.drop μ2.2.2.2.2.2.2).map (cv G.2.2.2)) (bytes := μ2.2.2.1) (maxL := μ2.2.2.2.1) (ret := μ2.2.2.2.2.1) (n := μ2.2.2.2.2.2.2) (own := nmo μ.1) ⟨hx, hb, hml, hown, hts⟩ hM ⟨x_calledB (p := p) hts hm (hts _ hok), hts _ hlast⟩ hpre rfl (by rw [List.length_map, List.length_reverse]; exact hlen) hl.1 hstk hrest hd ⟨Nat.le_refl _, Nat.le_refl _⟩) hS fin
      · obtain ⟨hn1, hn2⟩ := hnest μ2 hc
        have hnw : va_Nw (.methodLinkNest (nmo μ.1) idx μ2.2.1 "SeesawPark") s := by
          rcases hn1 with ⟨z1, z2⟩ | ⟨z1, z2⟩
          · rw [z1, z2, hn2]; exact hW.2.2.2.2.2.2.2
          · rw [z1, z2, hn2]; exact hW.2.2.2.2.2.2.1
        have cw := va_cnB (R := rmd (d + 1)) (own := nmo μ.1) (host := "SeesawPark") (index := idx) (maxL := μ2.2.2.2.1) (mc := 0) (ms := 0) (y := μ2.2.1) (bytes := μ2.2.2.1) (ret := μ2.2.2.2.2.1) (ws := mcode μ2 :: gw) (rm := rmd d) μ2.2.2.2.2.2.2 hts (gw_in hm) rfl rfl rfl hnw (hts _ hm.2.1) hm.2.2.2.1 ⟨Nat.le_refl _, by have := hm.2.2.2.2.1; show 8 + (μ2.2.2.2.1 + 11) + 64 * d ≤ 64 * (d + 1); omega⟩
        exact x_back (va_runSN (As := ((st.take μ2.2.2.2.2.2.2).reverse).map (cv G.2.2.2)) (rest := (st.drop μ2.2.2.2.2.2.2).map (cv G.2.2.2)) (bytes := μ2.2.2.1) (maxL := μ2.2.2.2.1) (ret := μ2.2.2.2.2.1) (n := μ2.2.2.2.2.2.2) (own := nmo μ.1) ⟨hx, hb, hml, hown, hts⟩ hM ⟨cw, hts _ hlast, trivial⟩ hpre rfl (by rw [List.length_map, List.length_reverse]; exact hlen) hl.1 hstk hrest hd ⟨Nat.le_refl _, Nat.le_refl _⟩) hS fin
    have hcat : ∀ r : List Value, Nat.ble (csum r) 8 = true → ((r.map (cv G.2.2.2)).map fun v => v.category).sum + 13 ≤ (rmd (d + 1)).locals := by
      intro r h8
      have := Nat.le_of_ble_eq_true h8
      rw [csum_cv]
      show _ ≤ 64 * (d + 1)
      omega
    have hml2 : c.maxLocals = ls.size := hml.trans hl.1.symm
    match kd, hok, h, plain, hkd _ hc with
    | 0, _, h, _, _ => exact h.elim
    | 1, _, h, plain, _ => exact plain h (Or.inl rfl)
    | 2, _, h, plain, _ => exact plain h (Or.inr rfl)
    | 3, hok, h, _, _ =>
      obtain ⟨a, b, sp, dp, n, r, rfl, h0⟩ := ac5_inv h
      obtain ⟨h8, h1⟩ := gd_inv h0
      obtain ⟨n0, n1, hs1, hs2, ⟨k1, k2, k3, k4, k5⟩, h4⟩ := ar2_inv h1
      refine va_copyi hx hb hml2 hown (hts _ hok.1) (hts _ hok.2.1) (hts _ hok.2.2.1) (hts _ hok.2.2.2) hW.1 hP (pws_D hW.2.1) hS a b 0 0 (pws_arr hs1 (by decide)) (pws_arr hs2 (by decide)) rfl rfl rfl k1 k2 k3 k4 k5 (fun _ _ => rfl) (by show 1 ≤ d + 1; omega) (by have := Nat.le_of_ble_eq_true h8; rw [csum_cv]; show csum r + 18 ≤ 64 * (d + 1); omega) hd (fun H1 locs1 hP1 hD1 hS1 => ?_)
      rw [pws_set (M := M) (ad := G.2.2.2) (cA := G.2.2.1) hs2 (M' := (va_up M.1 b (va_cpy (M.1 a) (M.1 b) sp.toNatClampNeg dp.toNatClampNeg n.toNatClampNeg), M.2)) (fun q hq => ⟨by simp [va_up, hq], rfl⟩) (by simp [pce, va_up])] at hP1
      exact hK _ _ _ _ h4 p e s m args below meth c H1 locs1 ls hx hb hml hr hk hown hts hW hP1 hS1 hl
    | 4, hok, h, _, _ =>
      obtain ⟨x, r, rfl, h1⟩ := p1_inv h
      obtain ⟨h8, h2⟩ := gd_inv h1
      exact va_mabs hx hb hml2 hown (hts _ hok) (hts _ mt_abs_s) (hts _ hini) (hts _ mt_abs_c) (by show 1 ≤ d + 1; omega) (hcat r h8) (Nat.le_refl _) (Nat.le_refl _) hd (hK _ _ _ _ (h2) p e s m args below meth c H locs ls hx hb hml hr hk hown hts hW hP hS hl)
    | 5, hok, h, _, _ =>
      obtain ⟨x, y, r, rfl, h1⟩ := p2_inv h
      obtain ⟨h8, h2⟩ := gd_inv h1
      exact va_mmax hx hb hml2 hown (hts _ hok) (hts _ mt_max_s) (hts _ hini) (hts _ mt_max_c) (by show 1 ≤ d + 1; omega) (hcat r h8) (Nat.le_refl _) (Nat.le_refl _) hd (hK _ _ _ _ (h2) p e s m args below meth c H locs ls hx hb hml hr hk hown hts hW hP hS hl)
    | 6, hok, h, _, _ =>
      obtain ⟨x, y, r, rfl, h1⟩ := p2_inv h
      obtain ⟨h8, h2⟩ := gd_inv h1
      exact va_mmin hx hb hml2 hown (hts _ hok) (hts _ mt_min_s) (hts _ hini) (hts _ mt_min_c) (by show 1 ≤ d + 1; omega) (hcat r h8) (Nat.le_refl _) (Nat.le_refl _) hd (hK _ _ _ _ (h2) p e s m args below meth c H locs ls hx hb hml hr hk hown hts hW hP hS hl)
    | n + 7, _, _, _, h7 => exact absurd h7 (by show ¬ n + 7 ≤ 6; omega)
end X4
end
section
def rchk (own pc : Nat) (i : Instr) (ln : Nat) (tg : List Nat) (kv : Int32) : Bool := match i with
  | .iconst n => Nat.beq ln 1 && decide (Int32.ofInt n = kv)
  | .bipush n => Nat.beq ln 2 && decide ((Int8.ofInt n).toInt32 = kv)
  | .sipush n => Nat.beq ln 3 && decide ((Int16.ofInt n).toInt32 = kv)
  | .iinc _ n => Nat.beq ln 3 && decide (Int32.ofInt n = kv)
  | .ifCond _ f => Nat.beq ln 3 && decide ((pc : Int) + f = ((tg.getD 0 0 : Nat) : Int))
  | .if_icmp _ f => Nat.beq ln 3 && decide ((pc : Int) + f = ((tg.getD 0 0 : Nat) : Int))
  | .goto f => Nat.beq ln 3 && decide ((pc : Int) + f = ((tg.getD 0 0 : Nat) : Int))
  | .tableswitch df lo hi os => decide (tg.map (fun t : Nat => (t : Int) - (pc : Int)) = df :: os.toList) && decide ((os.size : Int) = hi - lo + 1)
  | .invokestatic idx => Nat.beq ln 3 && (match callee own idx with | some (μ2, kd) => Nat.ble kd 6 && (!(Nat.beq kd 2) || decide ((own = 0 ∧ idx = 45 ∨ own = 1 ∧ idx = 27) ∧ μ2.2.1 = y_seat)) | none => true)
  | .iload _ => Nat.beq ln 2
  | .lload _ => Nat.beq ln 2
  | .istore _ => Nat.beq ln 2
  | .lstore _ => Nat.beq ln 2
  | .ldc _ => Nat.beq ln 2
  | .getfield _ => Nat.beq ln 3
  | .putfield _ => Nat.beq ln 3
  | .getstatic _ => Nat.beq ln 3
  | .ldc_w _ => Nat.beq ln 3
  | .ldc2_w _ => Nat.beq ln 3
  | .invokevirtual _ => Nat.beq ln 3
  | _ => Nat.beq ln 1
theorem st1_ok {G : GG} {d : Nat} {μ : Mth} {Post : Option Value → PM → Prop} {K : KK} (hK : HK G d μ Post K) (hm : mok μ) {pc : Nat} {L : List (Option Value)} {st : List Value} {M : PM} {i : Instr} {ln : Nat} {tg : List Nat} {kv : Int32} (hd : decode μ.2.2.1 pc = .ok (i, ln)) (hc : rchk μ.1 pc i ln tg kv = true) (h : st1 G d μ Post i tg kv pc L st M K) : PX G d μ Post pc L st M := by
  cases i with
  | lload_n k => have e1 := Nat.eq_of_beq_eq_true hc; subst e1; exact x_lload_n hK hd h
  | iload_n k => have e1 := Nat.eq_of_beq_eq_true hc; subst e1; exact x_iload_n hK hd h
  | aload_n k => have e1 := Nat.eq_of_beq_eq_true hc; subst e1; exact x_aload_n hK hd h
  | istore_n k => have e1 := Nat.eq_of_beq_eq_true hc; subst e1; exact x_istore_n hK hd h
  | astore_n k => have e1 := Nat.eq_of_beq_eq_true hc; subst e1; exact x_astore_n hK hd h
  | lstore_n k => have e1 := Nat.eq_of_beq_eq_true hc; subst e1; exact x_lstore_n hK hd h
  | lconst k => have e1 := Nat.eq_of_beq_eq_true hc; subst e1; exact x_lconst hK hd h
  | iadd => have e1 := Nat.eq_of_beq_eq_true hc; subst e1; exact x_iadd hK hd h
  | isub => have e1 := Nat.eq_of_beq_eq_true hc; subst e1; exact x_isub hK hd h
  | imul => have e1 := Nat.eq_of_beq_eq_true hc; subst e1; exact x_imul hK hd h
  | ishl => have e1 := Nat.eq_of_beq_eq_true hc; subst e1; exact x_ishl hK hd h
  | ishr => have e1 := Nat.eq_of_beq_eq_true hc; subst e1; exact x_ishr hK hd h
  | iand => have e1 := Nat.eq_of_beq_eq_true hc; subst e1; exact x_iand hK hd h
  | ior => have e1 := Nat.eq_of_beq_eq_true hc; subst e1; exact x_ior hK hd h
  | ixor => have e1 := Nat.eq_of_beq_eq_true hc; subst e1; exact x_ixor hK hd h
  | idiv => have e1 := Nat.eq_of_beq_eq_true hc; subst e1; exact x_idiv hK hd h
  | irem => have e1 := Nat.eq_of_beq_eq_true hc; subst e1; exact x_irem hK hd h
  | iushr => have e1 := Nat.eq_of_beq_eq_true hc; subst e1; exact x_iushr hK hd h
  | ineg => have e1 := Nat.eq_of_beq_eq_true hc; subst e1; exact x_ineg hK hd h
  | i2c => have e1 := Nat.eq_of_beq_eq_true hc; subst e1; exact x_i2c hK hd h
  | i2l => have e1 := Nat.eq_of_beq_eq_true hc; subst e1; exact x_i2l hK hd h
  | l2i => have e1 := Nat.eq_of_beq_eq_true hc; subst e1; exact x_l2i hK hd h
  | ladd => have e1 := Nat.eq_of_beq_eq_true hc; subst e1; exact x_ladd hK hd h
  | lmul => have e1 := Nat.eq_of_beq_eq_true hc; subst e1; exact x_lmul hK hd h
  | land => have e1 := Nat.eq_of_beq_eq_true hc; subst e1; exact x_land hK hd h
  | lor => have e1 := Nat.eq_of_beq_eq_true hc; subst e1; exact x_lor hK hd h
  | lshl => have e1 := Nat.eq_of_beq_eq_true hc; subst e1; exact x_lshl hK hd h
  | lshr => have e1 := Nat.eq_of_beq_eq_true hc; subst e1; exact x_lshr hK hd h
  | lushr => have e1 := Nat.eq_of_beq_eq_true hc; subst e1; exact x_lushr hK hd h
  | lcmp => have e1 := Nat.eq_of_beq_eq_true hc; subst e1; exact x_lcmp hK hd h
  | dup => have e1 := Nat.eq_of_beq_eq_true hc; subst e1; exact x_dup hK hd h
  | pop => have e1 := Nat.eq_of_beq_eq_true hc; subst e1; exact x_pop hK hd h
  | dup2 => have e1 := Nat.eq_of_beq_eq_true hc; subst e1; exact x_dup2 hK hd h
  | iaload => have e1 := Nat.eq_of_beq_eq_true hc; subst e1; exact x_iaload hK hd h
  | baload => have e1 := Nat.eq_of_beq_eq_true hc; subst e1; exact x_baload hK hd h
  | laload => have e1 := Nat.eq_of_beq_eq_true hc; subst e1; exact x_laload hK hd h
  | iastore => have e1 := Nat.eq_of_beq_eq_true hc; subst e1; exact x_iastore hK hd h
  | bastore => have e1 := Nat.eq_of_beq_eq_true hc; subst e1; exact x_bastore hK hd h
  | lastore => have e1 := Nat.eq_of_beq_eq_true hc; subst e1; exact x_lastore hK hd h
  | arraylength => have e1 := Nat.eq_of_beq_eq_true hc; subst e1; exact x_arraylength hK hd h
  | iload k => have e1 := Nat.eq_of_beq_eq_true hc; subst e1; exact x_iload hK hd h
  | lload k => have e1 := Nat.eq_of_beq_eq_true hc; subst e1; exact x_lload hK hd h
  | istore k => have e1 := Nat.eq_of_beq_eq_true hc; subst e1; exact x_istore hK hd h
  | lstore k => have e1 := Nat.eq_of_beq_eq_true hc; subst e1; exact x_lstore hK hd h
  | ldc k => have e1 := Nat.eq_of_beq_eq_true hc; subst e1; exact x_ldc hK hd h
  | getstatic k => have e1 := Nat.eq_of_beq_eq_true hc; subst e1; exact x_getstatic hK hd h
  | ldc_w k => have e1 := Nat.eq_of_beq_eq_true hc; subst e1; exact x_ldc_w hK hd h
  | ldc2_w k => have e1 := Nat.eq_of_beq_eq_true hc; subst e1; exact x_ldc2_w hK hd h
  | invokevirtual k => have e1 := Nat.eq_of_beq_eq_true hc; subst e1; exact x_invokevirtual hK hd h
  | iconst n => simp only [rchk, Bool.and_eq_true, decide_eq_true_eq] at hc; have e1 := Nat.eq_of_beq_eq_true hc.1; subst e1; exact x_iconst hK hc.2 hd h
  | bipush n => simp only [rchk, Bool.and_eq_true, decide_eq_true_eq] at hc; have e1 := Nat.eq_of_beq_eq_true hc.1; subst e1; exact x_bipush hK hc.2 hd h
  | sipush n => simp only [rchk, Bool.and_eq_true, decide_eq_true_eq] at hc; have e1 := Nat.eq_of_beq_eq_true hc.1; subst e1; exact x_sipush hK hc.2 hd h
  | iinc k n => simp only [rchk, Bool.and_eq_true, decide_eq_true_eq] at hc; have e1 := Nat.eq_of_beq_eq_true hc.1; subst e1; exact x_iinc hK hc.2 hd h
  | ifCond cc f => simp only [rchk, Bool.and_eq_true, decide_eq_true_eq] at hc; have e1 := Nat.eq_of_beq_eq_true hc.1; subst e1; exact x_ifCond hK hc.2 hd h
  | if_icmp cc f => simp only [rchk, Bool.and_eq_true, decide_eq_true_eq] at hc; have e1 := Nat.eq_of_beq_eq_true hc.1; subst e1; exact x_if_icmp hK hc.2 hd h
  | goto f => simp only [rchk, Bool.and_eq_true, decide_eq_true_eq] at hc; have e1 := Nat.eq_of_beq_eq_true hc.1; subst e1; exact x_goto hK hc.2 hd h
  | tableswitch df lo hi os => simp only [rchk, Bool.and_eq_true, decide_eq_true_eq] at hc; exact x_tableswitch hK hc.1 hc.2 hd h
  | getfield k => have e1 := Nat.eq_of_beq_eq_true hc; subst e1; exact x_getfield hK hd h hm
  | ireturn => have e1 := Nat.eq_of_beq_eq_true hc; subst e1; exact x_ireturn hd h
  | lreturn => have e1 := Nat.eq_of_beq_eq_true hc; subst e1; exact x_lreturn hd h
  | areturn => have e1 := Nat.eq_of_beq_eq_true hc; subst e1; exact x_areturn hd h
  | return_ => have e1 := Nat.eq_of_beq_eq_true hc; subst e1; exact x_return hd h
  | putfield idx =>
    have e1 := Nat.eq_of_beq_eq_true hc; subst e1
    simp only [st1] at h
    split at h
    · rename_i v a r
      cases hf : fld μ.1 idx a with
      | none => rw [hf] at h; exact h.elim
      | some q =>
        obtain ⟨ci, k, kd, rp⟩ := q
        rw [hf] at h
        obtain ⟨h1, h2⟩ := gd_inv h
        have h1 : ((fcl ci).2.1 k).2.2.2 = false := by simpa using h1
        match kd, hf, h2 with
        | 0, hf, h2 => exact x_putI hK hd hf h1 (Or.inl rfl) h2
        | 3, hf, h2 => exact x_putI hK hd hf h1 (Or.inr ⟨rfl, h2.1⟩) h2.2
        | 1, _, h2 => exact h2.elim
        | 2, _, h2 => exact h2.elim
        | n + 4, _, h2 => exact h2.elim
    · rename_i v a r
      cases hf : fld μ.1 idx a with
      | none => rw [hf] at h; exact h.elim
      | some q =>
        obtain ⟨ci, k, kd, rp⟩ := q
        rw [hf] at h
        obtain ⟨h1, h2⟩ := gd_inv h
        have h1 : ((fcl ci).2.1 k).2.2.2 = false := by simpa using h1
        match kd, hf, h2 with
        | 1, hf, h2 => exact x_putL hK hd hf h1 h2
        | 0, _, h2 => exact h2.elim
        | 2, _, h2 => exact h2.elim
        | n + 3, _, h2 => exact h2.elim
    · exact h.elim
  | invokestatic idx =>
    simp only [rchk, Bool.and_eq_true] at hc
    have e1 := Nat.eq_of_beq_eq_true hc.1; subst e1
    refine x_invokestatic hK hd h (fun μ2 hq => ?_) (fun q hq => ?_)
    · have h2 := hc.2
      rw [hq] at h2
      simp at h2
      exact h2
    · have h2 := hc.2
      obtain ⟨μ2, kd⟩ := q
      rw [hq] at h2
      simp only [Bool.and_eq_true] at h2
      exact Nat.le_of_ble_eq_true h2.1
  | _ => exact h.elim
abbrev Row : Type := Nat × Instr × Nat × List Nat × Int32
def tbok (μ : Mth) (tb : List Row) : Bool := tb.all fun q => decide (decode μ.2.2.1 q.1 = .ok (q.2.1, q.2.2.1)) && rchk μ.1 q.1 q.2.1 q.2.2.1 q.2.2.2.1 q.2.2.2.2
/-- all the steps up to a cut, as one precondition -/
def wp (G : GG) (d : Nat) (μ : Mth) (Post : Option Value → PM → Prop) (tb : List Row) (cut : Nat → Bool) (K : KK) : Nat → KK
  | 0 => K
  | n + 1 => fun pc L st M => match lkp tb pc with
    | none => False
    | some (i, _, tg, kv) => st1 G d μ Post i tg kv pc L st M (fun pc2 L2 st2 M2 => bif cut pc2 then K pc2 L2 st2 M2 else wp G d μ Post tb cut K n pc2 L2 st2 M2)
theorem wp_ok {G : GG} {d : Nat} {μ : Mth} {Post : Option Value → PM → Prop} {tb : List Row} (cut : Nat → Bool) (hm : mok μ) (ht : tbok μ tb = true) : ∀ (n pc : Nat) (L : List (Option Value)) (st : List Value) (M : PM), wp G d μ Post tb cut (PX G d μ Post) n pc L st M → PX G d μ Post pc L st M
  | 0, _, _, _, _, h => h
  | n + 1, pc, L, st, M, h => by
    unfold wp at h
    cases hl : lkp tb pc with
    | none => rw [hl] at h; exact h.elim
    | some q =>
      obtain ⟨i, ln, tg, kv⟩ := q
      rw [hl] at h
      have h1 := List.all_eq_true.mp ht _ (lkp_mem hl)
      simp only [Bool.and_eq_true, decide_eq_true_eq] at h1
      refine st1_ok (fun pc2 L2 st2 M2 h2 => ?_) hm h1.1 h1.2 h
      cases hq : cut pc2 with
      | true => rw [hq] at h2; exact h2
      | false => rw [hq] at h2; exact wp_ok cut hm ht n pc2 L2 st2 M2 h2
end
