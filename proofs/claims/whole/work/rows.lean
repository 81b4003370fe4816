section
-- ===== PART A: goes FIRST, ahead of the names: the tables' words, and 'selects' of the private methods out of them =====
/-- a private method of a class that the tables say can be made, by its rows of tables_1 -/
def lw_okq (q : MethodName × Nat) : Prop := (q.1.cls ≠ "java/lang/invoke/MethodHandle" ∧ q.1.cls ≠ "java/lang/invoke/VarHandle") ∧ Cond.instantiable q.1.cls q.2 ∈ tables_1 ∧ Cond.privateMethod q.1 ∈ tables_1 ∧ Cond.instanceMethod q.1 ∈ tables_1
theorem lw_p0 : lw_okq (⟨"SeesawPark$Told", "readToken", "()V"⟩, 7) := ⟨⟨by decide +kernel, by decide +kernel⟩, List.mem_of_getElem? (i := 124) (by decide +kernel), List.mem_of_getElem? (i := 352) (by decide +kernel), List.mem_of_getElem? (i := 353) (by decide +kernel)⟩
theorem lw_p1 : lw_okq (⟨"SeesawPark$Told", "readWord", "()V"⟩, 7) := ⟨⟨by decide +kernel, by decide +kernel⟩, List.mem_of_getElem? (i := 124) (by decide +kernel), List.mem_of_getElem? (i := 359) (by decide +kernel), List.mem_of_getElem? (i := 360) (by decide +kernel)⟩
theorem lw_p2 : lw_okq (⟨"SeesawPark$Told", "spells", "(Ljava/lang/String;)Z"⟩, 7) := ⟨⟨by decide +kernel, by decide +kernel⟩, List.mem_of_getElem? (i := 124) (by decide +kernel), List.mem_of_getElem? (i := 364) (by decide +kernel), List.mem_of_getElem? (i := 365) (by decide +kernel)⟩
theorem lw_p3 : lw_okq (⟨"SeesawPark$Told", "readDigits", "()V"⟩, 7) := ⟨⟨by decide +kernel, by decide +kernel⟩, List.mem_of_getElem? (i := 124) (by decide +kernel), List.mem_of_getElem? (i := 421) (by decide +kernel), List.mem_of_getElem? (i := 422) (by decide +kernel)⟩
theorem lw_p4 : lw_okq (⟨"SeesawPark$Told", "readPlank", "()Z"⟩, 7) := ⟨⟨by decide +kernel, by decide +kernel⟩, List.mem_of_getElem? (i := 124) (by decide +kernel), List.mem_of_getElem? (i := 428) (by decide +kernel), List.mem_of_getElem? (i := 429) (by decide +kernel)⟩
theorem lw_p5 : lw_okq (⟨"SeesawPark$Told", "readNumber", "(II)Z"⟩, 7) := ⟨⟨by decide +kernel, by decide +kernel⟩, List.mem_of_getElem? (i := 124) (by decide +kernel), List.mem_of_getElem? (i := 432) (by decide +kernel), List.mem_of_getElem? (i := 433) (by decide +kernel)⟩
theorem lw_p6 : lw_okq (⟨"SeesawPark$Told", "readSemicolon", "()Z"⟩, 7) := ⟨⟨by decide +kernel, by decide +kernel⟩, List.mem_of_getElem? (i := 124) (by decide +kernel), List.mem_of_getElem? (i := 436) (by decide +kernel), List.mem_of_getElem? (i := 437) (by decide +kernel)⟩
theorem lw_p7 : lw_okq (⟨"SeesawPark$Told", "readChild", "()Z"⟩, 7) := ⟨⟨by decide +kernel, by decide +kernel⟩, List.mem_of_getElem? (i := 124) (by decide +kernel), List.mem_of_getElem? (i := 440) (by decide +kernel), List.mem_of_getElem? (i := 441) (by decide +kernel)⟩
theorem lw_p8 : lw_okq (⟨"SeesawPark$Told", "readStone", "()Z"⟩, 7) := ⟨⟨by decide +kernel, by decide +kernel⟩, List.mem_of_getElem? (i := 124) (by decide +kernel), List.mem_of_getElem? (i := 444) (by decide +kernel), List.mem_of_getElem? (i := 445) (by decide +kernel)⟩
theorem lw_p9 : lw_okq (⟨"SeesawPark$Scene", "settle", "(II)I"⟩, 7) := ⟨⟨by decide +kernel, by decide +kernel⟩, List.mem_of_getElem? (i := 91) (by decide +kernel), List.mem_of_getElem? (i := 529) (by decide +kernel), List.mem_of_getElem? (i := 530) (by decide +kernel)⟩
theorem lw_p10 : lw_okq (⟨"SeesawPark", "askWays", "(II)V"⟩, 11) := ⟨⟨by decide +kernel, by decide +kernel⟩, List.mem_of_getElem? (i := 20) (by decide +kernel), List.mem_of_getElem? (i := 572) (by decide +kernel), List.mem_of_getElem? (i := 573) (by decide +kernel)⟩
theorem lw_p11 : lw_okq (⟨"SeesawPark$Seating", "measureReach", "()V"⟩, 10) := ⟨⟨by decide +kernel, by decide +kernel⟩, List.mem_of_getElem? (i := 157) (by decide +kernel), List.mem_of_getElem? (i := 596) (by decide +kernel), List.mem_of_getElem? (i := 597) (by decide +kernel)⟩
theorem lw_p12 : lw_okq (⟨"SeesawPark$Seating", "countFrom", "(III)I"⟩, 10) := ⟨⟨by decide +kernel, by decide +kernel⟩, List.mem_of_getElem? (i := 157) (by decide +kernel), List.mem_of_getElem? (i := 600) (by decide +kernel), List.mem_of_getElem? (i := 601) (by decide +kernel)⟩
theorem lw_p13 : lw_okq (⟨"SeesawPark$Seating", "isHopeless", "(II)Z"⟩, 10) := ⟨⟨by decide +kernel, by decide +kernel⟩, List.mem_of_getElem? (i := 157) (by decide +kernel), List.mem_of_getElem? (i := 604) (by decide +kernel), List.mem_of_getElem? (i := 605) (by decide +kernel)⟩
theorem lw_p14 : lw_okq (⟨"SeesawPark$Seating", "findFrom", "(III)Z"⟩, 10) := ⟨⟨by decide +kernel, by decide +kernel⟩, List.mem_of_getElem? (i := 157) (by decide +kernel), List.mem_of_getElem? (i := 613) (by decide +kernel), List.mem_of_getElem? (i := 614) (by decide +kernel)⟩
theorem lw_p15 : lw_okq (⟨"SeesawPark$Crowd", "addSeatOf", "(LSeesawPark$Roster;II)V"⟩, 1) := ⟨⟨by decide +kernel, by decide +kernel⟩, List.mem_of_getElem? (i := 194) (by decide +kernel), List.mem_of_getElem? (i := 634) (by decide +kernel), List.mem_of_getElem? (i := 635) (by decide +kernel)⟩
def lw_privs_1 : List (MethodName × Nat) := [(⟨"SeesawPark$Told", "readToken", "()V"⟩, 7), (⟨"SeesawPark$Told", "readWord", "()V"⟩, 7), (⟨"SeesawPark$Told", "spells", "(Ljava/lang/String;)Z"⟩, 7), (⟨"SeesawPark$Told", "readDigits", "()V"⟩, 7), (⟨"SeesawPark$Told", "readPlank", "()Z"⟩, 7), (⟨"SeesawPark$Told", "readNumber", "(II)Z"⟩, 7), (⟨"SeesawPark$Told", "readSemicolon", "()Z"⟩, 7), (⟨"SeesawPark$Told", "readChild", "()Z"⟩, 7), (⟨"SeesawPark$Told", "readStone", "()Z"⟩, 7), (⟨"SeesawPark$Scene", "settle", "(II)I"⟩, 7), (⟨"SeesawPark", "askWays", "(II)V"⟩, 11), (⟨"SeesawPark$Seating", "measureReach", "()V"⟩, 10), (⟨"SeesawPark$Seating", "countFrom", "(III)I"⟩, 10), (⟨"SeesawPark$Seating", "isHopeless", "(II)Z"⟩, 10), (⟨"SeesawPark$Seating", "findFrom", "(III)Z"⟩, 10), (⟨"SeesawPark$Crowd", "addSeatOf", "(LSeesawPark$Roster;II)V"⟩, 1)]
theorem lw_r1 : ∀ q ∈ lw_privs_1, lw_okq q := List.forall_mem_cons.mpr ⟨lw_p0, List.forall_mem_cons.mpr ⟨lw_p1, List.forall_mem_cons.mpr ⟨lw_p2, List.forall_mem_cons.mpr ⟨lw_p3, List.forall_mem_cons.mpr ⟨lw_p4, List.forall_mem_cons.mpr ⟨lw_p5, List.forall_mem_cons.mpr ⟨lw_p6, List.forall_mem_cons.mpr ⟨lw_p7, List.forall_mem_cons.mpr ⟨lw_p8, List.forall_mem_cons.mpr ⟨lw_p9, List.forall_mem_cons.mpr ⟨lw_p10, List.forall_mem_cons.mpr ⟨lw_p11, List.forall_mem_cons.mpr ⟨lw_p12, List.forall_mem_cons.mpr ⟨lw_p13, List.forall_mem_cons.mpr ⟨lw_p14, List.forall_mem_cons.mpr ⟨lw_p15, fun _ h => absurd h List.not_mem_nil⟩⟩⟩⟩⟩⟩⟩⟩⟩⟩⟩⟩⟩⟩⟩⟩
theorem lw_p16 : lw_okq (⟨"SeesawPark$Crowd", "mergeShifted", "(III)V"⟩, 1) := ⟨⟨by decide +kernel, by decide +kernel⟩, List.mem_of_getElem? (i := 194) (by decide +kernel), List.mem_of_getElem? (i := 638) (by decide +kernel), List.mem_of_getElem? (i := 639) (by decide +kernel)⟩
theorem lw_p17 : lw_okq (⟨"SeesawPark$Crowd", "wordAt", "(II)J"⟩, 1) := ⟨⟨by decide +kernel, by decide +kernel⟩, List.mem_of_getElem? (i := 194) (by decide +kernel), List.mem_of_getElem? (i := 642) (by decide +kernel), List.mem_of_getElem? (i := 643) (by decide +kernel)⟩
theorem lw_p18 : lw_okq (⟨"SeesawPark$Crowd", "canLevel", "(III)Z"⟩, 1) := ⟨⟨by decide +kernel, by decide +kernel⟩, List.mem_of_getElem? (i := 194) (by decide +kernel), List.mem_of_getElem? (i := 651) (by decide +kernel), List.mem_of_getElem? (i := 652) (by decide +kernel)⟩
theorem lw_p19 : lw_okq (⟨"SeesawPark$Seating", "changeFrom", "(IIII)V"⟩, 10) := ⟨⟨by decide +kernel, by decide +kernel⟩, List.mem_of_getElem? (i := 157) (by decide +kernel), List.mem_of_getElem? (i := 666) (by decide +kernel), List.mem_of_getElem? (i := 667) (by decide +kernel)⟩
theorem lw_p20 : lw_okq (⟨"SeesawPark", "leastBallast", "(I)I"⟩, 11) := ⟨⟨by decide +kernel, by decide +kernel⟩, List.mem_of_getElem? (i := 20) (by decide +kernel), List.mem_of_getElem? (i := 674) (by decide +kernel), List.mem_of_getElem? (i := 675) (by decide +kernel)⟩
theorem lw_p21 : lw_okq (⟨"SeesawPark", "canBallast", "(II)Z"⟩, 11) := ⟨⟨by decide +kernel, by decide +kernel⟩, List.mem_of_getElem? (i := 20) (by decide +kernel), List.mem_of_getElem? (i := 682) (by decide +kernel), List.mem_of_getElem? (i := 683) (by decide +kernel)⟩
theorem lw_p22 : lw_okq (⟨"SeesawPark$Contest", "moveFrom", "(IIII)I"⟩, 5) := ⟨⟨by decide +kernel, by decide +kernel⟩, List.mem_of_getElem? (i := 205) (by decide +kernel), List.mem_of_getElem? (i := 705) (by decide +kernel), List.mem_of_getElem? (i := 706) (by decide +kernel)⟩
theorem lw_p23 : lw_okq (⟨"SeesawPark$Weighing", "survey", "()V"⟩, 10) := ⟨⟨by decide +kernel, by decide +kernel⟩, List.mem_of_getElem? (i := 227) (by decide +kernel), List.mem_of_getElem? (i := 738) (by decide +kernel), List.mem_of_getElem? (i := 739) (by decide +kernel)⟩
theorem lw_p24 : lw_okq (⟨"SeesawPark$Weighing", "guessFrom", "(I)V"⟩, 10) := ⟨⟨by decide +kernel, by decide +kernel⟩, List.mem_of_getElem? (i := 227) (by decide +kernel), List.mem_of_getElem? (i := 745) (by decide +kernel), List.mem_of_getElem? (i := 746) (by decide +kernel)⟩
theorem lw_p25 : lw_okq (⟨"SeesawPark$Weighing", "guessFits", "()Z"⟩, 10) := ⟨⟨by decide +kernel, by decide +kernel⟩, List.mem_of_getElem? (i := 227) (by decide +kernel), List.mem_of_getElem? (i := 749) (by decide +kernel), List.mem_of_getElem? (i := 750) (by decide +kernel)⟩
theorem lw_p26 : lw_okq (⟨"SeesawPark$Weighing", "tally", "()V"⟩, 10) := ⟨⟨by decide +kernel, by decide +kernel⟩, List.mem_of_getElem? (i := 227) (by decide +kernel), List.mem_of_getElem? (i := 754) (by decide +kernel), List.mem_of_getElem? (i := 755) (by decide +kernel)⟩
theorem lw_p27 : lw_okq (⟨"SeesawPark$Queue", "joinRow", "(I)V"⟩, 6) := ⟨⟨by decide +kernel, by decide +kernel⟩, List.mem_of_getElem? (i := 266) (by decide +kernel), List.mem_of_getElem? (i := 798) (by decide +kernel), List.mem_of_getElem? (i := 799) (by decide +kernel)⟩
theorem lw_p28 : lw_okq (⟨"SeesawPark$Queue", "letOff", "(I)V"⟩, 6) := ⟨⟨by decide +kernel, by decide +kernel⟩, List.mem_of_getElem? (i := 266) (by decide +kernel), List.mem_of_getElem? (i := 802) (by decide +kernel), List.mem_of_getElem? (i := 803) (by decide +kernel)⟩
theorem lw_p29 : lw_okq (⟨"SeesawPark$Queue", "wantsMore", "(I)Z"⟩, 6) := ⟨⟨by decide +kernel, by decide +kernel⟩, List.mem_of_getElem? (i := 266) (by decide +kernel), List.mem_of_getElem? (i := 806) (by decide +kernel), List.mem_of_getElem? (i := 807) (by decide +kernel)⟩
theorem lw_p30 : lw_okq (⟨"SeesawPark$Queue", "letOn", "(I)V"⟩, 6) := ⟨⟨by decide +kernel, by decide +kernel⟩, List.mem_of_getElem? (i := 266) (by decide +kernel), List.mem_of_getElem? (i := 810) (by decide +kernel), List.mem_of_getElem? (i := 811) (by decide +kernel)⟩
theorem lw_p31 : lw_okq (⟨"SeesawPark$Queue", "leaveRow", "(I)V"⟩, 6) := ⟨⟨by decide +kernel, by decide +kernel⟩, List.mem_of_getElem? (i := 266) (by decide +kernel), List.mem_of_getElem? (i := 819) (by decide +kernel), List.mem_of_getElem? (i := 820) (by decide +kernel)⟩
def lw_privs_2 : List (MethodName × Nat) := [(⟨"SeesawPark$Crowd", "mergeShifted", "(III)V"⟩, 1), (⟨"SeesawPark$Crowd", "wordAt", "(II)J"⟩, 1), (⟨"SeesawPark$Crowd", "canLevel", "(III)Z"⟩, 1), (⟨"SeesawPark$Seating", "changeFrom", "(IIII)V"⟩, 10), (⟨"SeesawPark", "leastBallast", "(I)I"⟩, 11), (⟨"SeesawPark", "canBallast", "(II)Z"⟩, 11), (⟨"SeesawPark$Contest", "moveFrom", "(IIII)I"⟩, 5), (⟨"SeesawPark$Weighing", "survey", "()V"⟩, 10), (⟨"SeesawPark$Weighing", "guessFrom", "(I)V"⟩, 10), (⟨"SeesawPark$Weighing", "guessFits", "()Z"⟩, 10), (⟨"SeesawPark$Weighing", "tally", "()V"⟩, 10), (⟨"SeesawPark$Queue", "joinRow", "(I)V"⟩, 6), (⟨"SeesawPark$Queue", "letOff", "(I)V"⟩, 6), (⟨"SeesawPark$Queue", "wantsMore", "(I)Z"⟩, 6), (⟨"SeesawPark$Queue", "letOn", "(I)V"⟩, 6), (⟨"SeesawPark$Queue", "leaveRow", "(I)V"⟩, 6)]
theorem lw_r2 : ∀ q ∈ lw_privs_2, lw_okq q := List.forall_mem_cons.mpr ⟨lw_p16, List.forall_mem_cons.mpr ⟨lw_p17, List.forall_mem_cons.mpr ⟨lw_p18, List.forall_mem_cons.mpr ⟨lw_p19, List.forall_mem_cons.mpr ⟨lw_p20, List.forall_mem_cons.mpr ⟨lw_p21, List.forall_mem_cons.mpr ⟨lw_p22, List.forall_mem_cons.mpr ⟨lw_p23, List.forall_mem_cons.mpr ⟨lw_p24, List.forall_mem_cons.mpr ⟨lw_p25, List.forall_mem_cons.mpr ⟨lw_p26, List.forall_mem_cons.mpr ⟨lw_p27, List.forall_mem_cons.mpr ⟨lw_p28, List.forall_mem_cons.mpr ⟨lw_p29, List.forall_mem_cons.mpr ⟨lw_p30, List.forall_mem_cons.mpr ⟨lw_p31, fun _ h => absurd h List.not_mem_nil⟩⟩⟩⟩⟩⟩⟩⟩⟩⟩⟩⟩⟩⟩⟩⟩
theorem lw_p32 : lw_okq (⟨"SeesawPark$Queue", "rideOn", "()V"⟩, 6) := ⟨⟨by decide +kernel, by decide +kernel⟩, List.mem_of_getElem? (i := 266) (by decide +kernel), List.mem_of_getElem? (i := 823) (by decide +kernel), List.mem_of_getElem? (i := 824) (by decide +kernel)⟩
theorem lw_p33 : lw_okq (⟨"SeesawPark", "hasPartner", "(I)Z"⟩, 11) := ⟨⟨by decide +kernel, by decide +kernel⟩, List.mem_of_getElem? (i := 20) (by decide +kernel), List.mem_of_getElem? (i := 831) (by decide +kernel), List.mem_of_getElem? (i := 832) (by decide +kernel)⟩
theorem lw_p34 : lw_okq (⟨"SeesawPark", "rateAs", "(III)I"⟩, 11) := ⟨⟨by decide +kernel, by decide +kernel⟩, List.mem_of_getElem? (i := 20) (by decide +kernel), List.mem_of_getElem? (i := 840) (by decide +kernel), List.mem_of_getElem? (i := 841) (by decide +kernel)⟩
theorem lw_p35 : lw_okq (⟨"SeesawPark", "imageOf", "(I)LSeesawPark$Scene;"⟩, 11) := ⟨⟨by decide +kernel, by decide +kernel⟩, List.mem_of_getElem? (i := 20) (by decide +kernel), List.mem_of_getElem? (i := 852) (by decide +kernel), List.mem_of_getElem? (i := 853) (by decide +kernel)⟩
theorem lw_p36 : lw_okq (⟨"SeesawParkModel", "begins", "()V"⟩, 36) := ⟨⟨by decide +kernel, by decide +kernel⟩, List.mem_of_getElem? (i := 879) (by decide +kernel), List.mem_of_getElem? (i := 885) (by decide +kernel), List.mem_of_getElem? (i := 886) (by decide +kernel)⟩
theorem lw_p37 : lw_okq (⟨"SeesawParkModel", "advances", "()V"⟩, 36) := ⟨⟨by decide +kernel, by decide +kernel⟩, List.mem_of_getElem? (i := 879) (by decide +kernel), List.mem_of_getElem? (i := 1015) (by decide +kernel), List.mem_of_getElem? (i := 1016) (by decide +kernel)⟩
theorem lw_p38 : lw_okq (⟨"SeesawParkModel", "byteAt", "(I)I"⟩, 36) := ⟨⟨by decide +kernel, by decide +kernel⟩, List.mem_of_getElem? (i := 879) (by decide +kernel), List.mem_of_getElem? (i := 1019) (by decide +kernel), List.mem_of_getElem? (i := 1020) (by decide +kernel)⟩
theorem lw_p39 : lw_okq (⟨"SeesawParkModel", "isWell", "()Z"⟩, 36) := ⟨⟨by decide +kernel, by decide +kernel⟩, List.mem_of_getElem? (i := 879) (by decide +kernel), List.mem_of_getElem? (i := 1033) (by decide +kernel), List.mem_of_getElem? (i := 1034) (by decide +kernel)⟩
theorem lw_p40 : lw_okq (⟨"SeesawParkModel", "takes", "(Z)I"⟩, 36) := ⟨⟨by decide +kernel, by decide +kernel⟩, List.mem_of_getElem? (i := 879) (by decide +kernel), List.mem_of_getElem? (i := 1037) (by decide +kernel), List.mem_of_getElem? (i := 1038) (by decide +kernel)⟩
theorem lw_p41 : lw_okq (⟨"SeesawParkModel", "readsItem", "(I)V"⟩, 36) := ⟨⟨by decide +kernel, by decide +kernel⟩, List.mem_of_getElem? (i := 879) (by decide +kernel), List.mem_of_getElem? (i := 1041) (by decide +kernel), List.mem_of_getElem? (i := 1042) (by decide +kernel)⟩
theorem lw_p42 : lw_okq (⟨"SeesawParkModel", "number", "(II)I"⟩, 36) := ⟨⟨by decide +kernel, by decide +kernel⟩, List.mem_of_getElem? (i := 879) (by decide +kernel), List.mem_of_getElem? (i := 1045) (by decide +kernel), List.mem_of_getElem? (i := 1046) (by decide +kernel)⟩
theorem lw_p43 : lw_okq (⟨"SeesawParkModel", "isPlank", "(I)Z"⟩, 36) := ⟨⟨by decide +kernel, by decide +kernel⟩, List.mem_of_getElem? (i := 879) (by decide +kernel), List.mem_of_getElem? (i := 1053) (by decide +kernel), List.mem_of_getElem? (i := 1054) (by decide +kernel)⟩
theorem lw_p44 : lw_okq (⟨"SeesawParkModel", "momentOf", "(I)I"⟩, 36) := ⟨⟨by decide +kernel, by decide +kernel⟩, List.mem_of_getElem? (i := 879) (by decide +kernel), List.mem_of_getElem? (i := 1058) (by decide +kernel), List.mem_of_getElem? (i := 1059) (by decide +kernel)⟩
theorem lw_p45 : lw_okq (⟨"SeesawParkModel", "stonesOn", "(I)I"⟩, 36) := ⟨⟨by decide +kernel, by decide +kernel⟩, List.mem_of_getElem? (i := 879) (by decide +kernel), List.mem_of_getElem? (i := 1062) (by decide +kernel), List.mem_of_getElem? (i := 1063) (by decide +kernel)⟩
theorem lw_p46 : lw_okq (⟨"SeesawParkModel", "tiltOf", "(I)I"⟩, 36) := ⟨⟨by decide +kernel, by decide +kernel⟩, List.mem_of_getElem? (i := 879) (by decide +kernel), List.mem_of_getElem? (i := 1066) (by decide +kernel), List.mem_of_getElem? (i := 1067) (by decide +kernel)⟩
theorem lw_p47 : lw_okq (⟨"SeesawParkModel", "tiltBy", "(II)I"⟩, 36) := ⟨⟨by decide +kernel, by decide +kernel⟩, List.mem_of_getElem? (i := 879) (by decide +kernel), List.mem_of_getElem? (i := 1070) (by decide +kernel), List.mem_of_getElem? (i := 1071) (by decide +kernel)⟩
def lw_privs_3 : List (MethodName × Nat) := [(⟨"SeesawPark$Queue", "rideOn", "()V"⟩, 6), (⟨"SeesawPark", "hasPartner", "(I)Z"⟩, 11), (⟨"SeesawPark", "rateAs", "(III)I"⟩, 11), (⟨"SeesawPark", "imageOf", "(I)LSeesawPark$Scene;"⟩, 11), (⟨"SeesawParkModel", "begins", "()V"⟩, 36), (⟨"SeesawParkModel", "advances", "()V"⟩, 36), (⟨"SeesawParkModel", "byteAt", "(I)I"⟩, 36), (⟨"SeesawParkModel", "isWell", "()Z"⟩, 36), (⟨"SeesawParkModel", "takes", "(Z)I"⟩, 36), (⟨"SeesawParkModel", "readsItem", "(I)V"⟩, 36), (⟨"SeesawParkModel", "number", "(II)I"⟩, 36), (⟨"SeesawParkModel", "isPlank", "(I)Z"⟩, 36), (⟨"SeesawParkModel", "momentOf", "(I)I"⟩, 36), (⟨"SeesawParkModel", "stonesOn", "(I)I"⟩, 36), (⟨"SeesawParkModel", "tiltOf", "(I)I"⟩, 36), (⟨"SeesawParkModel", "tiltBy", "(II)I"⟩, 36)]
theorem lw_r3 : ∀ q ∈ lw_privs_3, lw_okq q := List.forall_mem_cons.mpr ⟨lw_p32, List.forall_mem_cons.mpr ⟨lw_p33, List.forall_mem_cons.mpr ⟨lw_p34, List.forall_mem_cons.mpr ⟨lw_p35, List.forall_mem_cons.mpr ⟨lw_p36, List.forall_mem_cons.mpr ⟨lw_p37, List.forall_mem_cons.mpr ⟨lw_p38, List.forall_mem_cons.mpr ⟨lw_p39, List.forall_mem_cons.mpr ⟨lw_p40, List.forall_mem_cons.mpr ⟨lw_p41, List.forall_mem_cons.mpr ⟨lw_p42, List.forall_mem_cons.mpr ⟨lw_p43, List.forall_mem_cons.mpr ⟨lw_p44, List.forall_mem_cons.mpr ⟨lw_p45, List.forall_mem_cons.mpr ⟨lw_p46, List.forall_mem_cons.mpr ⟨lw_p47, fun _ h => absurd h List.not_mem_nil⟩⟩⟩⟩⟩⟩⟩⟩⟩⟩⟩⟩⟩⟩⟩⟩
theorem lw_p48 : lw_okq (⟨"SeesawParkModel", "sittingOn", "(I)I"⟩, 36) := ⟨⟨by decide +kernel, by decide +kernel⟩, List.mem_of_getElem? (i := 879) (by decide +kernel), List.mem_of_getElem? (i := 1077) (by decide +kernel), List.mem_of_getElem? (i := 1078) (by decide +kernel)⟩
theorem lw_p49 : lw_okq (⟨"SeesawParkModel", "isChild", "(I)Z"⟩, 36) := ⟨⟨by decide +kernel, by decide +kernel⟩, List.mem_of_getElem? (i := 879) (by decide +kernel), List.mem_of_getElem? (i := 1085) (by decide +kernel), List.mem_of_getElem? (i := 1086) (by decide +kernel)⟩
theorem lw_p50 : lw_okq (⟨"SeesawParkModel", "isStone", "(I)Z"⟩, 36) := ⟨⟨by decide +kernel, by decide +kernel⟩, List.mem_of_getElem? (i := 879) (by decide +kernel), List.mem_of_getElem? (i := 1093) (by decide +kernel), List.mem_of_getElem? (i := 1094) (by decide +kernel)⟩
theorem lw_p51 : lw_okq (⟨"SeesawParkModel", "goes", "(II)I"⟩, 36) := ⟨⟨by decide +kernel, by decide +kernel⟩, List.mem_of_getElem? (i := 879) (by decide +kernel), List.mem_of_getElem? (i := 1101) (by decide +kernel), List.mem_of_getElem? (i := 1102) (by decide +kernel)⟩
theorem lw_p52 : lw_okq (⟨"SeesawParkModel", "bumps", "(II)I"⟩, 36) := ⟨⟨by decide +kernel, by decide +kernel⟩, List.mem_of_getElem? (i := 879) (by decide +kernel), List.mem_of_getElem? (i := 1105) (by decide +kernel), List.mem_of_getElem? (i := 1106) (by decide +kernel)⟩
theorem lw_p53 : lw_okq (⟨"SeesawParkModel", "comes", "(IIII)I"⟩, 36) := ⟨⟨by decide +kernel, by decide +kernel⟩, List.mem_of_getElem? (i := 879) (by decide +kernel), List.mem_of_getElem? (i := 1109) (by decide +kernel), List.mem_of_getElem? (i := 1110) (by decide +kernel)⟩
theorem lw_p54 : lw_okq (⟨"SeesawParkModel", "all", "()I"⟩, 36) := ⟨⟨by decide +kernel, by decide +kernel⟩, List.mem_of_getElem? (i := 879) (by decide +kernel), List.mem_of_getElem? (i := 1129) (by decide +kernel), List.mem_of_getElem? (i := 1130) (by decide +kernel)⟩
theorem lw_p55 : lw_okq (⟨"SeesawParkModel", "waysOf", "(III)I"⟩, 36) := ⟨⟨by decide +kernel, by decide +kernel⟩, List.mem_of_getElem? (i := 879) (by decide +kernel), List.mem_of_getElem? (i := 1134) (by decide +kernel), List.mem_of_getElem? (i := 1135) (by decide +kernel)⟩
theorem lw_p56 : lw_okq (⟨"SeesawParkModel", "seats", "(I)V"⟩, 36) := ⟨⟨by decide +kernel, by decide +kernel⟩, List.mem_of_getElem? (i := 879) (by decide +kernel), List.mem_of_getElem? (i := 1138) (by decide +kernel), List.mem_of_getElem? (i := 1139) (by decide +kernel)⟩
theorem lw_p57 : lw_okq (⟨"SeesawParkModel", "freeSeat", "(II)I"⟩, 36) := ⟨⟨by decide +kernel, by decide +kernel⟩, List.mem_of_getElem? (i := 879) (by decide +kernel), List.mem_of_getElem? (i := 1142) (by decide +kernel), List.mem_of_getElem? (i := 1143) (by decide +kernel)⟩
theorem lw_p58 : lw_okq (⟨"SeesawParkModel", "stepOf", "(II)I"⟩, 36) := ⟨⟨by decide +kernel, by decide +kernel⟩, List.mem_of_getElem? (i := 879) (by decide +kernel), List.mem_of_getElem? (i := 1146) (by decide +kernel), List.mem_of_getElem? (i := 1147) (by decide +kernel)⟩
theorem lw_p59 : lw_okq (⟨"SeesawParkModel", "levels", "(II)Z"⟩, 36) := ⟨⟨by decide +kernel, by decide +kernel⟩, List.mem_of_getElem? (i := 879) (by decide +kernel), List.mem_of_getElem? (i := 1165) (by decide +kernel), List.mem_of_getElem? (i := 1166) (by decide +kernel)⟩
theorem lw_p60 : lw_okq (⟨"SeesawParkModel", "hasStone", "(II)Z"⟩, 36) := ⟨⟨by decide +kernel, by decide +kernel⟩, List.mem_of_getElem? (i := 879) (by decide +kernel), List.mem_of_getElem? (i := 1169) (by decide +kernel), List.mem_of_getElem? (i := 1170) (by decide +kernel)⟩
theorem lw_p61 : lw_okq (⟨"SeesawParkModel", "fourMoves", "(II)I"⟩, 36) := ⟨⟨by decide +kernel, by decide +kernel⟩, List.mem_of_getElem? (i := 879) (by decide +kernel), List.mem_of_getElem? (i := 1177) (by decide +kernel), List.mem_of_getElem? (i := 1178) (by decide +kernel)⟩
theorem lw_p62 : lw_okq (⟨"SeesawParkModel", "mayPut", "(IIIIII)Z"⟩, 36) := ⟨⟨by decide +kernel, by decide +kernel⟩, List.mem_of_getElem? (i := 879) (by decide +kernel), List.mem_of_getElem? (i := 1181) (by decide +kernel), List.mem_of_getElem? (i := 1182) (by decide +kernel)⟩
theorem lw_p63 : lw_okq (⟨"SeesawParkModel", "isTaken", "(II)Z"⟩, 36) := ⟨⟨by decide +kernel, by decide +kernel⟩, List.mem_of_getElem? (i := 879) (by decide +kernel), List.mem_of_getElem? (i := 1185) (by decide +kernel), List.mem_of_getElem? (i := 1186) (by decide +kernel)⟩
def lw_privs_4 : List (MethodName × Nat) := [(⟨"SeesawParkModel", "sittingOn", "(I)I"⟩, 36), (⟨"SeesawParkModel", "isChild", "(I)Z"⟩, 36), (⟨"SeesawParkModel", "isStone", "(I)Z"⟩, 36), (⟨"SeesawParkModel", "goes", "(II)I"⟩, 36), (⟨"SeesawParkModel", "bumps", "(II)I"⟩, 36), (⟨"SeesawParkModel", "comes", "(IIII)I"⟩, 36), (⟨"SeesawParkModel", "all", "()I"⟩, 36), (⟨"SeesawParkModel", "waysOf", "(III)I"⟩, 36), (⟨"SeesawParkModel", "seats", "(I)V"⟩, 36), (⟨"SeesawParkModel", "freeSeat", "(II)I"⟩, 36), (⟨"SeesawParkModel", "stepOf", "(II)I"⟩, 36), (⟨"SeesawParkModel", "levels", "(II)Z"⟩, 36), (⟨"SeesawParkModel", "hasStone", "(II)Z"⟩, 36), (⟨"SeesawParkModel", "fourMoves", "(II)I"⟩, 36), (⟨"SeesawParkModel", "mayPut", "(IIIIII)Z"⟩, 36), (⟨"SeesawParkModel", "isTaken", "(II)Z"⟩, 36)]
theorem lw_r4 : ∀ q ∈ lw_privs_4, lw_okq q := List.forall_mem_cons.mpr ⟨lw_p48, List.forall_mem_cons.mpr ⟨lw_p49, List.forall_mem_cons.mpr ⟨lw_p50, List.forall_mem_cons.mpr ⟨lw_p51, List.forall_mem_cons.mpr ⟨lw_p52, List.forall_mem_cons.mpr ⟨lw_p53, List.forall_mem_cons.mpr ⟨lw_p54, List.forall_mem_cons.mpr ⟨lw_p55, List.forall_mem_cons.mpr ⟨lw_p56, List.forall_mem_cons.mpr ⟨lw_p57, List.forall_mem_cons.mpr ⟨lw_p58, List.forall_mem_cons.mpr ⟨lw_p59, List.forall_mem_cons.mpr ⟨lw_p60, List.forall_mem_cons.mpr ⟨lw_p61, List.forall_mem_cons.mpr ⟨lw_p62, List.forall_mem_cons.mpr ⟨lw_p63, fun _ h => absurd h List.not_mem_nil⟩⟩⟩⟩⟩⟩⟩⟩⟩⟩⟩⟩⟩⟩⟩⟩
theorem lw_p64 : lw_okq (⟨"SeesawParkModel", "threeMoves", "(IIII)I"⟩, 36) := ⟨⟨by decide +kernel, by decide +kernel⟩, List.mem_of_getElem? (i := 879) (by decide +kernel), List.mem_of_getElem? (i := 1189) (by decide +kernel), List.mem_of_getElem? (i := 1190) (by decide +kernel)⟩
theorem lw_p65 : lw_okq (⟨"SeesawParkModel", "twoMoves", "(IIII)I"⟩, 36) := ⟨⟨by decide +kernel, by decide +kernel⟩, List.mem_of_getElem? (i := 879) (by decide +kernel), List.mem_of_getElem? (i := 1193) (by decide +kernel), List.mem_of_getElem? (i := 1194) (by decide +kernel)⟩
theorem lw_p66 : lw_okq (⟨"SeesawParkModel", "lastMove", "(IIII)I"⟩, 36) := ⟨⟨by decide +kernel, by decide +kernel⟩, List.mem_of_getElem? (i := 879) (by decide +kernel), List.mem_of_getElem? (i := 1197) (by decide +kernel), List.mem_of_getElem? (i := 1198) (by decide +kernel)⟩
theorem lw_p67 : lw_okq (⟨"SeesawParkModel", "isStranger", "(I)Z"⟩, 36) := ⟨⟨by decide +kernel, by decide +kernel⟩, List.mem_of_getElem? (i := 879) (by decide +kernel), List.mem_of_getElem? (i := 1209) (by decide +kernel), List.mem_of_getElem? (i := 1210) (by decide +kernel)⟩
theorem lw_p68 : lw_okq (⟨"SeesawParkModel", "couldBe", "(II)I"⟩, 36) := ⟨⟨by decide +kernel, by decide +kernel⟩, List.mem_of_getElem? (i := 879) (by decide +kernel), List.mem_of_getElem? (i := 1217) (by decide +kernel), List.mem_of_getElem? (i := 1218) (by decide +kernel)⟩
theorem lw_p69 : lw_okq (⟨"SeesawParkModel", "allWays", "()I"⟩, 36) := ⟨⟨by decide +kernel, by decide +kernel⟩, List.mem_of_getElem? (i := 879) (by decide +kernel), List.mem_of_getElem? (i := 1221) (by decide +kernel), List.mem_of_getElem? (i := 1222) (by decide +kernel)⟩
theorem lw_p70 : lw_okq (⟨"SeesawParkModel", "fits", "(I)Z"⟩, 36) := ⟨⟨by decide +kernel, by decide +kernel⟩, List.mem_of_getElem? (i := 879) (by decide +kernel), List.mem_of_getElem? (i := 1225) (by decide +kernel), List.mem_of_getElem? (i := 1226) (by decide +kernel)⟩
theorem lw_p71 : lw_okq (⟨"SeesawParkModel", "goesBy", "(I)V"⟩, 36) := ⟨⟨by decide +kernel, by decide +kernel⟩, List.mem_of_getElem? (i := 879) (by decide +kernel), List.mem_of_getElem? (i := 1247) (by decide +kernel), List.mem_of_getElem? (i := 1248) (by decide +kernel)⟩
theorem lw_p72 : lw_okq (⟨"SeesawParkModel", "letsOff", "(I)V"⟩, 36) := ⟨⟨by decide +kernel, by decide +kernel⟩, List.mem_of_getElem? (i := 879) (by decide +kernel), List.mem_of_getElem? (i := 1251) (by decide +kernel), List.mem_of_getElem? (i := 1252) (by decide +kernel)⟩
theorem lw_p73 : lw_okq (⟨"SeesawParkModel", "waits", "(I)V"⟩, 36) := ⟨⟨by decide +kernel, by decide +kernel⟩, List.mem_of_getElem? (i := 879) (by decide +kernel), List.mem_of_getElem? (i := 1258) (by decide +kernel), List.mem_of_getElem? (i := 1259) (by decide +kernel)⟩
theorem lw_p74 : lw_okq (⟨"SeesawParkModel", "takesOn", "(II)V"⟩, 36) := ⟨⟨by decide +kernel, by decide +kernel⟩, List.mem_of_getElem? (i := 879) (by decide +kernel), List.mem_of_getElem? (i := 1262) (by decide +kernel), List.mem_of_getElem? (i := 1263) (by decide +kernel)⟩
theorem lw_p75 : lw_okq (⟨"SeesawParkModel", "areAPair", "(III)Z"⟩, 36) := ⟨⟨by decide +kernel, by decide +kernel⟩, List.mem_of_getElem? (i := 879) (by decide +kernel), List.mem_of_getElem? (i := 1266) (by decide +kernel), List.mem_of_getElem? (i := 1267) (by decide +kernel)⟩
theorem lw_p76 : lw_okq (⟨"SeesawParkModel", "outOfRow", "(I)V"⟩, 36) := ⟨⟨by decide +kernel, by decide +kernel⟩, List.mem_of_getElem? (i := 879) (by decide +kernel), List.mem_of_getElem? (i := 1270) (by decide +kernel), List.mem_of_getElem? (i := 1271) (by decide +kernel)⟩
theorem lw_p77 : lw_okq (⟨"SeesawParkModel", "sitting", "()I"⟩, 36) := ⟨⟨by decide +kernel, by decide +kernel⟩, List.mem_of_getElem? (i := 879) (by decide +kernel), List.mem_of_getElem? (i := 1291) (by decide +kernel), List.mem_of_getElem? (i := 1292) (by decide +kernel)⟩
def lw_privs_5 : List (MethodName × Nat) := [(⟨"SeesawParkModel", "threeMoves", "(IIII)I"⟩, 36), (⟨"SeesawParkModel", "twoMoves", "(IIII)I"⟩, 36), (⟨"SeesawParkModel", "lastMove", "(IIII)I"⟩, 36), (⟨"SeesawParkModel", "isStranger", "(I)Z"⟩, 36), (⟨"SeesawParkModel", "couldBe", "(II)I"⟩, 36), (⟨"SeesawParkModel", "allWays", "()I"⟩, 36), (⟨"SeesawParkModel", "fits", "(I)Z"⟩, 36), (⟨"SeesawParkModel", "goesBy", "(I)V"⟩, 36), (⟨"SeesawParkModel", "letsOff", "(I)V"⟩, 36), (⟨"SeesawParkModel", "waits", "(I)V"⟩, 36), (⟨"SeesawParkModel", "takesOn", "(II)V"⟩, 36), (⟨"SeesawParkModel", "areAPair", "(III)Z"⟩, 36), (⟨"SeesawParkModel", "outOfRow", "(I)V"⟩, 36), (⟨"SeesawParkModel", "sitting", "()I"⟩, 36)]
theorem lw_r5 : ∀ q ∈ lw_privs_5, lw_okq q := List.forall_mem_cons.mpr ⟨lw_p64, List.forall_mem_cons.mpr ⟨lw_p65, List.forall_mem_cons.mpr ⟨lw_p66, List.forall_mem_cons.mpr ⟨lw_p67, List.forall_mem_cons.mpr ⟨lw_p68, List.forall_mem_cons.mpr ⟨lw_p69, List.forall_mem_cons.mpr ⟨lw_p70, List.forall_mem_cons.mpr ⟨lw_p71, List.forall_mem_cons.mpr ⟨lw_p72, List.forall_mem_cons.mpr ⟨lw_p73, List.forall_mem_cons.mpr ⟨lw_p74, List.forall_mem_cons.mpr ⟨lw_p75, List.forall_mem_cons.mpr ⟨lw_p76, List.forall_mem_cons.mpr ⟨lw_p77, fun _ h => absurd h List.not_mem_nil⟩⟩⟩⟩⟩⟩⟩⟩⟩⟩⟩⟩⟩⟩
def lw_privs : List (MethodName × Nat) := lw_privs_1 ++ (lw_privs_2 ++ (lw_privs_3 ++ (lw_privs_4 ++ (lw_privs_5))))
def lw_tbl : List Cond := k2_sels lw_privs ++ tables_1
theorem lw_privs_ok : ∀ q ∈ lw_privs, lw_okq q := by
  show ∀ q ∈ lw_privs_1 ++ (lw_privs_2 ++ (lw_privs_3 ++ (lw_privs_4 ++ (lw_privs_5)))), lw_okq q
  exact List.forall_mem_append.mpr ⟨lw_r1, List.forall_mem_append.mpr ⟨lw_r2, List.forall_mem_append.mpr ⟨lw_r3, List.forall_mem_append.mpr ⟨lw_r4, lw_r5⟩⟩⟩⟩
def gw : List Cond := lw_tbl.filter goodWord
theorem gw_of {i : Nat} {w : Cond} (h : lw_tbl[i]? = some w) (hg : goodWord w = true) : w ∈ gw := List.mem_filter.mpr ⟨List.mem_of_getElem? h, hg⟩
end
section
def T0 : u_T := fun k => match k with
  | 0 => ("SeesawPark$Contest", "weights", "[I", true)
  | 1 => ("SeesawPark$Contest", "steps", "[I", true)
  | 2 => ("SeesawPark$Contest", "children", "I", false)
  | 3 => ("SeesawPark$Contest", "seats", "I", false)
  | _ => ("SeesawPark$Contest", "slack", "I", false)
def ty0 : Nat → FieldType := fun k => match k with
  | 0 => .array .int
  | 1 => .array .int
  | 2 => .int
  | 3 => .int
  | _ => .int
theorem nm0 : ∀ a, a < 5 → ∀ b, b < 5 → a ≠ b → (T0 a).2.1 ≠ (T0 b).2.1 := by decide +kernel
theorem tyok0 : ∀ k, k < 5 → parseFieldDescriptor (T0 k).2.2.1 = some (ty0 k) := by decide +kernel
def T1 : u_T := fun k => match k with
  | _ => ("SeesawPark$Crowd", "rows", "[J", true)
def ty1 : Nat → FieldType := fun k => match k with
  | _ => .array .long
theorem nm1 : ∀ a, a < 1 → ∀ b, b < 1 → a ≠ b → (T1 a).2.1 ≠ (T1 b).2.1 := by decide +kernel
theorem tyok1 : ∀ k, k < 1 → parseFieldDescriptor (T1 k).2.2.1 = some (ty1 k) := by decide +kernel
def T2 : u_T := fun k => match k with
  | 0 => ("SeesawPark$Queue", "roster", "LSeesawPark$Roster;", true)
  | 1 => ("SeesawPark$Queue", "ridden", "[I", true)
  | 2 => ("SeesawPark$Queue", "row", "[I", true)
  | 3 => ("SeesawPark$Queue", "rider", "[I", true)
  | 4 => ("SeesawPark$Queue", "partner", "[I", true)
  | _ => ("SeesawPark$Queue", "waiting", "I", false)
def ty2 : Nat → FieldType := fun k => match k with
  | 0 => .object "SeesawPark$Roster"
  | 1 => .array .int
  | 2 => .array .int
  | 3 => .array .int
  | 4 => .array .int
  | _ => .int
theorem nm2 : ∀ a, a < 6 → ∀ b, b < 6 → a ≠ b → (T2 a).2.1 ≠ (T2 b).2.1 := by decide +kernel
theorem tyok2 : ∀ k, k < 6 → parseFieldDescriptor (T2 k).2.2.1 = some (ty2 k) := by decide +kernel
def T3 : u_T := fun k => match k with
  | 0 => ("SeesawPark$Roster", "half", "[I", true)
  | 1 => ("SeesawPark$Roster", "slack", "[I", true)
  | 2 => ("SeesawPark$Roster", "weight", "[I", true)
  | 3 => ("SeesawPark$Roster", "wish", "[I", true)
  | 4 => ("SeesawPark$Roster", "stoneWeight", "[I", true)
  | 5 => ("SeesawPark$Roster", "planks", "I", false)
  | 6 => ("SeesawPark$Roster", "children", "I", false)
  | _ => ("SeesawPark$Roster", "stones", "I", false)
def ty3 : Nat → FieldType := fun k => match k with
  | 0 => .array .int
  | 1 => .array .int
  | 2 => .array .int
  | 3 => .array .int
  | 4 => .array .int
  | 5 => .int
  | 6 => .int
  | _ => .int
theorem nm3 : ∀ a, a < 8 → ∀ b, b < 8 → a ≠ b → (T3 a).2.1 ≠ (T3 b).2.1 := by decide +kernel
theorem tyok3 : ∀ k, k < 8 → parseFieldDescriptor (T3 k).2.2.1 = some (ty3 k) := by decide +kernel
def T4 : u_T := fun k => match k with
  | 0 => ("SeesawPark$Scene", "roster", "LSeesawPark$Roster;", true)
  | 1 => ("SeesawPark$Scene", "childPlank", "[I", true)
  | 2 => ("SeesawPark$Scene", "childStep", "[I", true)
  | 3 => ("SeesawPark$Scene", "bumped", "[I", true)
  | 4 => ("SeesawPark$Scene", "stonePlank", "[I", true)
  | 5 => ("SeesawPark$Scene", "stoneStep", "[I", true)
  | _ => ("SeesawPark$Scene", "filled", "Z", false)
def ty4 : Nat → FieldType := fun k => match k with
  | 0 => .object "SeesawPark$Roster"
  | 1 => .array .int
  | 2 => .array .int
  | 3 => .array .int
  | 4 => .array .int
  | 5 => .array .int
  | _ => .boolean
theorem nm4 : ∀ a, a < 7 → ∀ b, b < 7 → a ≠ b → (T4 a).2.1 ≠ (T4 b).2.1 := by decide +kernel
theorem tyok4 : ∀ k, k < 7 → parseFieldDescriptor (T4 k).2.2.1 = some (ty4 k) := by decide +kernel
def T5 : u_T := fun k => match k with
  | 0 => ("SeesawPark$Seating", "steps", "[I", true)
  | 1 => ("SeesawPark$Seating", "weights", "[I", true)
  | 2 => ("SeesawPark$Seating", "now", "[I", true)
  | 3 => ("SeesawPark$Seating", "chosen", "[I", true)
  | 4 => ("SeesawPark$Seating", "reach", "[I", true)
  | 5 => ("SeesawPark$Seating", "seats", "I", false)
  | 6 => ("SeesawPark$Seating", "bodies", "I", false)
  | 7 => ("SeesawPark$Seating", "startMoment", "I", false)
  | 8 => ("SeesawPark$Seating", "slack", "I", false)
  | _ => ("SeesawPark$Seating", "fewest", "I", false)
def ty5 : Nat → FieldType := fun k => match k with
  | 0 => .array .int
  | 1 => .array .int
  | 2 => .array .int
  | 3 => .array .int
  | 4 => .array .int
  | 5 => .int
  | 6 => .int
  | 7 => .int
  | 8 => .int
  | _ => .int
theorem nm5 : ∀ a, a < 10 → ∀ b, b < 10 → a ≠ b → (T5 a).2.1 ≠ (T5 b).2.1 := by decide +kernel
theorem tyok5 : ∀ k, k < 10 → parseFieldDescriptor (T5 k).2.2.1 = some (ty5 k) := by decide +kernel
def T6 : u_T := fun k => match k with
  | 0 => ("SeesawPark$Told", "draft", "LSeesawPark$Roster;", true)
  | 1 => ("SeesawPark$Told", "bytes", "[I", true)
  | 2 => ("SeesawPark$Told", "length", "I", false)
  | 3 => ("SeesawPark$Told", "tokenStart", "I", false)
  | 4 => ("SeesawPark$Told", "place", "I", false)
  | 5 => ("SeesawPark$Told", "token", "I", false)
  | _ => ("SeesawPark$Told", "value", "I", false)
def ty6 : Nat → FieldType := fun k => match k with
  | 0 => .object "SeesawPark$Roster"
  | 1 => .array .int
  | 2 => .int
  | 3 => .int
  | 4 => .int
  | 5 => .int
  | _ => .int
theorem nm6 : ∀ a, a < 7 → ∀ b, b < 7 → a ≠ b → (T6 a).2.1 ≠ (T6 b).2.1 := by decide +kernel
theorem tyok6 : ∀ k, k < 7 → parseFieldDescriptor (T6 k).2.2.1 = some (ty6 k) := by decide +kernel
def T7 : u_T := fun k => match k with
  | 0 => ("SeesawPark$Weighing", "first", "[I", true)
  | 1 => ("SeesawPark$Weighing", "second", "[I", true)
  | 2 => ("SeesawPark$Weighing", "outcome", "[I", true)
  | 3 => ("SeesawPark$Weighing", "guess", "[I", true)
  | 4 => ("SeesawPark$Weighing", "byWeight", "[I", true)
  | 5 => ("SeesawPark$Weighing", "byOutcome", "[I", true)
  | 6 => ("SeesawPark$Weighing", "strangers", "I", false)
  | 7 => ("SeesawPark$Weighing", "trials", "I", false)
  | 8 => ("SeesawPark$Weighing", "total", "I", false)
  | _ => ("SeesawPark$Weighing", "surveyed", "Z", false)
def ty7 : Nat → FieldType := fun k => match k with
  | 0 => .array .int
  | 1 => .array .int
  | 2 => .array .int
  | 3 => .array .int
  | 4 => .array .int
  | 5 => .array .int
  | 6 => .int
  | 7 => .int
  | 8 => .int
  | _ => .boolean
theorem nm7 : ∀ a, a < 10 → ∀ b, b < 10 → a ≠ b → (T7 a).2.1 ≠ (T7 b).2.1 := by decide +kernel
theorem tyok7 : ∀ k, k < 10 → parseFieldDescriptor (T7 k).2.2.1 = some (ty7 k) := by decide +kernel
def T8 : u_T := fun k => match k with
  | 0 => ("SeesawPark", "roster", "LSeesawPark$Roster;", true)
  | 1 => ("SeesawPark", "scene", "LSeesawPark$Scene;", true)
  | 2 => ("SeesawPark", "imageZero", "LSeesawPark$Scene;", true)
  | 3 => ("SeesawPark", "imageOne", "LSeesawPark$Scene;", true)
  | 4 => ("SeesawPark", "told", "LSeesawPark$Told;", true)
  | 5 => ("SeesawPark", "seating", "LSeesawPark$Seating;", true)
  | 6 => ("SeesawPark", "crowd", "LSeesawPark$Crowd;", true)
  | 7 => ("SeesawPark", "contest", "LSeesawPark$Contest;", true)
  | 8 => ("SeesawPark", "weighing", "LSeesawPark$Weighing;", true)
  | 9 => ("SeesawPark", "queue", "LSeesawPark$Queue;", true)
  | _ => ("SeesawPark", "marks", "J", false)
def ty8 : Nat → FieldType := fun k => match k with
  | 0 => .object "SeesawPark$Roster"
  | 1 => .object "SeesawPark$Scene"
  | 2 => .object "SeesawPark$Scene"
  | 3 => .object "SeesawPark$Scene"
  | 4 => .object "SeesawPark$Told"
  | 5 => .object "SeesawPark$Seating"
  | 6 => .object "SeesawPark$Crowd"
  | 7 => .object "SeesawPark$Contest"
  | 8 => .object "SeesawPark$Weighing"
  | 9 => .object "SeesawPark$Queue"
  | _ => .long
theorem nm8 : ∀ a, a < 11 → ∀ b, b < 11 → a ≠ b → (T8 a).2.1 ≠ (T8 b).2.1 := by decide +kernel
theorem tyok8 : ∀ k, k < 11 → parseFieldDescriptor (T8 k).2.2.1 = some (ty8 k) := by decide +kernel
def T9 : u_T := fun k => match k with
  | 0 => ("SeesawParkModel", "thrown", "I", false)
  | 1 => ("SeesawParkModel", "trace", "J", false)
  | 2 => ("SeesawParkModel", "text", "[I", true)
  | 3 => ("SeesawParkModel", "typed", "I", false)
  | 4 => ("SeesawParkModel", "next", "I", false)
  | 5 => ("SeesawParkModel", "token", "I", false)
  | 6 => ("SeesawParkModel", "place", "I", false)
  | 7 => ("SeesawParkModel", "value", "I", false)
  | 8 => ("SeesawParkModel", "fault", "I", false)
  | 9 => ("SeesawParkModel", "half", "[I", true)
  | 10 => ("SeesawParkModel", "slack", "[I", true)
  | 11 => ("SeesawParkModel", "weight", "[I", true)
  | 12 => ("SeesawParkModel", "wish", "[I", true)
  | 13 => ("SeesawParkModel", "stone", "[I", true)
  | 14 => ("SeesawParkModel", "planks", "I", false)
  | 15 => ("SeesawParkModel", "children", "I", false)
  | 16 => ("SeesawParkModel", "stones", "I", false)
  | 17 => ("SeesawParkModel", "draftPlanks", "I", false)
  | 18 => ("SeesawParkModel", "draftChildren", "I", false)
  | 19 => ("SeesawParkModel", "draftStones", "I", false)
  | 20 => ("SeesawParkModel", "s", "[I", true)
  | 21 => ("SeesawParkModel", "kept", "[I", true)
  | 22 => ("SeesawParkModel", "isKept", "[Z", true)
  | 23 => ("SeesawParkModel", "who", "[I", true)
  | 24 => ("SeesawParkModel", "many", "I", false)
  | 25 => ("SeesawParkModel", "seat", "[I", true)
  | 26 => ("SeesawParkModel", "first", "[I", true)
  | 27 => ("SeesawParkModel", "strangers", "I", false)
  | 28 => ("SeesawParkModel", "tried", "[I", true)
  | 29 => ("SeesawParkModel", "trials", "I", false)
  | 30 => ("SeesawParkModel", "rode", "[I", true)
  | 31 => ("SeesawParkModel", "row", "[I", true)
  | 32 => ("SeesawParkModel", "waiting", "I", false)
  | 33 => ("SeesawParkModel", "one", "[I", true)
  | 34 => ("SeesawParkModel", "other", "[I", true)
  | _ => ("SeesawParkModel", "until", "[I", true)
def ty9 : Nat → FieldType := fun k => match k with
  | 0 => .int
  | 1 => .long
  | 2 => .array .int
  | 3 => .int
  | 4 => .int
  | 5 => .int
  | 6 => .int
  | 7 => .int
  | 8 => .int
  | 9 => .array .int
  | 10 => .array .int
  | 11 => .array .int
  | 12 => .array .int
  | 13 => .array .int
  | 14 => .int
  | 15 => .int
  | 16 => .int
  | 17 => .int
  | 18 => .int
  | 19 => .int
  | 20 => .array .int
  | 21 => .array .int
  | 22 => .array .boolean
  | 23 => .array .int
  | 24 => .int
  | 25 => .array .int
  | 26 => .array .int
  | 27 => .int
  | 28 => .array .int
  | 29 => .int
  | 30 => .array .int
  | 31 => .array .int
  | 32 => .int
  | 33 => .array .int
  | 34 => .array .int
  | _ => .array .int
theorem nm9 : ∀ a, a < 36 → ∀ b, b < 36 → a ≠ b → (T9 a).2.1 ≠ (T9 b).2.1 := by decide +kernel
theorem tyok9 : ∀ k, k < 36 → parseFieldDescriptor (T9 k).2.2.1 = some (ty9 k) := by decide +kernel
abbrev cls : List vw_C := [("SeesawPark$Contest", T0, 5), ("SeesawPark$Crowd", T1, 1), ("SeesawPark$Queue", T2, 6), ("SeesawPark$Roster", T3, 8), ("SeesawPark$Scene", T4, 7), ("SeesawPark$Seating", T5, 10), ("SeesawPark$Told", T6, 7), ("SeesawPark$Weighing", T7, 10), ("SeesawPark", T8, 11), ("SeesawParkModel", T9, 36)]
def tyc : List (Nat → FieldType) := [ty0, ty1, ty2, ty3, ty4, ty5, ty6, ty7, ty8, ty9]
def cnm : List String := ["SeesawPark$Contest", "SeesawPark$Crowd", "SeesawPark$Queue", "SeesawPark$Roster", "SeesawPark$Scene", "SeesawPark$Seating", "SeesawPark$Told", "SeesawPark$Weighing", "SeesawPark", "SeesawParkModel", "java/lang/Integer", "java/lang/Math", "java/util/Arrays", "java/lang/String", "java/lang/StringLatin1", "jdk/internal/util/Preconditions"]
abbrev Mth : Type := Nat × MethodName × ByteArray × Nat × Option FieldType × Bool × Nat
def m_X0_begin : Mth := (0, ⟨"SeesawPark$Contest", "begin", "(LSeesawPark$Roster;LSeesawPark$Scene;I)V"⟩, prog_2_method_2_code, 7, none, false, 3)
def m_X0_winningMove : Mth := (0, ⟨"SeesawPark$Contest", "winningMove", "(II)I"⟩, prog_2_method_3_code, 3, (some .int), false, 2)
def m_X0_moveFrom : Mth := (0, ⟨"SeesawPark$Contest", "moveFrom", "(IIII)I"⟩, prog_2_method_4_code, 8, (some .int), false, 4)
def m_X1_spread : Mth := (1, ⟨"SeesawPark$Crowd", "spread", "(LSeesawPark$Roster;I)V"⟩, prog_3_method_2_code, 8, none, false, 2)
def m_X1_addSeatOf : Mth := (1, ⟨"SeesawPark$Crowd", "addSeatOf", "(LSeesawPark$Roster;II)V"⟩, prog_3_method_3_code, 5, none, false, 3)
def m_X1_mergeShifted : Mth := (1, ⟨"SeesawPark$Crowd", "mergeShifted", "(III)V"⟩, prog_3_method_4_code, 9, none, false, 3)
def m_X1_wordAt : Mth := (1, ⟨"SeesawPark$Crowd", "wordAt", "(II)J"⟩, prog_3_method_5_code, 3, (some .long), false, 2)
def m_X1_largestLevel : Mth := (1, ⟨"SeesawPark$Crowd", "largestLevel", "(III)I"⟩, prog_3_method_6_code, 6, (some .int), false, 3)
def m_X1_canLevel : Mth := (1, ⟨"SeesawPark$Crowd", "canLevel", "(III)Z"⟩, prog_3_method_7_code, 6, (some .boolean), false, 3)
def m_X2_run : Mth := (2, ⟨"SeesawPark$Queue", "run", "(I)V"⟩, prog_4_method_2_code, 4, none, false, 1)
def m_X2_letOff : Mth := (2, ⟨"SeesawPark$Queue", "letOff", "(I)V"⟩, prog_4_method_3_code, 4, none, false, 1)
def m_X2_wantsMore : Mth := (2, ⟨"SeesawPark$Queue", "wantsMore", "(I)Z"⟩, prog_4_method_4_code, 2, (some .boolean), false, 1)
def m_X2_letOn : Mth := (2, ⟨"SeesawPark$Queue", "letOn", "(I)V"⟩, prog_4_method_5_code, 4, none, false, 1)
def m_X2_rideOn : Mth := (2, ⟨"SeesawPark$Queue", "rideOn", "()V"⟩, prog_4_method_6_code, 2, none, false, 0)
def m_X2_joinRow : Mth := (2, ⟨"SeesawPark$Queue", "joinRow", "(I)V"⟩, prog_4_method_7_code, 2, none, false, 1)
def m_X2_leaveRow : Mth := (2, ⟨"SeesawPark$Queue", "leaveRow", "(I)V"⟩, prog_4_method_8_code, 3, none, false, 1)
def m_X3_forget : Mth := (3, ⟨"SeesawPark$Roster", "forget", "()V"⟩, prog_5_method_2_code, 1, none, false, 0)
def m_X3_copyFrom : Mth := (3, ⟨"SeesawPark$Roster", "copyFrom", "(LSeesawPark$Roster;)V"⟩, prog_5_method_3_code, 2, none, false, 1)
def m_X3_hasPlank : Mth := (3, ⟨"SeesawPark$Roster", "hasPlank", "(I)Z"⟩, prog_5_method_4_code, 2, (some .boolean), false, 1)
def m_X3_hasChild : Mth := (3, ⟨"SeesawPark$Roster", "hasChild", "(I)Z"⟩, prog_5_method_5_code, 2, (some .boolean), false, 1)
def m_X3_hasStone : Mth := (3, ⟨"SeesawPark$Roster", "hasStone", "(I)Z"⟩, prog_5_method_6_code, 2, (some .boolean), false, 1)
def m_X3_hasSeat : Mth := (3, ⟨"SeesawPark$Roster", "hasSeat", "(II)Z"⟩, prog_5_method_7_code, 3, (some .boolean), false, 2)
def m_X3_allChildren : Mth := (3, ⟨"SeesawPark$Roster", "allChildren", "()I"⟩, prog_5_method_8_code, 1, (some .int), false, 0)
def m_X3_fits : Mth := (3, ⟨"SeesawPark$Roster", "fits", "(III)Z"⟩, prog_5_method_9_code, 4, (some .boolean), false, 3)
def m_X4_reset : Mth := (4, ⟨"SeesawPark$Scene", "reset", "()V"⟩, prog_6_method_2_code, 2, none, false, 0)
def m_X4_copyFrom : Mth := (4, ⟨"SeesawPark$Scene", "copyFrom", "(LSeesawPark$Scene;)V"⟩, prog_6_method_3_code, 2, none, false, 1)
def m_X4_hasChildAt : Mth := (4, ⟨"SeesawPark$Scene", "hasChildAt", "(II)Z"⟩, prog_6_method_4_code, 4, (some .boolean), false, 2)
def m_X4_hasStoneAt : Mth := (4, ⟨"SeesawPark$Scene", "hasStoneAt", "(II)Z"⟩, prog_6_method_5_code, 4, (some .boolean), false, 2)
def m_X4_childrenOn : Mth := (4, ⟨"SeesawPark$Scene", "childrenOn", "(I)I"⟩, prog_6_method_6_code, 4, (some .int), false, 1)
def m_X4_idleChildren : Mth := (4, ⟨"SeesawPark$Scene", "idleChildren", "()I"⟩, prog_6_method_7_code, 3, (some .int), false, 0)
def m_X4_idleStones : Mth := (4, ⟨"SeesawPark$Scene", "idleStones", "()I"⟩, prog_6_method_8_code, 3, (some .int), false, 0)
def m_X4_seatedChildren : Mth := (4, ⟨"SeesawPark$Scene", "seatedChildren", "()I"⟩, prog_6_method_9_code, 1, (some .int), false, 0)
def m_X4_stoneMoment : Mth := (4, ⟨"SeesawPark$Scene", "stoneMoment", "(I)I"⟩, prog_6_method_10_code, 4, (some .int), false, 1)
def m_X4_moment : Mth := (4, ⟨"SeesawPark$Scene", "moment", "(I)I"⟩, prog_6_method_11_code, 4, (some .int), false, 1)
def m_X4_tilt : Mth := (4, ⟨"SeesawPark$Scene", "tilt", "(I)I"⟩, prog_6_method_12_code, 3, (some .int), false, 1)
def m_X4_seatChild : Mth := (4, ⟨"SeesawPark$Scene", "seatChild", "(III)I"⟩, prog_6_method_13_code, 5, (some .int), false, 3)
def m_X4_unseatChild : Mth := (4, ⟨"SeesawPark$Scene", "unseatChild", "(I)I"⟩, prog_6_method_14_code, 4, (some .int), false, 1)
def m_X4_putStone : Mth := (4, ⟨"SeesawPark$Scene", "putStone", "(III)I"⟩, prog_6_method_15_code, 5, (some .int), false, 3)
def m_X4_liftStone : Mth := (4, ⟨"SeesawPark$Scene", "liftStone", "(I)I"⟩, prog_6_method_16_code, 4, (some .int), false, 1)
def m_X4_settle : Mth := (4, ⟨"SeesawPark$Scene", "settle", "(II)I"⟩, prog_6_method_17_code, 6, (some .int), false, 2)
def m_X5_begin : Mth := (5, ⟨"SeesawPark$Seating", "begin", "(II)V"⟩, prog_7_method_2_code, 3, none, false, 2)
def m_X5_addSeat : Mth := (5, ⟨"SeesawPark$Seating", "addSeat", "(I)V"⟩, prog_7_method_3_code, 2, none, false, 1)
def m_X5_addBody : Mth := (5, ⟨"SeesawPark$Seating", "addBody", "(II)V"⟩, prog_7_method_4_code, 3, none, false, 2)
def m_X5_chosenStep : Mth := (5, ⟨"SeesawPark$Seating", "chosenStep", "(I)I"⟩, prog_7_method_5_code, 2, (some .int), false, 1)
def m_X5_countWays : Mth := (5, ⟨"SeesawPark$Seating", "countWays", "()I"⟩, prog_7_method_6_code, 1, (some .int), false, 0)
def m_X5_findFirst : Mth := (5, ⟨"SeesawPark$Seating", "findFirst", "()Z"⟩, prog_7_method_7_code, 1, (some .boolean), false, 0)
def m_X5_fewestChanges : Mth := (5, ⟨"SeesawPark$Seating", "fewestChanges", "()I"⟩, prog_7_method_8_code, 1, (some .int), false, 0)
def m_X5_measureReach : Mth := (5, ⟨"SeesawPark$Seating", "measureReach", "()V"⟩, prog_7_method_9_code, 2, none, false, 0)
def m_X5_isHopeless : Mth := (5, ⟨"SeesawPark$Seating", "isHopeless", "(II)Z"⟩, prog_7_method_10_code, 3, (some .boolean), false, 2)
def m_X5_countFrom : Mth := (5, ⟨"SeesawPark$Seating", "countFrom", "(III)I"⟩, prog_7_method_11_code, 6, (some .int), false, 3)
def m_X5_findFrom : Mth := (5, ⟨"SeesawPark$Seating", "findFrom", "(III)Z"⟩, prog_7_method_12_code, 5, (some .boolean), false, 3)
def m_X5_changeFrom : Mth := (5, ⟨"SeesawPark$Seating", "changeFrom", "(IIII)V"⟩, prog_7_method_13_code, 7, none, false, 4)
def m_X6_append : Mth := (6, ⟨"SeesawPark$Told", "append", "(I)V"⟩, prog_8_method_2_code, 2, none, false, 1)
def m_X6_readAll : Mth := (6, ⟨"SeesawPark$Told", "readAll", "()I"⟩, prog_8_method_3_code, 3, (some .int), false, 0)
def m_X6_readPlank : Mth := (6, ⟨"SeesawPark$Told", "readPlank", "()Z"⟩, prog_8_method_4_code, 2, (some .boolean), false, 0)
def m_X6_readChild : Mth := (6, ⟨"SeesawPark$Told", "readChild", "()Z"⟩, prog_8_method_5_code, 2, (some .boolean), false, 0)
def m_X6_readStone : Mth := (6, ⟨"SeesawPark$Told", "readStone", "()Z"⟩, prog_8_method_6_code, 2, (some .boolean), false, 0)
def m_X6_readNumber : Mth := (6, ⟨"SeesawPark$Told", "readNumber", "(II)Z"⟩, prog_8_method_7_code, 3, (some .boolean), false, 2)
def m_X6_readSemicolon : Mth := (6, ⟨"SeesawPark$Told", "readSemicolon", "()Z"⟩, prog_8_method_8_code, 1, (some .boolean), false, 0)
def m_X6_readToken : Mth := (6, ⟨"SeesawPark$Told", "readToken", "()V"⟩, prog_8_method_9_code, 2, none, false, 0)
def m_X6_readWord : Mth := (6, ⟨"SeesawPark$Told", "readWord", "()V"⟩, prog_8_method_10_code, 1, none, false, 0)
def m_X6_spells : Mth := (6, ⟨"SeesawPark$Told", "spells", "(Ljava/lang/String;)Z"⟩, prog_8_method_11_code, 3, (some .boolean), false, 1)
def m_X6_readDigits : Mth := (6, ⟨"SeesawPark$Told", "readDigits", "()V"⟩, prog_8_method_12_code, 2, none, false, 0)
def m_X6_isLetter : Mth := (6, ⟨"SeesawPark$Told", "isLetter", "(I)Z"⟩, prog_8_method_13_code, 1, (some .boolean), true, 1)
def m_X6_isDigit : Mth := (6, ⟨"SeesawPark$Told", "isDigit", "(I)Z"⟩, prog_8_method_14_code, 1, (some .boolean), true, 1)
def m_X7_begin : Mth := (7, ⟨"SeesawPark$Weighing", "begin", "(I)V"⟩, prog_9_method_2_code, 2, none, false, 1)
def m_X7_hasStranger : Mth := (7, ⟨"SeesawPark$Weighing", "hasStranger", "(I)Z"⟩, prog_9_method_3_code, 2, (some .boolean), false, 1)
def m_X7_addTrial : Mth := (7, ⟨"SeesawPark$Weighing", "addTrial", "(III)V"⟩, prog_9_method_4_code, 4, none, false, 3)
def m_X7_fitting : Mth := (7, ⟨"SeesawPark$Weighing", "fitting", "()I"⟩, prog_9_method_5_code, 1, (some .int), false, 0)
def m_X7_fittingWith : Mth := (7, ⟨"SeesawPark$Weighing", "fittingWith", "(II)I"⟩, prog_9_method_6_code, 3, (some .int), false, 2)
def m_X7_onlyWeight : Mth := (7, ⟨"SeesawPark$Weighing", "onlyWeight", "(I)I"⟩, prog_9_method_7_code, 4, (some .int), false, 1)
def m_X7_bestPair : Mth := (7, ⟨"SeesawPark$Weighing", "bestPair", "()I"⟩, prog_9_method_8_code, 4, (some .int), false, 0)
def m_X7_leftAtWorst : Mth := (7, ⟨"SeesawPark$Weighing", "leftAtWorst", "(II)I"⟩, prog_9_method_9_code, 4, (some .int), false, 2)
def m_X7_outcomeCell : Mth := (7, ⟨"SeesawPark$Weighing", "outcomeCell", "(III)I"⟩, prog_9_method_10_code, 3, (some .int), true, 3)
def m_X7_survey : Mth := (7, ⟨"SeesawPark$Weighing", "survey", "()V"⟩, prog_9_method_11_code, 1, none, false, 0)
def m_X7_guessFrom : Mth := (7, ⟨"SeesawPark$Weighing", "guessFrom", "(I)V"⟩, prog_9_method_12_code, 3, none, false, 1)
def m_X7_guessFits : Mth := (7, ⟨"SeesawPark$Weighing", "guessFits", "()Z"⟩, prog_9_method_13_code, 2, (some .boolean), false, 0)
def m_X7_tally : Mth := (7, ⟨"SeesawPark$Weighing", "tally", "()V"⟩, prog_9_method_14_code, 3, none, false, 0)
def m_X8_type : Mth := (8, ⟨"SeesawPark", "type", "(JI)I"⟩, prog_1_method_2_code, 5, (some .int), false, 2)
def m_X8_clear : Mth := (8, ⟨"SeesawPark", "clear", "()I"⟩, prog_1_method_3_code, 2, (some .int), false, 0)
def m_X8_park : Mth := (8, ⟨"SeesawPark", "park", "()I"⟩, prog_1_method_4_code, 2, (some .int), false, 0)
def m_X8_plank : Mth := (8, ⟨"SeesawPark", "plank", "(II)I"⟩, prog_1_method_5_code, 3, (some .int), false, 2)
def m_X8_child : Mth := (8, ⟨"SeesawPark", "child", "(II)I"⟩, prog_1_method_6_code, 3, (some .int), false, 2)
def m_X8_stone : Mth := (8, ⟨"SeesawPark", "stone", "(II)I"⟩, prog_1_method_7_code, 3, (some .int), false, 2)
def m_X8_sits : Mth := (8, ⟨"SeesawPark", "sits", "(III)I"⟩, prog_1_method_8_code, 5, (some .int), false, 3)
def m_X8_leaves : Mth := (8, ⟨"SeesawPark", "leaves", "(I)I"⟩, prog_1_method_9_code, 2, (some .int), false, 1)
def m_X8_lay : Mth := (8, ⟨"SeesawPark", "lay", "(III)I"⟩, prog_1_method_10_code, 5, (some .int), false, 3)
def m_X8_take : Mth := (8, ⟨"SeesawPark", "take", "(I)I"⟩, prog_1_method_11_code, 2, (some .int), false, 1)
def m_X8_ways : Mth := (8, ⟨"SeesawPark", "ways", "(III)I"⟩, prog_1_method_12_code, 5, (some .int), false, 3)
def m_X8_most : Mth := (8, ⟨"SeesawPark", "most", "(II)I"⟩, prog_1_method_13_code, 4, (some .int), false, 2)
def m_X8_moves : Mth := (8, ⟨"SeesawPark", "moves", "(I)I"⟩, prog_1_method_14_code, 3, (some .int), false, 1)
def m_X8_ballast : Mth := (8, ⟨"SeesawPark", "ballast", "(II)I"⟩, prog_1_method_15_code, 3, (some .int), false, 2)
def m_X8_game : Mth := (8, ⟨"SeesawPark", "game", "(II)I"⟩, prog_1_method_16_code, 5, (some .int), false, 2)
def m_X8_strangers : Mth := (8, ⟨"SeesawPark", "strangers", "(I)I"⟩, prog_1_method_17_code, 3, (some .int), false, 1)
def m_X8_trial : Mth := (8, ⟨"SeesawPark", "trial", "(III)I"⟩, prog_1_method_18_code, 4, (some .int), false, 3)
def m_X8_could : Mth := (8, ⟨"SeesawPark", "could", "(II)I"⟩, prog_1_method_19_code, 3, (some .int), false, 2)
def m_X8_sure : Mth := (8, ⟨"SeesawPark", "sure", "(I)I"⟩, prog_1_method_20_code, 3, (some .int), false, 1)
def m_X8_next : Mth := (8, ⟨"SeesawPark", "next", "(I)I"⟩, prog_1_method_21_code, 3, (some .int), false, 1)
def m_X8_rides : Mth := (8, ⟨"SeesawPark", "rides", "(II)I"⟩, prog_1_method_22_code, 3, (some .int), false, 2)
def m_X8_forever : Mth := (8, ⟨"SeesawPark", "forever", "()I"⟩, prog_1_method_23_code, 3, (some .int), false, 0)
def m_X8_rate : Mth := (8, ⟨"SeesawPark", "rate", "(II)I"⟩, prog_1_method_24_code, 3, (some .int), false, 2)
def m_X8_keep : Mth := (8, ⟨"SeesawPark", "keep", "(I)I"⟩, prog_1_method_25_code, 3, (some .int), false, 1)
def m_X8_back : Mth := (8, ⟨"SeesawPark", "back", "(I)I"⟩, prog_1_method_26_code, 3, (some .int), false, 1)
def m_X8_count : Mth := (8, ⟨"SeesawPark", "count", "(I)I"⟩, prog_1_method_27_code, 2, (some .int), false, 1)
def m_X8_trace : Mth := (8, ⟨"SeesawPark", "trace", "()J"⟩, prog_1_method_28_code, 1, (some .long), false, 0)
def m_X8_isZeroOrOne : Mth := (8, ⟨"SeesawPark", "isZeroOrOne", "(I)Z"⟩, prog_1_method_29_code, 1, (some .boolean), true, 1)
def m_X8_stepOfSeat : Mth := (8, ⟨"SeesawPark", "stepOfSeat", "(II)I"⟩, prog_1_method_30_code, 2, (some .int), true, 2)
def m_X8_countOrSet : Mth := (8, ⟨"SeesawPark", "countOrSet", "(II)I"⟩, prog_1_method_31_code, 2, (some .int), true, 2)
def m_X8_imageOf : Mth := (8, ⟨"SeesawPark", "imageOf", "(I)LSeesawPark$Scene;"⟩, prog_1_method_32_code, 2, (some (.object "SeesawPark$Scene")), false, 1)
def m_X8_askWays : Mth := (8, ⟨"SeesawPark", "askWays", "(II)V"⟩, prog_1_method_33_code, 5, none, false, 2)
def m_X8_leastBallast : Mth := (8, ⟨"SeesawPark", "leastBallast", "(I)I"⟩, prog_1_method_34_code, 5, (some .int), false, 1)
def m_X8_canBallast : Mth := (8, ⟨"SeesawPark", "canBallast", "(II)Z"⟩, prog_1_method_35_code, 6, (some .boolean), false, 2)
def m_X8_hasPartner : Mth := (8, ⟨"SeesawPark", "hasPartner", "(I)Z"⟩, prog_1_method_36_code, 4, (some .boolean), false, 1)
def m_X8_rateAs : Mth := (8, ⟨"SeesawPark", "rateAs", "(III)I"⟩, prog_1_method_37_code, 5, (some .int), false, 3)
def m_X9_in : Mth := (9, ⟨"SeesawParkModel", "in", "(III)Z"⟩, prog_11_method_3_code, 3, (some .boolean), true, 3)
def m_X9_size : Mth := (9, ⟨"SeesawParkModel", "size", "(I)I"⟩, prog_11_method_4_code, 1, (some .int), true, 1)
def m_X9_type : Mth := (9, ⟨"SeesawParkModel", "type", "(JI)I"⟩, prog_11_method_5_code, 5, (some .int), false, 2)
def m_X9_clear : Mth := (9, ⟨"SeesawParkModel", "clear", "()I"⟩, prog_11_method_6_code, 2, (some .int), false, 0)
def m_X9_byteAt : Mth := (9, ⟨"SeesawParkModel", "byteAt", "(I)I"⟩, prog_11_method_7_code, 2, (some .int), false, 1)
def m_X9_add : Mth := (9, ⟨"SeesawParkModel", "add", "(JI)J"⟩, prog_11_method_8_code, 3, (some .long), true, 2)
def m_X9_named : Mth := (9, ⟨"SeesawParkModel", "named", "(IIIII)J"⟩, prog_11_method_9_code, 5, (some .long), true, 5)
def m_X9_wordOf : Mth := (9, ⟨"SeesawParkModel", "wordOf", "(J)I"⟩, prog_11_method_10_code, 2, (some .int), true, 1)
def m_X9_advances : Mth := (9, ⟨"SeesawParkModel", "advances", "()V"⟩, prog_11_method_11_code, 4, none, false, 0)
def m_X9_isWell : Mth := (9, ⟨"SeesawParkModel", "isWell", "()Z"⟩, prog_11_method_12_code, 1, (some .boolean), false, 0)
def m_X9_takes : Mth := (9, ⟨"SeesawParkModel", "takes", "(Z)I"⟩, prog_11_method_13_code, 3, (some .int), false, 1)
def m_X9_number : Mth := (9, ⟨"SeesawParkModel", "number", "(II)I"⟩, prog_11_method_14_code, 3, (some .int), false, 2)
def m_X9_readsItem : Mth := (9, ⟨"SeesawParkModel", "readsItem", "(I)V"⟩, prog_11_method_15_code, 2, none, false, 1)
def m_X9_park : Mth := (9, ⟨"SeesawParkModel", "park", "()I"⟩, prog_11_method_16_code, 3, (some .int), false, 0)
def m_X9_begins : Mth := (9, ⟨"SeesawParkModel", "begins", "()V"⟩, prog_11_method_17_code, 2, none, false, 0)
def m_X9_isPlank : Mth := (9, ⟨"SeesawParkModel", "isPlank", "(I)Z"⟩, prog_11_method_18_code, 2, (some .boolean), false, 1)
def m_X9_isChild : Mth := (9, ⟨"SeesawParkModel", "isChild", "(I)Z"⟩, prog_11_method_19_code, 2, (some .boolean), false, 1)
def m_X9_isStone : Mth := (9, ⟨"SeesawParkModel", "isStone", "(I)Z"⟩, prog_11_method_20_code, 2, (some .boolean), false, 1)
def m_X9_stonesOn : Mth := (9, ⟨"SeesawParkModel", "stonesOn", "(I)I"⟩, prog_11_method_21_code, 4, (some .int), false, 1)
def m_X9_momentOf : Mth := (9, ⟨"SeesawParkModel", "momentOf", "(I)I"⟩, prog_11_method_22_code, 4, (some .int), false, 1)
def m_X9_tiltBy : Mth := (9, ⟨"SeesawParkModel", "tiltBy", "(II)I"⟩, prog_11_method_23_code, 3, (some .int), false, 2)
def m_X9_tiltOf : Mth := (9, ⟨"SeesawParkModel", "tiltOf", "(I)I"⟩, prog_11_method_24_code, 2, (some .int), false, 1)
def m_X9_sittingOn : Mth := (9, ⟨"SeesawParkModel", "sittingOn", "(I)I"⟩, prog_11_method_25_code, 4, (some .int), false, 1)
def m_X9_plank : Mth := (9, ⟨"SeesawParkModel", "plank", "(II)I"⟩, prog_11_method_26_code, 3, (some .int), false, 2)
def m_X9_child : Mth := (9, ⟨"SeesawParkModel", "child", "(II)I"⟩, prog_11_method_27_code, 3, (some .int), false, 2)
def m_X9_stone : Mth := (9, ⟨"SeesawParkModel", "stone", "(II)I"⟩, prog_11_method_28_code, 3, (some .int), false, 2)
def m_X9_bumps : Mth := (9, ⟨"SeesawParkModel", "bumps", "(II)I"⟩, prog_11_method_29_code, 7, (some .int), false, 2)
def m_X9_goes : Mth := (9, ⟨"SeesawParkModel", "goes", "(II)I"⟩, prog_11_method_30_code, 5, (some .int), false, 2)
def m_X9_comes : Mth := (9, ⟨"SeesawParkModel", "comes", "(IIII)I"⟩, prog_11_method_31_code, 6, (some .int), false, 4)
def m_X9_sits : Mth := (9, ⟨"SeesawParkModel", "sits", "(III)I"⟩, prog_11_method_32_code, 5, (some .int), false, 3)
def m_X9_leaves : Mth := (9, ⟨"SeesawParkModel", "leaves", "(I)I"⟩, prog_11_method_33_code, 2, (some .int), false, 1)
def m_X9_lay : Mth := (9, ⟨"SeesawParkModel", "lay", "(III)I"⟩, prog_11_method_34_code, 5, (some .int), false, 3)
def m_X9_take : Mth := (9, ⟨"SeesawParkModel", "take", "(I)I"⟩, prog_11_method_35_code, 2, (some .int), false, 1)
def m_X9_stepOf : Mth := (9, ⟨"SeesawParkModel", "stepOf", "(II)I"⟩, prog_11_method_36_code, 3, (some .int), false, 2)
def m_X9_seats : Mth := (9, ⟨"SeesawParkModel", "seats", "(I)V"⟩, prog_11_method_37_code, 3, none, false, 1)
def m_X9_freeSeat : Mth := (9, ⟨"SeesawParkModel", "freeSeat", "(II)I"⟩, prog_11_method_38_code, 6, (some .int), false, 2)
def m_X9_waysOf : Mth := (9, ⟨"SeesawParkModel", "waysOf", "(III)I"⟩, prog_11_method_39_code, 9, (some .int), false, 3)
def m_X9_all : Mth := (9, ⟨"SeesawParkModel", "all", "()I"⟩, prog_11_method_40_code, 1, (some .int), false, 0)
def m_X9_ways : Mth := (9, ⟨"SeesawParkModel", "ways", "(III)I"⟩, prog_11_method_41_code, 7, (some .int), false, 3)
def m_X9_ones : Mth := (9, ⟨"SeesawParkModel", "ones", "(I)I"⟩, prog_11_method_42_code, 3, (some .int), true, 1)
def m_X9_most : Mth := (9, ⟨"SeesawParkModel", "most", "(II)I"⟩, prog_11_method_43_code, 6, (some .int), false, 2)
def m_X9_moves : Mth := (9, ⟨"SeesawParkModel", "moves", "(I)I"⟩, prog_11_method_44_code, 10, (some .int), false, 1)
def m_X9_hasStone : Mth := (9, ⟨"SeesawParkModel", "hasStone", "(II)Z"⟩, prog_11_method_45_code, 5, (some .boolean), false, 2)
def m_X9_levels : Mth := (9, ⟨"SeesawParkModel", "levels", "(II)Z"⟩, prog_11_method_46_code, 8, (some .boolean), false, 2)
def m_X9_ballast : Mth := (9, ⟨"SeesawParkModel", "ballast", "(II)I"⟩, prog_11_method_47_code, 7, (some .int), false, 2)
def m_X9_isTaken : Mth := (9, ⟨"SeesawParkModel", "isTaken", "(II)Z"⟩, prog_11_method_48_code, 5, (some .boolean), false, 2)
def m_X9_mayPut : Mth := (9, ⟨"SeesawParkModel", "mayPut", "(IIIIII)Z"⟩, prog_11_method_49_code, 8, (some .boolean), false, 6)
def m_X9_lastMove : Mth := (9, ⟨"SeesawParkModel", "lastMove", "(IIII)I"⟩, prog_11_method_50_code, 7, (some .int), false, 4)
def m_X9_twoMoves : Mth := (9, ⟨"SeesawParkModel", "twoMoves", "(IIII)I"⟩, prog_11_method_51_code, 7, (some .int), false, 4)
def m_X9_threeMoves : Mth := (9, ⟨"SeesawParkModel", "threeMoves", "(IIII)I"⟩, prog_11_method_52_code, 7, (some .int), false, 4)
def m_X9_fourMoves : Mth := (9, ⟨"SeesawParkModel", "fourMoves", "(II)I"⟩, prog_11_method_53_code, 5, (some .int), false, 2)
def m_X9_game : Mth := (9, ⟨"SeesawParkModel", "game", "(II)I"⟩, prog_11_method_54_code, 6, (some .int), false, 2)
def m_X9_strangers : Mth := (9, ⟨"SeesawParkModel", "strangers", "(I)I"⟩, prog_11_method_55_code, 3, (some .int), false, 1)
def m_X9_isStranger : Mth := (9, ⟨"SeesawParkModel", "isStranger", "(I)Z"⟩, prog_11_method_56_code, 2, (some .boolean), false, 1)
def m_X9_trial : Mth := (9, ⟨"SeesawParkModel", "trial", "(III)I"⟩, prog_11_method_57_code, 4, (some .int), false, 3)
def m_X9_weightIn : Mth := (9, ⟨"SeesawParkModel", "weightIn", "(II)I"⟩, prog_11_method_58_code, 4, (some .int), true, 2)
def m_X9_weighs : Mth := (9, ⟨"SeesawParkModel", "weighs", "(III)I"⟩, prog_11_method_59_code, 4, (some .int), true, 3)
def m_X9_allWays : Mth := (9, ⟨"SeesawParkModel", "allWays", "()I"⟩, prog_11_method_60_code, 3, (some .int), false, 0)
def m_X9_fits : Mth := (9, ⟨"SeesawParkModel", "fits", "(I)Z"⟩, prog_11_method_61_code, 4, (some .boolean), false, 1)
def m_X9_couldBe : Mth := (9, ⟨"SeesawParkModel", "couldBe", "(II)I"⟩, prog_11_method_62_code, 5, (some .int), false, 2)
def m_X9_could : Mth := (9, ⟨"SeesawParkModel", "could", "(II)I"⟩, prog_11_method_63_code, 3, (some .int), false, 2)
def m_X9_sure : Mth := (9, ⟨"SeesawParkModel", "sure", "(I)I"⟩, prog_11_method_64_code, 5, (some .int), false, 1)
def m_X9_next : Mth := (9, ⟨"SeesawParkModel", "next", "(I)I"⟩, prog_11_method_65_code, 10, (some .int), false, 1)
def m_X9_areAPair : Mth := (9, ⟨"SeesawParkModel", "areAPair", "(III)Z"⟩, prog_11_method_66_code, 4, (some .boolean), false, 3)
def m_X9_waits : Mth := (9, ⟨"SeesawParkModel", "waits", "(I)V"⟩, prog_11_method_67_code, 2, none, false, 1)
def m_X9_letsOff : Mth := (9, ⟨"SeesawParkModel", "letsOff", "(I)V"⟩, prog_11_method_68_code, 4, none, false, 1)
def m_X9_lesser : Mth := (9, ⟨"SeesawParkModel", "lesser", "(II)I"⟩, prog_11_method_69_code, 2, (some .int), true, 2)
def m_X9_outOfRow : Mth := (9, ⟨"SeesawParkModel", "outOfRow", "(I)V"⟩, prog_11_method_70_code, 3, none, false, 1)
def m_X9_takesOn : Mth := (9, ⟨"SeesawParkModel", "takesOn", "(II)V"⟩, prog_11_method_71_code, 5, none, false, 2)
def m_X9_goesBy : Mth := (9, ⟨"SeesawParkModel", "goesBy", "(I)V"⟩, prog_11_method_72_code, 4, none, false, 1)
def m_X9_rides : Mth := (9, ⟨"SeesawParkModel", "rides", "(II)I"⟩, prog_11_method_73_code, 3, (some .int), false, 2)
def m_X9_forever : Mth := (9, ⟨"SeesawParkModel", "forever", "()I"⟩, prog_11_method_74_code, 6, (some .int), false, 0)
def m_X9_rate : Mth := (9, ⟨"SeesawParkModel", "rate", "(II)I"⟩, prog_11_method_75_code, 5, (some .int), false, 2)
def m_X9_sitting : Mth := (9, ⟨"SeesawParkModel", "sitting", "()I"⟩, prog_11_method_76_code, 3, (some .int), false, 0)
def m_X9_keep : Mth := (9, ⟨"SeesawParkModel", "keep", "(I)I"⟩, prog_11_method_77_code, 3, (some .int), false, 1)
def m_X9_back : Mth := (9, ⟨"SeesawParkModel", "back", "(I)I"⟩, prog_11_method_78_code, 3, (some .int), false, 1)
def m_X9_count : Mth := (9, ⟨"SeesawParkModel", "count", "(I)I"⟩, prog_11_method_79_code, 2, (some .int), false, 1)
def m_X9_trace : Mth := (9, ⟨"SeesawParkModel", "trace", "()J"⟩, prog_11_method_80_code, 1, (some .long), false, 0)
def m_J6_bitCount_0f7a4 : Mth := (10, ⟨"java/lang/Integer", "bitCount", "(I)I"⟩, prog_12_method_49_code, 1, (some .int), true, 1)
def m_J6_signum_0f7a4 : Mth := (10, ⟨"java/lang/Integer", "signum", "(I)I"⟩, prog_12_method_56_code, 1, (some .int), true, 1)
def m_J0_length_8abf5 : Mth := (13, ⟨"java/lang/String", "length", "()I"⟩, prog_14_method_54_code, 1, (some .int), false, 0)
def m_J0_charAt_5068e : Mth := (13, ⟨"java/lang/String", "charAt", "(I)C"⟩, prog_14_method_56_code, 2, (some .char), false, 1)
def m_J0_coder_7d493 : Mth := (13, ⟨"java/lang/String", "coder", "()B"⟩, prog_14_method_152_code, 1, (some .byte), false, 0)
def m_J0_isLatin1_aae02 : Mth := (13, ⟨"java/lang/String", "isLatin1", "()Z"⟩, prog_14_method_154_code, 1, (some .boolean), false, 0)
def m_J0_checkIndex_df160 : Mth := (13, ⟨"java/lang/String", "checkIndex", "(II)V"⟩, prog_14_method_155_code, 2, none, true, 2)
def m_J1_charAt_3b067 : Mth := (14, ⟨"java/lang/StringLatin1", "charAt", "([BI)C"⟩, prog_15_method_2_code, 2, (some .char), true, 2)
def m_J7_fill_53178 : Mth := (12, ⟨"java/util/Arrays", "fill", "([II)V"⟩, prog_18_method_103_code, 4, none, true, 2)
def m_J3_checkIndex_8e157 : Mth := (15, ⟨"jdk/internal/util/Preconditions", "checkIndex", "(IILjava/util/function/BiFunction;)I"⟩, prog_19_method_11_code, 3, (some .int), true, 3)
abbrev Shp : Type := (Nat × Nat) ⊕ (Nat × List (Nat × Nat))
def shp : List Shp := [.inr (8, [(2, 1), (2, 7), (2, 13), (2, 19), (2, 25), (2, 33), (2, 39), (2, 41), (2, 44), (2, 51), (1, 0)]), .inr (3, [(2, 2), (2, 3), (2, 4), (2, 5), (2, 6), (0, 0), (0, 0), (0, 0)]), .inl (0, 3), .inl (0, 3), .inl (0, 8), .inl (0, 8), .inl (0, 5), .inr (4, [(2, 1), (2, 8), (2, 9), (2, 10), (2, 11), (2, 12), (3, 0)]), .inl (0, 8), .inl (0, 8), .inl (0, 8), .inl (0, 5), .inl (0, 5), .inr (4, [(2, 1), (2, 14), (2, 15), (2, 16), (2, 17), (2, 18), (3, 0)]), .inl (0, 8), .inl (0, 8), .inl (0, 8), .inl (0, 5), .inl (0, 5), .inr (4, [(2, 1), (2, 20), (2, 21), (2, 22), (2, 23), (2, 24), (3, 0)]), .inl (0, 8), .inl (0, 8), .inl (0, 8), .inl (0, 5), .inl (0, 5), .inr (6, [(2, 26), (2, 32), (0, 0), (0, 0), (0, 0), (0, 0), (0, 0)]), .inr (3, [(2, 27), (2, 28), (2, 29), (2, 30), (2, 31), (0, 0), (0, 0), (0, 0)]), .inl (0, 3), .inl (0, 3), .inl (0, 8), .inl (0, 8), .inl (0, 5), .inl (0, 300), .inr (5, [(2, 34), (2, 35), (2, 36), (2, 37), (2, 38), (0, 0), (0, 0), (0, 0), (0, 0), (0, 0)]), .inl (0, 8), .inl (0, 8), .inl (0, 8), .inl (0, 8), .inl (0, 9), .inr (1, [(2, 40)]), .inl (2, 4864), .inr (0, [(2, 42), (2, 43), (0, 0), (0, 0), (0, 0)]), .inl (0, 8), .inl (0, 8), .inr (7, [(2, 45), (2, 46), (2, 47), (2, 48), (2, 49), (2, 50), (0, 0), (0, 0), (0, 0), (3, 0)]), .inl (0, 12), .inl (0, 12), .inl (0, 12), .inl (0, 5), .inl (0, 35), .inl (0, 75), .inr (2, [(2, 1), (2, 52), (2, 53), (2, 54), (2, 55), (0, 0)]), .inl (0, 8), .inl (0, 8), .inl (0, 3), .inl (0, 3), .inr (9, [(0, 0), (1, 0), (2, 57), (0, 0), (0, 0), (0, 0), (0, 0), (0, 0), (0, 0), (2, 58), (2, 59), (2, 60), (2, 61), (2, 62), (0, 0), (0, 0), (0, 0), (0, 0), (0, 0), (0, 0), (2, 63), (2, 64), (2, 65), (2, 66), (0, 0), (2, 67), (2, 68), (0, 0), (2, 69), (0, 0), (2, 70), (2, 71), (0, 0), (2, 72), (2, 73), (2, 74)]), .inl (0, 300), .inl (0, 6), .inl (0, 6), .inl (0, 16), .inl (0, 16), .inl (0, 10), .inl (0, 34), .inl (0, 68), .inl (1, 2), .inl (0, 8), .inl (0, 8), .inl (0, 8), .inl (0, 36), .inl (0, 8), .inl (0, 8), .inl (0, 3), .inl (0, 3), .inl (0, 3)]
def m_copy : Mth := (16, arraycopyName, ⟨#[]⟩, 0, none, true, 5)
def cll0 : List (Nat × Mth × Nat) := [(28, m_copy, 3), (45, m_X8_stepOfSeat, 2), (49, m_X4_hasChildAt, 0), (55, m_X0_moveFrom, 0), (59, m_copy, 4)]
def cll1 : List (Nat × Mth × Nat) := [(27, m_X8_stepOfSeat, 2), (31, m_X1_addSeatOf, 0), (38, m_X1_mergeShifted, 0), (42, m_X1_wordAt, 0), (46, m_J6_bitCount_0f7a4, 1), (52, m_X1_canLevel, 0)]
def cll2 : List (Nat × Mth × Nat) := [(37, m_X2_joinRow, 0), (44, m_X2_letOff, 0), (47, m_X2_letOn, 0), (50, m_X2_rideOn, 0), (53, m_X2_wantsMore, 0), (60, m_X3_fits, 0), (64, m_X2_leaveRow, 0)]
def cll3 : List (Nat × Mth × Nat) := [(37, m_copy, 3), (43, m_X3_hasPlank, 0), (47, m_copy, 4)]
def cll4 : List (Nat × Mth × Nat) := [(31, m_copy, 3), (46, m_X4_idleChildren, 0), (50, m_J6_bitCount_0f7a4, 1), (59, m_X4_stoneMoment, 0), (65, m_X4_moment, 0), (68, m_copy, 4), (76, m_X4_tilt, 0), (79, m_X4_settle, 0), (83, m_J6_signum_0f7a4, 1)]
def cll5 : List (Nat × Mth × Nat) := [(40, m_X5_measureReach, 0), (43, m_X5_countFrom, 0), (47, m_X5_findFrom, 0), (54, m_X5_changeFrom, 0), (58, m_copy, 4), (64, m_X5_isHopeless, 0)]
def cll6 : List (Nat × Mth × Nat) := [(26, m_X3_forget, 0), (32, m_X6_readToken, 0), (38, m_X6_readPlank, 0), (42, m_X6_readChild, 0), (45, m_X6_readStone, 0), (51, m_X6_readNumber, 0), (64, m_X6_readSemicolon, 0), (85, m_X6_isLetter, 1), (89, m_X6_readWord, 0), (92, m_X6_isDigit, 1), (95, m_X6_readDigits, 0), (100, m_X6_spells, 0), (108, m_J0_length_8abf5, 0), (113, m_J0_charAt_5068e, 0), (117, m_copy, 6)]
def cll7 : List (Nat × Mth × Nat) := [(39, m_X7_survey, 0), (45, m_X7_fittingWith, 0), (49, m_X7_leftAtWorst, 0), (52, m_X7_outcomeCell, 1), (56, m_copy, 5), (61, m_J7_fill_53178, 1), (67, m_X7_guessFrom, 0), (71, m_X7_guessFits, 0), (75, m_X7_tally, 0), (78, m_J6_signum_0f7a4, 1)]
def cll8 : List (Nat × Mth × Nat) := [(83, m_X6_append, 0), (87, m_X6_readAll, 0), (97, m_X3_copyFrom, 0), (100, m_X4_reset, 0), (107, m_X3_hasPlank, 0), (119, m_X4_moment, 0), (123, m_X4_tilt, 0), (126, m_X4_childrenOn, 0), (129, m_J6_bitCount_0f7a4, 1), (134, m_X3_hasChild, 0), (152, m_X3_hasStone, 0), (164, m_X3_hasSeat, 0), (168, m_X4_hasChildAt, 0), (171, m_X4_unseatChild, 0), (174, m_X4_seatChild, 0), (178, m_X4_hasStoneAt, 0), (181, m_X4_liftStone, 0), (184, m_X4_putStone, 0), (187, m_X3_allChildren, 0), (190, m_X8_askWays, 0), (194, m_X5_countWays, 0), (197, m_X5_findFirst, 0), (201, m_X5_chosenStep, 0), (204, m_X8_isZeroOrOne, 1), (207, m_X1_spread, 0), (214, m_X4_stoneMoment, 0), (217, m_X1_largestLevel, 0), (220, m_X8_countOrSet, 1), (224, m_X5_fewestChanges, 0), (227, m_X8_leastBallast, 0), (230, m_X4_idleChildren, 0), (233, m_X0_begin, 0), (237, m_X0_winningMove, 0), (243, m_X7_begin, 0), (245, m_X7_hasStranger, 0), (251, m_X7_addTrial, 0), (255, m_X7_fitting, 0), (258, m_X7_fittingWith, 0), (261, m_X7_onlyWeight, 0), (264, m_X7_bestPair, 0), (267, m_X7_leftAtWorst, 0), (270, m_X2_run, 0), (279, m_X8_hasPartner, 0), (282, m_X8_rateAs, 0), (285, m_X8_imageOf, 0), (289, m_X4_copyFrom, 0), (292, m_X4_seatedChildren, 0), (301, m_X5_begin, 0), (303, m_X8_stepOfSeat, 1), (306, m_X5_addSeat, 0), (309, m_X5_addBody, 0), (312, m_X4_idleStones, 0), (315, m_X8_canBallast, 0), (318, m_X3_fits, 0)]
def cll9 : List (Nat × Mth × Nat) := [(69, m_X9_begins, 0), (75, m_X9_in, 1), (86, m_X9_add, 1), (90, m_X9_named, 1), (97, m_X9_byteAt, 0), (107, m_X9_wordOf, 1), (117, m_X9_isWell, 0), (121, m_X9_advances, 0), (124, m_X9_takes, 0), (131, m_X9_number, 0), (141, m_X9_readsItem, 0), (154, m_X9_stonesOn, 0), (157, m_X9_size, 1), (160, m_X9_momentOf, 0), (163, m_X9_tiltBy, 0), (166, m_X9_isPlank, 0), (171, m_X9_tiltOf, 0), (174, m_X9_sittingOn, 0), (177, m_X9_isChild, 0), (180, m_X9_isStone, 0), (183, m_X9_bumps, 0), (186, m_X9_goes, 0), (189, m_X9_comes, 0), (196, m_X9_seats, 0), (199, m_X9_freeSeat, 0), (202, m_X9_stepOf, 0), (205, m_X9_all, 0), (210, m_X9_waysOf, 0), (214, m_X9_ones, 1), (217, m_X9_hasStone, 0), (221, m_X9_levels, 0), (224, m_X9_isTaken, 0), (227, m_X9_mayPut, 0), (231, m_X9_lastMove, 0), (234, m_X9_twoMoves, 0), (237, m_X9_threeMoves, 0), (240, m_X9_fourMoves, 0), (246, m_X9_isStranger, 0), (249, m_X9_weightIn, 1), (252, m_X9_weighs, 1), (255, m_X9_allWays, 0), (258, m_X9_fits, 0), (261, m_X9_couldBe, 0), (267, m_X9_lesser, 1), (270, m_X9_waits, 0), (273, m_X9_areAPair, 0), (276, m_X9_outOfRow, 0), (279, m_X9_letsOff, 0), (282, m_X9_takesOn, 0), (286, m_X9_goesBy, 0), (303, m_X9_sitting, 0)]
def cll10 : List (Nat × Mth × Nat) := []
def cll11 : List (Nat × Mth × Nat) := []
def cll12 : List (Nat × Mth × Nat) := []
def cll13 : List (Nat × Mth × Nat) := [(335, m_J0_coder_7d493, 0), (492, m_J0_isLatin1_aae02, 0), (495, m_J1_charAt_3b067, 1), (1059, m_J3_checkIndex_8e157, 1)]
def cll14 : List (Nat × Mth × Nat) := [(9, m_J0_checkIndex_df160, 1)]
def cll15 : List (Nat × Mth × Nat) := []
def cll : List (List (Nat × Mth × Nat)) := [cll0, cll1, cll2, cll3, cll4, cll5, cll6, cll7, cll8, cll9, cll10, cll11, cll12, cll13, cll14, cll15]
def fll0 : List (Nat × Nat × Nat) := [(9, 0, 0), (15, 0, 1), (18, 3, 6), (24, 0, 2), (25, 3, 2), (34, 3, 1), (37, 0, 4), (39, 0, 3), (42, 3, 0)]
def kil0 : List (Nat × Int32) := []
def kll0 : List (Nat × Int64) := []
def fll1 : List (Nat × Nat × Nat) := [(11, 1, 0), (15, 3, 6), (23, 3, 0), (35, 3, 2)]
def kil1 : List (Nat × Int32) := []
def kll1 : List (Nat × Int64) := [(21, 16777216)]
def fll2 : List (Nat × Nat × Nat) := [(9, 2, 1), (15, 2, 2), (18, 2, 3), (21, 2, 4), (24, 2, 0), (28, 2, 5), (32, 3, 6), (41, 3, 5), (57, 3, 3)]
def kil2 : List (Nat × Int32) := []
def kll2 : List (Nat × Int64) := []
def fll3 : List (Nat × Nat × Nat) := [(9, 3, 0), (15, 3, 1), (18, 3, 2), (21, 3, 3), (24, 3, 4), (27, 3, 5), (31, 3, 6), (34, 3, 7)]
def kil3 : List (Nat × Int32) := []
def kll3 : List (Nat × Int64) := []
def fll4 : List (Nat × Nat × Nat) := [(9, 4, 1), (15, 4, 2), (18, 4, 3), (21, 4, 4), (24, 4, 5), (27, 4, 0), (37, 3, 6), (43, 3, 7), (56, 3, 4), (62, 3, 2), (73, 3, 1)]
def kil4 : List (Nat × Int32) := []
def kll4 : List (Nat × Int64) := []
def fll5 : List (Nat × Nat × Nat) := [(9, 5, 0), (15, 5, 1), (18, 5, 2), (21, 5, 3), (24, 5, 4), (27, 5, 5), (31, 5, 6), (34, 5, 7), (37, 5, 8), (51, 5, 9)]
def kil5 : List (Nat × Int32) := []
def kll5 : List (Nat × Int64) := []
def fll6 : List (Nat × Nat × Nat) := [(12, 6, 0), (18, 6, 1), (22, 6, 2), (29, 6, 4), (35, 6, 5), (48, 3, 5), (55, 3, 0), (58, 6, 6), (61, 3, 1), (67, 3, 6), (70, 3, 2), (73, 3, 3), (76, 3, 7), (79, 3, 4), (82, 6, 3)]
def kil6 : List (Nat × Int32) := []
def kll6 : List (Nat × Int64) := []
def fll7 : List (Nat × Nat × Nat) := [(9, 7, 0), (13, 7, 1), (16, 7, 2), (19, 7, 3), (22, 7, 4), (25, 7, 5), (28, 7, 6), (32, 7, 7), (35, 7, 9), (42, 7, 8)]
def kil7 : List (Nat × Int32) := []
def kll7 : List (Nat × Int64) := []
def fll8 : List (Nat × Nat × Nat) := [(12, 8, 0), (21, 8, 1), (25, 8, 2), (28, 8, 3), (34, 8, 4), (41, 8, 5), (48, 8, 6), (55, 8, 7), (62, 8, 8), (69, 8, 9), (73, 8, 10), (77, 6, 2), (91, 6, 3), (94, 6, 0), (103, 4, 6), (112, 3, 0), (116, 3, 1), (137, 3, 2), (140, 3, 3), (143, 4, 2), (146, 4, 1), (149, 4, 3), (155, 3, 4), (158, 4, 5), (161, 4, 4), (211, 3, 6), (240, 7, 6), (248, 7, 7), (273, 2, 5), (276, 2, 1), (295, 3, 5), (298, 3, 7)]
def kil8 : List (Nat × Int32) := [(111, -1000000)]
def kll8 : List (Nat × Int64) := [(81, 255)]
def fll9 : List (Nat × Nat × Nat) := [(7, 9, 2), (13, 9, 9), (16, 9, 10), (19, 9, 11), (22, 9, 12), (25, 9, 13), (28, 9, 20), (31, 9, 21), (34, 9, 22), (38, 9, 23), (41, 9, 25), (44, 9, 26), (47, 9, 28), (50, 9, 30), (53, 9, 31), (56, 9, 33), (59, 9, 34), (62, 9, 35), (65, 9, 27), (72, 9, 0), (79, 9, 3), (94, 9, 4), (101, 9, 6), (104, 9, 5), (111, 9, 7), (114, 9, 8), (128, 9, 17), (135, 9, 18), (138, 9, 19), (145, 9, 14), (148, 9, 15), (151, 9, 16), (193, 9, 24), (243, 9, 29), (264, 9, 32), (289, 9, 1)]
def kil9 : List (Nat × Int32) := [(170, -1000000), (209, 1000000)]
def kll9 : List (Nat × Int64) := [(82, 255), (84, 256), (293, 11), (295, 101), (297, 1011), (299, 10101), (301, 100001)]
def fll10 : List (Nat × Nat × Nat) := []
def kil10 : List (Nat × Int32) := [(265, 1431655765), (266, 858993459), (267, 252645135)]
def kll10 : List (Nat × Int64) := []
def fll11 : List (Nat × Nat × Nat) := []
def kil11 : List (Nat × Int32) := []
def kll11 : List (Nat × Int64) := []
def fll12 : List (Nat × Nat × Nat) := []
def kil12 : List (Nat × Int32) := []
def kll12 : List (Nat × Int64) := []
def fll13 : List (Nat × Nat × Nat) := []
def kil13 : List (Nat × Int32) := []
def kll13 : List (Nat × Int64) := []
def fll14 : List (Nat × Nat × Nat) := []
def kil14 : List (Nat × Int32) := []
def kll14 : List (Nat × Int64) := []
def fll15 : List (Nat × Nat × Nat) := []
def kil15 : List (Nat × Int32) := []
def kll15 : List (Nat × Int64) := []
def fll : List (List (Nat × Nat × Nat)) := [fll0, fll1, fll2, fll3, fll4, fll5, fll6, fll7, fll8, fll9, fll10, fll11, fll12, fll13, fll14, fll15]
def kil : List (List (Nat × Int32)) := [kil0, kil1, kil2, kil3, kil4, kil5, kil6, kil7, kil8, kil9, kil10, kil11, kil12, kil13, kil14, kil15]
def kll : List (List (Nat × Int64)) := [kll0, kll1, kll2, kll3, kll4, kll5, kll6, kll7, kll8, kll9, kll10, kll11, kll12, kll13, kll14, kll15]
def lkp {α : Type} : List (Nat × α) → Nat → Option α
  | [], _ => none
  | q :: r, i => if q.1 = i then some q.2 else lkp r i
theorem lkp_mem {α : Type} : ∀ {l : List (Nat × α)} {i : Nat} {a : α}, lkp l i = some a → (i, a) ∈ l
  | q :: r, i, a, h => by
    unfold lkp at h
    by_cases hq : q.1 = i
    · rw [if_pos hq] at h; cases h; subst hq; exact List.mem_cons_self
    · rw [if_neg hq] at h; exact List.mem_cons_of_mem _ (lkp_mem h)
def nmo (own : Nat) : String := cnm.getD own ""
def fcl (ci : Nat) : vw_C := cls.getD ci ("", T0, 0)
def flw (own : Nat) (q : Nat × Nat × Nat) : Cond := .fieldLink (nmo own) q.1 ((fcl q.2.1).2.1 q.2.2).1 ((fcl q.2.1).2.1 q.2.2).2.1 ((fcl q.2.1).2.1 q.2.2).2.2.1
def flok (own : Nat) (q : Nat × Nat × Nat) : Prop := flw own q ∈ gw ∧ q.2.1 < 10 ∧ q.2.2 < (fcl q.2.1).2.2
def clok (own : Nat) (q : Nat × Mth × Nat) : Prop := match q.2.2 with
  | 2 => True
  | 3 => Cond.methodLink (nmo own) q.1 arraycopyName ∈ gw ∧ Cond.native arraycopyName ∈ gw ∧ Cond.static arraycopyName ∈ gw ∧ Cond.initialized "java/lang/System" ∈ gw
  | 4 => Cond.methodLink (nmo own) q.1 Lib.Math.abs.name ∈ gw
  | 5 => Cond.methodLink (nmo own) q.1 Lib.Math.max.name ∈ gw
  | 6 => Cond.methodLink (nmo own) q.1 Lib.Math.min.name ∈ gw
  | _ => Cond.methodLink (nmo own) q.1 q.2.1.2.1 ∈ gw
def mcode (μ : Mth) : Cond := .code μ.2.1 μ.2.2.1 μ.2.2.2.1 μ.2.2.2.2.1
def mok (μ : Mth) : Prop := mcode μ ∈ gw ∧ Cond.initialized μ.2.1.cls ∈ gw ∧ nmo μ.1 = μ.2.1.cls ∧ (μ.2.1.cls ≠ "java/lang/invoke/MethodHandle" ∧ μ.2.1.cls ≠ "java/lang/invoke/VarHandle" ∧ (parseMethodDescriptor μ.2.1.desc).map (fun d => d.parameters.length) = some μ.2.2.2.2.2.2) ∧ μ.2.2.2.1 ≤ 30 ∧ plainName μ.2.1.cls = true ∧
  (if μ.2.2.2.2.2.1 = true then Cond.static μ.2.1 ∈ gw else Cond.instanceMethod μ.2.1 ∈ gw ∧ Cond.selects μ.2.1.cls μ.2.1 μ.2.1 ∈ gw)
theorem gt1 {i : Nat} {w : Cond} (h0 : tables_1_1[i]? = some w) (hg : goodWord w = true) : w ∈ gw := by
  have h := List.mem_of_getElem? h0
  have h1 : w ∈ tables_1 := List.mem_append_left _ h
  exact List.mem_filter.mpr ⟨List.mem_append_right _ h1, hg⟩
theorem gp1 {i : Nat} {y : MethodName} {n : Nat} (h0 : lw_privs_1[i]? = some (y, n)) : Cond.selects y.cls y y ∈ gw := by
  have h := List.mem_of_getElem? h0
  have h1 : (y, n) ∈ lw_privs := List.mem_append_left _ h
  exact List.mem_filter.mpr ⟨List.mem_append_left _ (List.mem_map.mpr ⟨(y, n), h1, rfl⟩), rfl⟩
theorem gt2 {i : Nat} {w : Cond} (h0 : tables_1_2[i]? = some w) (hg : goodWord w = true) : w ∈ gw := by
  have h := List.mem_of_getElem? h0
  have h1 : w ∈ tables_1 := List.mem_append_right _ (List.mem_append_left _ h)
  exact List.mem_filter.mpr ⟨List.mem_append_right _ h1, hg⟩
theorem gp2 {i : Nat} {y : MethodName} {n : Nat} (h0 : lw_privs_2[i]? = some (y, n)) : Cond.selects y.cls y y ∈ gw := by
  have h := List.mem_of_getElem? h0
  have h1 : (y, n) ∈ lw_privs := List.mem_append_right _ (List.mem_append_left _ h)
  exact List.mem_filter.mpr ⟨List.mem_append_left _ (List.mem_map.mpr ⟨(y, n), h1, rfl⟩), rfl⟩
theorem gt3 {i : Nat} {w : Cond} (h0 : tables_1_3[i]? = some w) (hg : goodWord w = true) : w ∈ gw := by
  have h := List.mem_of_getElem? h0
  have h1 : w ∈ tables_1 := List.mem_append_right _ (List.mem_append_right _ (List.mem_append_left _ h))
  exact List.mem_filter.mpr ⟨List.mem_append_right _ h1, hg⟩
theorem gp3 {i : Nat} {y : MethodName} {n : Nat} (h0 : lw_privs_3[i]? = some (y, n)) : Cond.selects y.cls y y ∈ gw := by
  have h := List.mem_of_getElem? h0
  have h1 : (y, n) ∈ lw_privs := List.mem_append_right _ (List.mem_append_right _ (List.mem_append_left _ h))
  exact List.mem_filter.mpr ⟨List.mem_append_left _ (List.mem_map.mpr ⟨(y, n), h1, rfl⟩), rfl⟩
theorem gt4 {i : Nat} {w : Cond} (h0 : tables_1_4[i]? = some w) (hg : goodWord w = true) : w ∈ gw := by
  have h := List.mem_of_getElem? h0
  have h1 : w ∈ tables_1 := List.mem_append_right _ (List.mem_append_right _ (List.mem_append_right _ (List.mem_append_left _ h)))
  exact List.mem_filter.mpr ⟨List.mem_append_right _ h1, hg⟩
theorem gp4 {i : Nat} {y : MethodName} {n : Nat} (h0 : lw_privs_4[i]? = some (y, n)) : Cond.selects y.cls y y ∈ gw := by
  have h := List.mem_of_getElem? h0
  have h1 : (y, n) ∈ lw_privs := List.mem_append_right _ (List.mem_append_right _ (List.mem_append_right _ (List.mem_append_left _ h)))
  exact List.mem_filter.mpr ⟨List.mem_append_left _ (List.mem_map.mpr ⟨(y, n), h1, rfl⟩), rfl⟩
theorem gt5 {i : Nat} {w : Cond} (h0 : tables_1_5[i]? = some w) (hg : goodWord w = true) : w ∈ gw := by
  have h := List.mem_of_getElem? h0
  have h1 : w ∈ tables_1 := List.mem_append_right _ (List.mem_append_right _ (List.mem_append_right _ (List.mem_append_right _ (List.mem_append_left _ h))))
  exact List.mem_filter.mpr ⟨List.mem_append_right _ h1, hg⟩
theorem gp5 {i : Nat} {y : MethodName} {n : Nat} (h0 : lw_privs_5[i]? = some (y, n)) : Cond.selects y.cls y y ∈ gw := by
  have h := List.mem_of_getElem? h0
  have h1 : (y, n) ∈ lw_privs := List.mem_append_right _ (List.mem_append_right _ (List.mem_append_right _ (List.mem_append_right _ (h))))
  exact List.mem_filter.mpr ⟨List.mem_append_left _ (List.mem_map.mpr ⟨(y, n), h1, rfl⟩), rfl⟩
theorem gt6 {i : Nat} {w : Cond} (h0 : tables_1_6[i]? = some w) (hg : goodWord w = true) : w ∈ gw := by
  have h := List.mem_of_getElem? h0
  have h1 : w ∈ tables_1 := List.mem_append_right _ (List.mem_append_right _ (List.mem_append_right _ (List.mem_append_right _ (List.mem_append_right _ (h)))))
  exact List.mem_filter.mpr ⟨List.mem_append_right _ h1, hg⟩
theorem ini_0 : Cond.initialized "SeesawPark$Contest" ∈ gw := (gt1 (i := 7) rfl rfl)
theorem ini_1 : Cond.initialized "SeesawPark$Crowd" ∈ gw := (gt1 (i := 6) rfl rfl)
theorem ini_2 : Cond.initialized "SeesawPark$Queue" ∈ gw := (gt1 (i := 9) rfl rfl)
theorem ini_3 : Cond.initialized "SeesawPark$Roster" ∈ gw := (gt1 (i := 2) rfl rfl)
theorem ini_4 : Cond.initialized "SeesawPark$Scene" ∈ gw := (gt1 (i := 3) rfl rfl)
theorem ini_5 : Cond.initialized "SeesawPark$Seating" ∈ gw := (gt1 (i := 5) rfl rfl)
theorem ini_6 : Cond.initialized "SeesawPark$Told" ∈ gw := (gt1 (i := 4) rfl rfl)
theorem ini_7 : Cond.initialized "SeesawPark$Weighing" ∈ gw := (gt1 (i := 8) rfl rfl)
theorem ini_8 : Cond.initialized "SeesawPark" ∈ gw := (gt1 (i := 1) rfl rfl)
theorem ini_9 : Cond.initialized "SeesawParkModel" ∈ gw := (gt1 (i := 10) rfl rfl)
theorem ini_10 : Cond.initialized "java/lang/Integer" ∈ gw := (gt1 (i := 17) rfl rfl)
theorem ini_11 : Cond.initialized "java/lang/Math" ∈ gw := (gt1 (i := 15) rfl rfl)
theorem ini_12 : Cond.initialized "java/util/Arrays" ∈ gw := (gt1 (i := 18) rfl rfl)
theorem ini_13 : Cond.initialized "java/lang/String" ∈ gw := (gt1 (i := 11) rfl rfl)
theorem ini_14 : Cond.initialized "java/lang/StringLatin1" ∈ gw := (gt1 (i := 12) rfl rfl)
theorem ini_15 : Cond.initialized "jdk/internal/util/Preconditions" ∈ gw := (gt1 (i := 13) rfl rfl)
theorem mt_abs_c : Cond.code Lib.Math.abs.name Lib.Math.abs.code 1 (some .int) ∈ gw := (gt3 (i := 3) rfl rfl)
theorem mt_abs_s : Cond.static Lib.Math.abs.name ∈ gw := (gt3 (i := 2) rfl rfl)
theorem mt_max_c : Cond.code Lib.Math.max.name Lib.Math.max.code 2 (some .int) ∈ gw := (gt4 (i := 67) rfl rfl)
theorem mt_max_s : Cond.static Lib.Math.max.name ∈ gw := (gt4 (i := 66) rfl rfl)
theorem mt_min_c : Cond.code Lib.Math.min.name Lib.Math.min.code 2 (some .int) ∈ gw := (gt2 (i := 186) rfl rfl)
theorem mt_min_s : Cond.static Lib.Math.min.name ∈ gw := (gt2 (i := 185) rfl rfl)
theorem fll0_0 : flok 0 (9, 0, 0) := ⟨(gt1 (i := 210) rfl rfl), by decide, by decide⟩
theorem fll0_1 : flok 0 (15, 0, 1) := ⟨(gt1 (i := 211) rfl rfl), by decide, by decide⟩
theorem fll0_2 : flok 0 (18, 3, 6) := ⟨(gt1 (i := 62) rfl rfl), by decide, by decide⟩
theorem fll0_3 : flok 0 (24, 0, 2) := ⟨(gt1 (i := 212) rfl rfl), by decide, by decide⟩
theorem fll0_4 : flok 0 (25, 3, 2) := ⟨(gt1 (i := 44) rfl rfl), by decide, by decide⟩
theorem fll0_5 : flok 0 (34, 3, 1) := ⟨(gt1 (i := 39) rfl rfl), by decide, by decide⟩
theorem fll0_6 : flok 0 (37, 0, 4) := ⟨(gt1 (i := 214) rfl rfl), by decide, by decide⟩
theorem fll0_7 : flok 0 (39, 0, 3) := ⟨(gt1 (i := 213) rfl rfl), by decide, by decide⟩
theorem fll0_8 : flok 0 (42, 3, 0) := ⟨(gt1 (i := 34) rfl rfl), by decide, by decide⟩
theorem fll0_ok : ∀ q ∈ fll0, flok 0 q := List.forall_mem_cons.mpr ⟨fll0_0, List.forall_mem_cons.mpr ⟨fll0_1, List.forall_mem_cons.mpr ⟨fll0_2, List.forall_mem_cons.mpr ⟨fll0_3, List.forall_mem_cons.mpr ⟨fll0_4, List.forall_mem_cons.mpr ⟨fll0_5, List.forall_mem_cons.mpr ⟨fll0_6, List.forall_mem_cons.mpr ⟨fll0_7, List.forall_mem_cons.mpr ⟨fll0_8, fun _ h => absurd h List.not_mem_nil⟩⟩⟩⟩⟩⟩⟩⟩⟩
theorem cll0_0 : clok 0 (28, m_copy, 3) := ⟨(gt3 (i := 217) rfl rfl), (gt2 (i := 213) rfl rfl), (gt2 (i := 212) rfl rfl), (gt1 (i := 16) rfl rfl)⟩
theorem cll0_1 : clok 0 (45, m_X8_stepOfSeat, 2) := trivial
theorem cll0_2 : clok 0 (49, m_X4_hasChildAt, 0) := (gt3 (i := 219) rfl rfl)
theorem cll0_3 : clok 0 (55, m_X0_moveFrom, 0) := (gt3 (i := 224) rfl rfl)
theorem cll0_4 : clok 0 (59, m_copy, 4) := (gt3 (i := 228) rfl rfl)
theorem cll0_ok : ∀ q ∈ cll0, clok 0 q := List.forall_mem_cons.mpr ⟨cll0_0, List.forall_mem_cons.mpr ⟨cll0_1, List.forall_mem_cons.mpr ⟨cll0_2, List.forall_mem_cons.mpr ⟨cll0_3, List.forall_mem_cons.mpr ⟨cll0_4, fun _ h => absurd h List.not_mem_nil⟩⟩⟩⟩⟩
theorem kil0_ok : ∀ q ∈ kil0, Cond.constant (nmo 0) q.1 q.2 ∈ gw := fun _ h => absurd h List.not_mem_nil
theorem kll0_ok : ∀ q ∈ kll0, Cond.constantLong (nmo 0) q.1 q.2 ∈ gw := fun _ h => absurd h List.not_mem_nil
theorem fll1_0 : flok 1 (11, 1, 0) := ⟨(gt1 (i := 199) rfl rfl), by decide, by decide⟩
theorem fll1_1 : flok 1 (15, 3, 6) := ⟨(gt1 (i := 61) rfl rfl), by decide, by decide⟩
theorem fll1_2 : flok 1 (23, 3, 0) := ⟨(gt1 (i := 35) rfl rfl), by decide, by decide⟩
theorem fll1_3 : flok 1 (35, 3, 2) := ⟨(gt1 (i := 45) rfl rfl), by decide, by decide⟩
theorem fll1_ok : ∀ q ∈ fll1, flok 1 q := List.forall_mem_cons.mpr ⟨fll1_0, List.forall_mem_cons.mpr ⟨fll1_1, List.forall_mem_cons.mpr ⟨fll1_2, List.forall_mem_cons.mpr ⟨fll1_3, fun _ h => absurd h List.not_mem_nil⟩⟩⟩⟩
theorem cll1_0 : clok 1 (27, m_X8_stepOfSeat, 2) := trivial
theorem cll1_1 : clok 1 (31, m_X1_addSeatOf, 0) := (gt3 (i := 153) rfl rfl)
theorem cll1_2 : clok 1 (38, m_X1_mergeShifted, 0) := (gt3 (i := 157) rfl rfl)
theorem cll1_3 : clok 1 (42, m_X1_wordAt, 0) := (gt3 (i := 161) rfl rfl)
theorem cll1_4 : clok 1 (46, m_J6_bitCount_0f7a4, 1) := (gt3 (i := 169) rfl rfl)
theorem cll1_5 : clok 1 (52, m_X1_canLevel, 0) := (gt3 (i := 170) rfl rfl)
theorem cll1_ok : ∀ q ∈ cll1, clok 1 q := List.forall_mem_cons.mpr ⟨cll1_0, List.forall_mem_cons.mpr ⟨cll1_1, List.forall_mem_cons.mpr ⟨cll1_2, List.forall_mem_cons.mpr ⟨cll1_3, List.forall_mem_cons.mpr ⟨cll1_4, List.forall_mem_cons.mpr ⟨cll1_5, fun _ h => absurd h List.not_mem_nil⟩⟩⟩⟩⟩⟩
theorem kil1_ok : ∀ q ∈ kil1, Cond.constant (nmo 1) q.1 q.2 ∈ gw := fun _ h => absurd h List.not_mem_nil
theorem kll1_0 : Cond.constantLong (nmo 1) 21 (16777216) ∈ gw := (gt3 (i := 151) rfl rfl)
theorem kll1_ok : ∀ q ∈ kll1, Cond.constantLong (nmo 1) q.1 q.2 ∈ gw := List.forall_mem_cons.mpr ⟨kll1_0, fun _ h => absurd h List.not_mem_nil⟩
theorem fll2_0 : flok 2 (9, 2, 1) := ⟨(gt2 (i := 32) rfl rfl), by decide, by decide⟩
theorem fll2_1 : flok 2 (15, 2, 2) := ⟨(gt2 (i := 34) rfl rfl), by decide, by decide⟩
theorem fll2_2 : flok 2 (18, 2, 3) := ⟨(gt2 (i := 35) rfl rfl), by decide, by decide⟩
theorem fll2_3 : flok 2 (21, 2, 4) := ⟨(gt2 (i := 36) rfl rfl), by decide, by decide⟩
theorem fll2_4 : flok 2 (24, 2, 0) := ⟨(gt2 (i := 31) rfl rfl), by decide, by decide⟩
theorem fll2_5 : flok 2 (28, 2, 5) := ⟨(gt2 (i := 37) rfl rfl), by decide, by decide⟩
theorem fll2_6 : flok 2 (32, 3, 6) := ⟨(gt1 (i := 64) rfl rfl), by decide, by decide⟩
theorem fll2_7 : flok 2 (41, 3, 5) := ⟨(gt1 (i := 58) rfl rfl), by decide, by decide⟩
theorem fll2_8 : flok 2 (57, 3, 3) := ⟨(gt1 (i := 50) rfl rfl), by decide, by decide⟩
theorem fll2_ok : ∀ q ∈ fll2, flok 2 q := List.forall_mem_cons.mpr ⟨fll2_0, List.forall_mem_cons.mpr ⟨fll2_1, List.forall_mem_cons.mpr ⟨fll2_2, List.forall_mem_cons.mpr ⟨fll2_3, List.forall_mem_cons.mpr ⟨fll2_4, List.forall_mem_cons.mpr ⟨fll2_5, List.forall_mem_cons.mpr ⟨fll2_6, List.forall_mem_cons.mpr ⟨fll2_7, List.forall_mem_cons.mpr ⟨fll2_8, fun _ h => absurd h List.not_mem_nil⟩⟩⟩⟩⟩⟩⟩⟩⟩
theorem cll2_0 : clok 2 (37, m_X2_joinRow, 0) := (gt4 (i := 77) rfl rfl)
theorem cll2_1 : clok 2 (44, m_X2_letOff, 0) := (gt4 (i := 81) rfl rfl)
theorem cll2_2 : clok 2 (47, m_X2_letOn, 0) := (gt4 (i := 89) rfl rfl)
theorem cll2_3 : clok 2 (50, m_X2_rideOn, 0) := (gt4 (i := 102) rfl rfl)
theorem cll2_4 : clok 2 (53, m_X2_wantsMore, 0) := (gt4 (i := 85) rfl rfl)
theorem cll2_5 : clok 2 (60, m_X3_fits, 0) := (gt4 (i := 93) rfl rfl)
theorem cll2_6 : clok 2 (64, m_X2_leaveRow, 0) := (gt4 (i := 98) rfl rfl)
theorem cll2_ok : ∀ q ∈ cll2, clok 2 q := List.forall_mem_cons.mpr ⟨cll2_0, List.forall_mem_cons.mpr ⟨cll2_1, List.forall_mem_cons.mpr ⟨cll2_2, List.forall_mem_cons.mpr ⟨cll2_3, List.forall_mem_cons.mpr ⟨cll2_4, List.forall_mem_cons.mpr ⟨cll2_5, List.forall_mem_cons.mpr ⟨cll2_6, fun _ h => absurd h List.not_mem_nil⟩⟩⟩⟩⟩⟩⟩
theorem kil2_ok : ∀ q ∈ kil2, Cond.constant (nmo 2) q.1 q.2 ∈ gw := fun _ h => absurd h List.not_mem_nil
theorem kll2_ok : ∀ q ∈ kll2, Cond.constantLong (nmo 2) q.1 q.2 ∈ gw := fun _ h => absurd h List.not_mem_nil
theorem fll3_0 : flok 3 (9, 3, 0) := ⟨(gt1 (i := 33) rfl rfl), by decide, by decide⟩
theorem fll3_1 : flok 3 (15, 3, 1) := ⟨(gt1 (i := 38) rfl rfl), by decide, by decide⟩
theorem fll3_2 : flok 3 (18, 3, 2) := ⟨(gt1 (i := 43) rfl rfl), by decide, by decide⟩
theorem fll3_3 : flok 3 (21, 3, 3) := ⟨(gt1 (i := 49) rfl rfl), by decide, by decide⟩
theorem fll3_4 : flok 3 (24, 3, 4) := ⟨(gt1 (i := 53) rfl rfl), by decide, by decide⟩
theorem fll3_5 : flok 3 (27, 3, 5) := ⟨(gt1 (i := 57) rfl rfl), by decide, by decide⟩
theorem fll3_6 : flok 3 (31, 3, 6) := ⟨(gt1 (i := 63) rfl rfl), by decide, by decide⟩
theorem fll3_7 : flok 3 (34, 3, 7) := ⟨(gt1 (i := 68) rfl rfl), by decide, by decide⟩
theorem fll3_ok : ∀ q ∈ fll3, flok 3 q := List.forall_mem_cons.mpr ⟨fll3_0, List.forall_mem_cons.mpr ⟨fll3_1, List.forall_mem_cons.mpr ⟨fll3_2, List.forall_mem_cons.mpr ⟨fll3_3, List.forall_mem_cons.mpr ⟨fll3_4, List.forall_mem_cons.mpr ⟨fll3_5, List.forall_mem_cons.mpr ⟨fll3_6, List.forall_mem_cons.mpr ⟨fll3_7, fun _ h => absurd h List.not_mem_nil⟩⟩⟩⟩⟩⟩⟩⟩
theorem cll3_0 : clok 3 (37, m_copy, 3) := ⟨(gt2 (i := 211) rfl rfl), (gt2 (i := 213) rfl rfl), (gt2 (i := 212) rfl rfl), (gt1 (i := 16) rfl rfl)⟩
theorem cll3_1 : clok 3 (43, m_X3_hasPlank, 0) := (gt3 (i := 38) rfl rfl)
theorem cll3_2 : clok 3 (47, m_copy, 4) := (gt4 (i := 97) rfl rfl)
theorem cll3_ok : ∀ q ∈ cll3, clok 3 q := List.forall_mem_cons.mpr ⟨cll3_0, List.forall_mem_cons.mpr ⟨cll3_1, List.forall_mem_cons.mpr ⟨cll3_2, fun _ h => absurd h List.not_mem_nil⟩⟩⟩
theorem kil3_ok : ∀ q ∈ kil3, Cond.constant (nmo 3) q.1 q.2 ∈ gw := fun _ h => absurd h List.not_mem_nil
theorem kll3_ok : ∀ q ∈ kll3, Cond.constantLong (nmo 3) q.1 q.2 ∈ gw := fun _ h => absurd h List.not_mem_nil
theorem fll4_0 : flok 4 (9, 4, 1) := ⟨(gt1 (i := 97) rfl rfl), by decide, by decide⟩
theorem fll4_1 : flok 4 (15, 4, 2) := ⟨(gt1 (i := 99) rfl rfl), by decide, by decide⟩
theorem fll4_2 : flok 4 (18, 4, 3) := ⟨(gt1 (i := 101) rfl rfl), by decide, by decide⟩
theorem fll4_3 : flok 4 (21, 4, 4) := ⟨(gt1 (i := 103) rfl rfl), by decide, by decide⟩
theorem fll4_4 : flok 4 (24, 4, 5) := ⟨(gt1 (i := 105) rfl rfl), by decide, by decide⟩
theorem fll4_5 : flok 4 (27, 4, 0) := ⟨(gt1 (i := 96) rfl rfl), by decide, by decide⟩
theorem fll4_6 : flok 4 (37, 3, 6) := ⟨(gt1 (i := 65) rfl rfl), by decide, by decide⟩
theorem fll4_7 : flok 4 (43, 3, 7) := ⟨(gt1 (i := 69) rfl rfl), by decide, by decide⟩
theorem fll4_8 : flok 4 (56, 3, 4) := ⟨(gt1 (i := 56) rfl rfl), by decide, by decide⟩
theorem fll4_9 : flok 4 (62, 3, 2) := ⟨(gt1 (i := 48) rfl rfl), by decide, by decide⟩
theorem fll4_10 : flok 4 (73, 3, 1) := ⟨(gt1 (i := 42) rfl rfl), by decide, by decide⟩
theorem fll4_ok : ∀ q ∈ fll4, flok 4 q := List.forall_mem_cons.mpr ⟨fll4_0, List.forall_mem_cons.mpr ⟨fll4_1, List.forall_mem_cons.mpr ⟨fll4_2, List.forall_mem_cons.mpr ⟨fll4_3, List.forall_mem_cons.mpr ⟨fll4_4, List.forall_mem_cons.mpr ⟨fll4_5, List.forall_mem_cons.mpr ⟨fll4_6, List.forall_mem_cons.mpr ⟨fll4_7, List.forall_mem_cons.mpr ⟨fll4_8, List.forall_mem_cons.mpr ⟨fll4_9, List.forall_mem_cons.mpr ⟨fll4_10, fun _ h => absurd h List.not_mem_nil⟩⟩⟩⟩⟩⟩⟩⟩⟩⟩⟩
theorem cll4_0 : clok 4 (31, m_copy, 3) := ⟨(gt4 (i := 139) rfl rfl), (gt2 (i := 213) rfl rfl), (gt2 (i := 212) rfl rfl), (gt1 (i := 16) rfl rfl)⟩
theorem cll4_1 : clok 4 (46, m_X4_idleChildren, 0) := (gt4 (i := 144) rfl rfl)
theorem cll4_2 : clok 4 (50, m_J6_bitCount_0f7a4, 1) := (gt4 (i := 145) rfl rfl)
theorem cll4_3 : clok 4 (59, m_X4_stoneMoment, 0) := (gt2 (i := 232) rfl rfl)
theorem cll4_4 : clok 4 (65, m_X4_moment, 0) := (gt3 (i := 0) rfl rfl)
theorem cll4_5 : clok 4 (68, m_copy, 4) := (gt3 (i := 1) rfl rfl)
theorem cll4_6 : clok 4 (76, m_X4_tilt, 0) := (gt3 (i := 47) rfl rfl)
theorem cll4_7 : clok 4 (79, m_X4_settle, 0) := (gt3 (i := 48) rfl rfl)
theorem cll4_8 : clok 4 (83, m_J6_signum_0f7a4, 1) := (gt3 (i := 52) rfl rfl)
theorem cll4_ok : ∀ q ∈ cll4, clok 4 q := List.forall_mem_cons.mpr ⟨cll4_0, List.forall_mem_cons.mpr ⟨cll4_1, List.forall_mem_cons.mpr ⟨cll4_2, List.forall_mem_cons.mpr ⟨cll4_3, List.forall_mem_cons.mpr ⟨cll4_4, List.forall_mem_cons.mpr ⟨cll4_5, List.forall_mem_cons.mpr ⟨cll4_6, List.forall_mem_cons.mpr ⟨cll4_7, List.forall_mem_cons.mpr ⟨cll4_8, fun _ h => absurd h List.not_mem_nil⟩⟩⟩⟩⟩⟩⟩⟩⟩
theorem kil4_ok : ∀ q ∈ kil4, Cond.constant (nmo 4) q.1 q.2 ∈ gw := fun _ h => absurd h List.not_mem_nil
theorem kll4_ok : ∀ q ∈ kll4, Cond.constantLong (nmo 4) q.1 q.2 ∈ gw := fun _ h => absurd h List.not_mem_nil
theorem fll5_0 : flok 5 (9, 5, 0) := ⟨(gt1 (i := 162) rfl rfl), by decide, by decide⟩
theorem fll5_1 : flok 5 (15, 5, 1) := ⟨(gt1 (i := 163) rfl rfl), by decide, by decide⟩
theorem fll5_2 : flok 5 (18, 5, 2) := ⟨(gt1 (i := 164) rfl rfl), by decide, by decide⟩
theorem fll5_3 : flok 5 (21, 5, 3) := ⟨(gt1 (i := 165) rfl rfl), by decide, by decide⟩
theorem fll5_4 : flok 5 (24, 5, 4) := ⟨(gt1 (i := 166) rfl rfl), by decide, by decide⟩
theorem fll5_5 : flok 5 (27, 5, 5) := ⟨(gt1 (i := 167) rfl rfl), by decide, by decide⟩
theorem fll5_6 : flok 5 (31, 5, 6) := ⟨(gt1 (i := 168) rfl rfl), by decide, by decide⟩
theorem fll5_7 : flok 5 (34, 5, 7) := ⟨(gt1 (i := 169) rfl rfl), by decide, by decide⟩
theorem fll5_8 : flok 5 (37, 5, 8) := ⟨(gt1 (i := 170) rfl rfl), by decide, by decide⟩
theorem fll5_9 : flok 5 (51, 5, 9) := ⟨(gt1 (i := 171) rfl rfl), by decide, by decide⟩
theorem fll5_ok : ∀ q ∈ fll5, flok 5 q := List.forall_mem_cons.mpr ⟨fll5_0, List.forall_mem_cons.mpr ⟨fll5_1, List.forall_mem_cons.mpr ⟨fll5_2, List.forall_mem_cons.mpr ⟨fll5_3, List.forall_mem_cons.mpr ⟨fll5_4, List.forall_mem_cons.mpr ⟨fll5_5, List.forall_mem_cons.mpr ⟨fll5_6, List.forall_mem_cons.mpr ⟨fll5_7, List.forall_mem_cons.mpr ⟨fll5_8, List.forall_mem_cons.mpr ⟨fll5_9, fun _ h => absurd h List.not_mem_nil⟩⟩⟩⟩⟩⟩⟩⟩⟩⟩
theorem cll5_0 : clok 5 (40, m_X5_measureReach, 0) := (gt3 (i := 115) rfl rfl)
theorem cll5_1 : clok 5 (43, m_X5_countFrom, 0) := (gt3 (i := 119) rfl rfl)
theorem cll5_2 : clok 5 (47, m_X5_findFrom, 0) := (gt3 (i := 132) rfl rfl)
theorem cll5_3 : clok 5 (54, m_X5_changeFrom, 0) := (gt3 (i := 185) rfl rfl)
theorem cll5_4 : clok 5 (58, m_copy, 4) := (gt3 (i := 127) rfl rfl)
theorem cll5_5 : clok 5 (64, m_X5_isHopeless, 0) := (gt3 (i := 123) rfl rfl)
theorem cll5_ok : ∀ q ∈ cll5, clok 5 q := List.forall_mem_cons.mpr ⟨cll5_0, List.forall_mem_cons.mpr ⟨cll5_1, List.forall_mem_cons.mpr ⟨cll5_2, List.forall_mem_cons.mpr ⟨cll5_3, List.forall_mem_cons.mpr ⟨cll5_4, List.forall_mem_cons.mpr ⟨cll5_5, fun _ h => absurd h List.not_mem_nil⟩⟩⟩⟩⟩⟩
theorem kil5_ok : ∀ q ∈ kil5, Cond.constant (nmo 5) q.1 q.2 ∈ gw := fun _ h => absurd h List.not_mem_nil
theorem kll5_ok : ∀ q ∈ kll5, Cond.constantLong (nmo 5) q.1 q.2 ∈ gw := fun _ h => absurd h List.not_mem_nil
theorem fll6_0 : flok 6 (12, 6, 0) := ⟨(gt1 (i := 131) rfl rfl), by decide, by decide⟩
theorem fll6_1 : flok 6 (18, 6, 1) := ⟨(gt1 (i := 133) rfl rfl), by decide, by decide⟩
theorem fll6_2 : flok 6 (22, 6, 2) := ⟨(gt1 (i := 134) rfl rfl), by decide, by decide⟩
theorem fll6_3 : flok 6 (29, 6, 4) := ⟨(gt1 (i := 138) rfl rfl), by decide, by decide⟩
theorem fll6_4 : flok 6 (35, 6, 5) := ⟨(gt1 (i := 139) rfl rfl), by decide, by decide⟩
theorem fll6_5 : flok 6 (48, 3, 5) := ⟨(gt1 (i := 59) rfl rfl), by decide, by decide⟩
theorem fll6_6 : flok 6 (55, 3, 0) := ⟨(gt1 (i := 36) rfl rfl), by decide, by decide⟩
theorem fll6_7 : flok 6 (58, 6, 6) := ⟨(gt1 (i := 140) rfl rfl), by decide, by decide⟩
theorem fll6_8 : flok 6 (61, 3, 1) := ⟨(gt1 (i := 40) rfl rfl), by decide, by decide⟩
theorem fll6_9 : flok 6 (67, 3, 6) := ⟨(gt1 (i := 66) rfl rfl), by decide, by decide⟩
theorem fll6_10 : flok 6 (70, 3, 2) := ⟨(gt1 (i := 46) rfl rfl), by decide, by decide⟩
theorem fll6_11 : flok 6 (73, 3, 3) := ⟨(gt1 (i := 51) rfl rfl), by decide, by decide⟩
theorem fll6_12 : flok 6 (76, 3, 7) := ⟨(gt1 (i := 70) rfl rfl), by decide, by decide⟩
theorem fll6_13 : flok 6 (79, 3, 4) := ⟨(gt1 (i := 54) rfl rfl), by decide, by decide⟩
theorem fll6_14 : flok 6 (82, 6, 3) := ⟨(gt1 (i := 137) rfl rfl), by decide, by decide⟩
theorem fll6_ok : ∀ q ∈ fll6, flok 6 q := List.forall_mem_cons.mpr ⟨fll6_0, List.forall_mem_cons.mpr ⟨fll6_1, List.forall_mem_cons.mpr ⟨fll6_2, List.forall_mem_cons.mpr ⟨fll6_3, List.forall_mem_cons.mpr ⟨fll6_4, List.forall_mem_cons.mpr ⟨fll6_5, List.forall_mem_cons.mpr ⟨fll6_6, List.forall_mem_cons.mpr ⟨fll6_7, List.forall_mem_cons.mpr ⟨fll6_8, List.forall_mem_cons.mpr ⟨fll6_9, List.forall_mem_cons.mpr ⟨fll6_10, List.forall_mem_cons.mpr ⟨fll6_11, List.forall_mem_cons.mpr ⟨fll6_12, List.forall_mem_cons.mpr ⟨fll6_13, List.forall_mem_cons.mpr ⟨fll6_14, fun _ h => absurd h List.not_mem_nil⟩⟩⟩⟩⟩⟩⟩⟩⟩⟩⟩⟩⟩⟩⟩
theorem cll6_0 : clok 6 (26, m_X3_forget, 0) := (gt2 (i := 107) rfl rfl)
theorem cll6_1 : clok 6 (32, m_X6_readToken, 0) := (gt2 (i := 111) rfl rfl)
theorem cll6_2 : clok 6 (38, m_X6_readPlank, 0) := (gt2 (i := 187) rfl rfl)
theorem cll6_3 : clok 6 (42, m_X6_readChild, 0) := (gt2 (i := 199) rfl rfl)
theorem cll6_4 : clok 6 (45, m_X6_readStone, 0) := (gt2 (i := 203) rfl rfl)
theorem cll6_5 : clok 6 (51, m_X6_readNumber, 0) := (gt2 (i := 191) rfl rfl)
theorem cll6_6 : clok 6 (64, m_X6_readSemicolon, 0) := (gt2 (i := 195) rfl rfl)
theorem cll6_7 : clok 6 (85, m_X6_isLetter, 1) := (gt2 (i := 115) rfl rfl)
theorem cll6_8 : clok 6 (89, m_X6_readWord, 0) := (gt2 (i := 118) rfl rfl)
theorem cll6_9 : clok 6 (92, m_X6_isDigit, 1) := (gt2 (i := 177) rfl rfl)
theorem cll6_10 : clok 6 (95, m_X6_readDigits, 0) := (gt2 (i := 180) rfl rfl)
theorem cll6_11 : clok 6 (100, m_X6_spells, 0) := (gt2 (i := 123) rfl rfl)
theorem cll6_12 : clok 6 (108, m_J0_length_8abf5, 0) := (gt2 (i := 127) rfl rfl)
theorem cll6_13 : clok 6 (113, m_J0_charAt_5068e, 0) := (gt2 (i := 137) rfl rfl)
theorem cll6_14 : clok 6 (117, m_copy, 6) := (gt2 (i := 184) rfl rfl)
theorem cll6_ok : ∀ q ∈ cll6, clok 6 q := List.forall_mem_cons.mpr ⟨cll6_0, List.forall_mem_cons.mpr ⟨cll6_1, List.forall_mem_cons.mpr ⟨cll6_2, List.forall_mem_cons.mpr ⟨cll6_3, List.forall_mem_cons.mpr ⟨cll6_4, List.forall_mem_cons.mpr ⟨cll6_5, List.forall_mem_cons.mpr ⟨cll6_6, List.forall_mem_cons.mpr ⟨cll6_7, List.forall_mem_cons.mpr ⟨cll6_8, List.forall_mem_cons.mpr ⟨cll6_9, List.forall_mem_cons.mpr ⟨cll6_10, List.forall_mem_cons.mpr ⟨cll6_11, List.forall_mem_cons.mpr ⟨cll6_12, List.forall_mem_cons.mpr ⟨cll6_13, List.forall_mem_cons.mpr ⟨cll6_14, fun _ h => absurd h List.not_mem_nil⟩⟩⟩⟩⟩⟩⟩⟩⟩⟩⟩⟩⟩⟩⟩
theorem kil6_ok : ∀ q ∈ kil6, Cond.constant (nmo 6) q.1 q.2 ∈ gw := fun _ h => absurd h List.not_mem_nil
theorem kll6_ok : ∀ q ∈ kll6, Cond.constantLong (nmo 6) q.1 q.2 ∈ gw := fun _ h => absurd h List.not_mem_nil
theorem fll7_0 : flok 7 (9, 7, 0) := ⟨(gt1 (i := 232) rfl rfl), by decide, by decide⟩
theorem fll7_1 : flok 7 (13, 7, 1) := ⟨(gt1 (i := 233) rfl rfl), by decide, by decide⟩
theorem fll7_2 : flok 7 (16, 7, 2) := ⟨(gt1 (i := 234) rfl rfl), by decide, by decide⟩
theorem fll7_3 : flok 7 (19, 7, 3) := ⟨(gt1 (i := 235) rfl rfl), by decide, by decide⟩
theorem fll7_4 : flok 7 (22, 7, 4) := ⟨(gt1 (i := 236) rfl rfl), by decide, by decide⟩
theorem fll7_5 : flok 7 (25, 7, 5) := ⟨(gt1 (i := 237) rfl rfl), by decide, by decide⟩
theorem fll7_6 : flok 7 (28, 7, 6) := ⟨(gt1 (i := 238) rfl rfl), by decide, by decide⟩
theorem fll7_7 : flok 7 (32, 7, 7) := ⟨(gt2 (i := 0) rfl rfl), by decide, by decide⟩
theorem fll7_8 : flok 7 (35, 7, 9) := ⟨(gt2 (i := 3) rfl rfl), by decide, by decide⟩
theorem fll7_9 : flok 7 (42, 7, 8) := ⟨(gt2 (i := 2) rfl rfl), by decide, by decide⟩
theorem fll7_ok : ∀ q ∈ fll7, flok 7 q := List.forall_mem_cons.mpr ⟨fll7_0, List.forall_mem_cons.mpr ⟨fll7_1, List.forall_mem_cons.mpr ⟨fll7_2, List.forall_mem_cons.mpr ⟨fll7_3, List.forall_mem_cons.mpr ⟨fll7_4, List.forall_mem_cons.mpr ⟨fll7_5, List.forall_mem_cons.mpr ⟨fll7_6, List.forall_mem_cons.mpr ⟨fll7_7, List.forall_mem_cons.mpr ⟨fll7_8, List.forall_mem_cons.mpr ⟨fll7_9, fun _ h => absurd h List.not_mem_nil⟩⟩⟩⟩⟩⟩⟩⟩⟩⟩
theorem cll7_0 : clok 7 (39, m_X7_survey, 0) := (gt4 (i := 17) rfl rfl)
theorem cll7_1 : clok 7 (45, m_X7_fittingWith, 0) := (gt4 (i := 52) rfl rfl)
theorem cll7_2 : clok 7 (49, m_X7_leftAtWorst, 0) := (gt4 (i := 61) rfl rfl)
theorem cll7_3 : clok 7 (52, m_X7_outcomeCell, 1) := (gt4 (i := 37) rfl rfl)
theorem cll7_4 : clok 7 (56, m_copy, 5) := (gt4 (i := 65) rfl rfl)
theorem cll7_5 : clok 7 (61, m_J7_fill_53178, 1) := (gt4 (i := 21) rfl rfl)
theorem cll7_6 : clok 7 (67, m_X7_guessFrom, 0) := (gt4 (i := 24) rfl rfl)
theorem cll7_7 : clok 7 (71, m_X7_guessFits, 0) := (gt4 (i := 28) rfl rfl)
theorem cll7_8 : clok 7 (75, m_X7_tally, 0) := (gt4 (i := 33) rfl rfl)
theorem cll7_9 : clok 7 (78, m_J6_signum_0f7a4, 1) := (gt4 (i := 32) rfl rfl)
theorem cll7_ok : ∀ q ∈ cll7, clok 7 q := List.forall_mem_cons.mpr ⟨cll7_0, List.forall_mem_cons.mpr ⟨cll7_1, List.forall_mem_cons.mpr ⟨cll7_2, List.forall_mem_cons.mpr ⟨cll7_3, List.forall_mem_cons.mpr ⟨cll7_4, List.forall_mem_cons.mpr ⟨cll7_5, List.forall_mem_cons.mpr ⟨cll7_6, List.forall_mem_cons.mpr ⟨cll7_7, List.forall_mem_cons.mpr ⟨cll7_8, List.forall_mem_cons.mpr ⟨cll7_9, fun _ h => absurd h List.not_mem_nil⟩⟩⟩⟩⟩⟩⟩⟩⟩⟩
theorem kil7_ok : ∀ q ∈ kil7, Cond.constant (nmo 7) q.1 q.2 ∈ gw := fun _ h => absurd h List.not_mem_nil
theorem kll7_ok : ∀ q ∈ kll7, Cond.constantLong (nmo 7) q.1 q.2 ∈ gw := fun _ h => absurd h List.not_mem_nil
theorem fll8_0 : flok 8 (12, 8, 0) := ⟨(gt2 (i := 52) rfl rfl), by decide, by decide⟩
theorem fll8_1 : flok 8 (21, 8, 1) := ⟨(gt2 (i := 53) rfl rfl), by decide, by decide⟩
theorem fll8_2 : flok 8 (25, 8, 2) := ⟨(gt2 (i := 54) rfl rfl), by decide, by decide⟩
theorem fll8_3 : flok 8 (28, 8, 3) := ⟨(gt2 (i := 55) rfl rfl), by decide, by decide⟩
theorem fll8_4 : flok 8 (34, 8, 4) := ⟨(gt2 (i := 56) rfl rfl), by decide, by decide⟩
theorem fll8_5 : flok 8 (41, 8, 5) := ⟨(gt2 (i := 57) rfl rfl), by decide, by decide⟩
theorem fll8_6 : flok 8 (48, 8, 6) := ⟨(gt2 (i := 58) rfl rfl), by decide, by decide⟩
theorem fll8_7 : flok 8 (55, 8, 7) := ⟨(gt2 (i := 59) rfl rfl), by decide, by decide⟩
theorem fll8_8 : flok 8 (62, 8, 8) := ⟨(gt2 (i := 60) rfl rfl), by decide, by decide⟩
theorem fll8_9 : flok 8 (69, 8, 9) := ⟨(gt2 (i := 61) rfl rfl), by decide, by decide⟩
theorem fll8_10 : flok 8 (73, 8, 10) := ⟨(gt2 (i := 62) rfl rfl), by decide, by decide⟩
theorem fll8_11 : flok 8 (77, 6, 2) := ⟨(gt1 (i := 135) rfl rfl), by decide, by decide⟩
theorem fll8_12 : flok 8 (91, 6, 3) := ⟨(gt1 (i := 136) rfl rfl), by decide, by decide⟩
theorem fll8_13 : flok 8 (94, 6, 0) := ⟨(gt1 (i := 132) rfl rfl), by decide, by decide⟩
theorem fll8_14 : flok 8 (103, 4, 6) := ⟨(gt1 (i := 107) rfl rfl), by decide, by decide⟩
theorem fll8_15 : flok 8 (112, 3, 0) := ⟨(gt1 (i := 37) rfl rfl), by decide, by decide⟩
theorem fll8_16 : flok 8 (116, 3, 1) := ⟨(gt1 (i := 41) rfl rfl), by decide, by decide⟩
theorem fll8_17 : flok 8 (137, 3, 2) := ⟨(gt1 (i := 47) rfl rfl), by decide, by decide⟩
theorem fll8_18 : flok 8 (140, 3, 3) := ⟨(gt1 (i := 52) rfl rfl), by decide, by decide⟩
theorem fll8_19 : flok 8 (143, 4, 2) := ⟨(gt1 (i := 100) rfl rfl), by decide, by decide⟩
theorem fll8_20 : flok 8 (146, 4, 1) := ⟨(gt1 (i := 98) rfl rfl), by decide, by decide⟩
theorem fll8_21 : flok 8 (149, 4, 3) := ⟨(gt1 (i := 102) rfl rfl), by decide, by decide⟩
theorem fll8_22 : flok 8 (155, 3, 4) := ⟨(gt1 (i := 55) rfl rfl), by decide, by decide⟩
theorem fll8_23 : flok 8 (158, 4, 5) := ⟨(gt1 (i := 106) rfl rfl), by decide, by decide⟩
theorem fll8_24 : flok 8 (161, 4, 4) := ⟨(gt1 (i := 104) rfl rfl), by decide, by decide⟩
theorem fll8_25 : flok 8 (211, 3, 6) := ⟨(gt1 (i := 67) rfl rfl), by decide, by decide⟩
theorem fll8_26 : flok 8 (240, 7, 6) := ⟨(gt1 (i := 239) rfl rfl), by decide, by decide⟩
theorem fll8_27 : flok 8 (248, 7, 7) := ⟨(gt2 (i := 1) rfl rfl), by decide, by decide⟩
theorem fll8_28 : flok 8 (273, 2, 5) := ⟨(gt2 (i := 38) rfl rfl), by decide, by decide⟩
theorem fll8_29 : flok 8 (276, 2, 1) := ⟨(gt2 (i := 33) rfl rfl), by decide, by decide⟩
theorem fll8_30 : flok 8 (295, 3, 5) := ⟨(gt1 (i := 60) rfl rfl), by decide, by decide⟩
theorem fll8_31 : flok 8 (298, 3, 7) := ⟨(gt1 (i := 71) rfl rfl), by decide, by decide⟩
theorem fll8_ok : ∀ q ∈ fll8, flok 8 q := List.forall_mem_cons.mpr ⟨fll8_0, List.forall_mem_cons.mpr ⟨fll8_1, List.forall_mem_cons.mpr ⟨fll8_2, List.forall_mem_cons.mpr ⟨fll8_3, List.forall_mem_cons.mpr ⟨fll8_4, List.forall_mem_cons.mpr ⟨fll8_5, List.forall_mem_cons.mpr ⟨fll8_6, List.forall_mem_cons.mpr ⟨fll8_7, List.forall_mem_cons.mpr ⟨fll8_8, List.forall_mem_cons.mpr ⟨fll8_9, List.forall_mem_cons.mpr ⟨fll8_10, List.forall_mem_cons.mpr ⟨fll8_11, List.forall_mem_cons.mpr ⟨fll8_12, List.forall_mem_cons.mpr ⟨fll8_13, List.forall_mem_cons.mpr ⟨fll8_14, List.forall_mem_cons.mpr ⟨fll8_15, List.forall_mem_cons.mpr ⟨fll8_16, List.forall_mem_cons.mpr ⟨fll8_17, List.forall_mem_cons.mpr ⟨fll8_18, List.forall_mem_cons.mpr ⟨fll8_19, List.forall_mem_cons.mpr ⟨fll8_20, List.forall_mem_cons.mpr ⟨fll8_21, List.forall_mem_cons.mpr ⟨fll8_22, List.forall_mem_cons.mpr ⟨fll8_23, List.forall_mem_cons.mpr ⟨fll8_24, List.forall_mem_cons.mpr ⟨fll8_25, List.forall_mem_cons.mpr ⟨fll8_26, List.forall_mem_cons.mpr ⟨fll8_27, List.forall_mem_cons.mpr ⟨fll8_28, List.forall_mem_cons.mpr ⟨fll8_29, List.forall_mem_cons.mpr ⟨fll8_30, List.forall_mem_cons.mpr ⟨fll8_31, fun _ h => absurd h List.not_mem_nil⟩⟩⟩⟩⟩⟩⟩⟩⟩⟩⟩⟩⟩⟩⟩⟩⟩⟩⟩⟩⟩⟩⟩⟩⟩⟩⟩⟩⟩⟩⟩⟩
theorem cll8_0 : clok 8 (83, m_X6_append, 0) := (gt2 (i := 91) rfl rfl)
theorem cll8_1 : clok 8 (87, m_X6_readAll, 0) := (gt2 (i := 103) rfl rfl)
theorem cll8_2 : clok 8 (97, m_X3_copyFrom, 0) := (gt2 (i := 207) rfl rfl)
theorem cll8_3 : clok 8 (100, m_X4_reset, 0) := (gt2 (i := 214) rfl rfl)
theorem cll8_4 : clok 8 (107, m_X3_hasPlank, 0) := (gt2 (i := 223) rfl rfl)
theorem cll8_5 : clok 8 (119, m_X4_moment, 0) := (gt2 (i := 228) rfl rfl)
theorem cll8_6 : clok 8 (123, m_X4_tilt, 0) := (gt2 (i := 236) rfl rfl)
theorem cll8_7 : clok 8 (126, m_X4_childrenOn, 0) := (gt3 (i := 4) rfl rfl)
theorem cll8_8 : clok 8 (129, m_J6_bitCount_0f7a4, 1) := (gt3 (i := 8) rfl rfl)
theorem cll8_9 : clok 8 (134, m_X3_hasChild, 0) := (gt3 (i := 18) rfl rfl)
theorem cll8_10 : clok 8 (152, m_X3_hasStone, 0) := (gt3 (i := 26) rfl rfl)
theorem cll8_11 : clok 8 (164, m_X3_hasSeat, 0) := (gt3 (i := 34) rfl rfl)
theorem cll8_12 : clok 8 (168, m_X4_hasChildAt, 0) := (gt3 (i := 39) rfl rfl)
theorem cll8_13 : clok 8 (171, m_X4_unseatChild, 0) := (gt3 (i := 43) rfl rfl)
theorem cll8_14 : clok 8 (174, m_X4_seatChild, 0) := (gt3 (i := 55) rfl rfl)
theorem cll8_15 : clok 8 (178, m_X4_hasStoneAt, 0) := (gt3 (i := 67) rfl rfl)
theorem cll8_16 : clok 8 (181, m_X4_liftStone, 0) := (gt3 (i := 71) rfl rfl)
theorem cll8_17 : clok 8 (184, m_X4_putStone, 0) := (gt3 (i := 75) rfl rfl)
theorem cll8_18 : clok 8 (187, m_X3_allChildren, 0) := (gt3 (i := 87) rfl rfl)
theorem cll8_19 : clok 8 (190, m_X8_askWays, 0) := (gt3 (i := 91) rfl rfl)
theorem cll8_20 : clok 8 (194, m_X5_countWays, 0) := (gt3 (i := 111) rfl rfl)
theorem cll8_21 : clok 8 (197, m_X5_findFirst, 0) := (gt3 (i := 128) rfl rfl)
theorem cll8_22 : clok 8 (201, m_X5_chosenStep, 0) := (gt3 (i := 136) rfl rfl)
theorem cll8_23 : clok 8 (204, m_X8_isZeroOrOne, 1) := (gt3 (i := 144) rfl rfl)
theorem cll8_24 : clok 8 (207, m_X1_spread, 0) := (gt3 (i := 147) rfl rfl)
theorem cll8_25 : clok 8 (214, m_X4_stoneMoment, 0) := (gt3 (i := 95) rfl rfl)
theorem cll8_26 : clok 8 (217, m_X1_largestLevel, 0) := (gt3 (i := 165) rfl rfl)
theorem cll8_27 : clok 8 (220, m_X8_countOrSet, 1) := (gt3 (i := 174) rfl rfl)
theorem cll8_28 : clok 8 (224, m_X5_fewestChanges, 0) := (gt3 (i := 181) rfl rfl)
theorem cll8_29 : clok 8 (227, m_X8_leastBallast, 0) := (gt3 (i := 193) rfl rfl)
theorem cll8_30 : clok 8 (230, m_X4_idleChildren, 0) := (gt3 (i := 209) rfl rfl)
theorem cll8_31 : clok 8 (233, m_X0_begin, 0) := (gt3 (i := 213) rfl rfl)
theorem cll8_32 : clok 8 (237, m_X0_winningMove, 0) := (gt3 (i := 220) rfl rfl)
theorem cll8_33 : clok 8 (243, m_X7_begin, 0) := (gt3 (i := 233) rfl rfl)
theorem cll8_34 : clok 8 (245, m_X7_hasStranger, 0) := (gt4 (i := 1) rfl rfl)
theorem cll8_35 : clok 8 (251, m_X7_addTrial, 0) := (gt4 (i := 5) rfl rfl)
theorem cll8_36 : clok 8 (255, m_X7_fitting, 0) := (gt4 (i := 13) rfl rfl)
theorem cll8_37 : clok 8 (258, m_X7_fittingWith, 0) := (gt4 (i := 40) rfl rfl)
theorem cll8_38 : clok 8 (261, m_X7_onlyWeight, 0) := (gt4 (i := 48) rfl rfl)
theorem cll8_39 : clok 8 (264, m_X7_bestPair, 0) := (gt4 (i := 57) rfl rfl)
theorem cll8_40 : clok 8 (267, m_X7_leftAtWorst, 0) := (gt4 (i := 68) rfl rfl)
theorem cll8_41 : clok 8 (270, m_X2_run, 0) := (gt4 (i := 73) rfl rfl)
theorem cll8_42 : clok 8 (279, m_X8_hasPartner, 0) := (gt4 (i := 110) rfl rfl)
theorem cll8_43 : clok 8 (282, m_X8_rateAs, 0) := (gt4 (i := 119) rfl rfl)
theorem cll8_44 : clok 8 (285, m_X8_imageOf, 0) := (gt4 (i := 131) rfl rfl)
theorem cll8_45 : clok 8 (289, m_X4_copyFrom, 0) := (gt4 (i := 135) rfl rfl)
theorem cll8_46 : clok 8 (292, m_X4_seatedChildren, 0) := (gt4 (i := 140) rfl rfl)
theorem cll8_47 : clok 8 (301, m_X5_begin, 0) := (gt3 (i := 96) rfl rfl)
theorem cll8_48 : clok 8 (303, m_X8_stepOfSeat, 1) := (gt3 (i := 100) rfl rfl)
theorem cll8_49 : clok 8 (306, m_X5_addSeat, 0) := (gt3 (i := 103) rfl rfl)
theorem cll8_50 : clok 8 (309, m_X5_addBody, 0) := (gt3 (i := 107) rfl rfl)
theorem cll8_51 : clok 8 (312, m_X4_idleStones, 0) := (gt3 (i := 197) rfl rfl)
theorem cll8_52 : clok 8 (315, m_X8_canBallast, 0) := (gt3 (i := 201) rfl rfl)
theorem cll8_53 : clok 8 (318, m_X3_fits, 0) := (gt4 (i := 114) rfl rfl)
theorem cll8_ok : ∀ q ∈ cll8, clok 8 q := List.forall_mem_cons.mpr ⟨cll8_0, List.forall_mem_cons.mpr ⟨cll8_1, List.forall_mem_cons.mpr ⟨cll8_2, List.forall_mem_cons.mpr ⟨cll8_3, List.forall_mem_cons.mpr ⟨cll8_4, List.forall_mem_cons.mpr ⟨cll8_5, List.forall_mem_cons.mpr ⟨cll8_6, List.forall_mem_cons.mpr ⟨cll8_7, List.forall_mem_cons.mpr ⟨cll8_8, List.forall_mem_cons.mpr ⟨cll8_9, List.forall_mem_cons.mpr ⟨cll8_10, List.forall_mem_cons.mpr ⟨cll8_11, List.forall_mem_cons.mpr ⟨cll8_12, List.forall_mem_cons.mpr ⟨cll8_13, List.forall_mem_cons.mpr ⟨cll8_14, List.forall_mem_cons.mpr ⟨cll8_15, List.forall_mem_cons.mpr ⟨cll8_16, List.forall_mem_cons.mpr ⟨cll8_17, List.forall_mem_cons.mpr ⟨cll8_18, List.forall_mem_cons.mpr ⟨cll8_19, List.forall_mem_cons.mpr ⟨cll8_20, List.forall_mem_cons.mpr ⟨cll8_21, List.forall_mem_cons.mpr ⟨cll8_22, List.forall_mem_cons.mpr ⟨cll8_23, List.forall_mem_cons.mpr ⟨cll8_24, List.forall_mem_cons.mpr ⟨cll8_25, List.forall_mem_cons.mpr ⟨cll8_26, List.forall_mem_cons.mpr ⟨cll8_27, List.forall_mem_cons.mpr ⟨cll8_28, List.forall_mem_cons.mpr ⟨cll8_29, List.forall_mem_cons.mpr ⟨cll8_30, List.forall_mem_cons.mpr ⟨cll8_31, List.forall_mem_cons.mpr ⟨cll8_32, List.forall_mem_cons.mpr ⟨cll8_33, List.forall_mem_cons.mpr ⟨cll8_34, List.forall_mem_cons.mpr ⟨cll8_35, List.forall_mem_cons.mpr ⟨cll8_36, List.forall_mem_cons.mpr ⟨cll8_37, List.forall_mem_cons.mpr ⟨cll8_38, List.forall_mem_cons.mpr ⟨cll8_39, List.forall_mem_cons.mpr ⟨cll8_40, List.forall_mem_cons.mpr ⟨cll8_41, List.forall_mem_cons.mpr ⟨cll8_42, List.forall_mem_cons.mpr ⟨cll8_43, List.forall_mem_cons.mpr ⟨cll8_44, List.forall_mem_cons.mpr ⟨cll8_45, List.forall_mem_cons.mpr ⟨cll8_46, List.forall_mem_cons.mpr ⟨cll8_47, List.forall_mem_cons.mpr ⟨cll8_48, List.forall_mem_cons.mpr ⟨cll8_49, List.forall_mem_cons.mpr ⟨cll8_50, List.forall_mem_cons.mpr ⟨cll8_51, List.forall_mem_cons.mpr ⟨cll8_52, List.forall_mem_cons.mpr ⟨cll8_53, fun _ h => absurd h List.not_mem_nil⟩⟩⟩⟩⟩⟩⟩⟩⟩⟩⟩⟩⟩⟩⟩⟩⟩⟩⟩⟩⟩⟩⟩⟩⟩⟩⟩⟩⟩⟩⟩⟩⟩⟩⟩⟩⟩⟩⟩⟩⟩⟩⟩⟩⟩⟩⟩⟩⟩⟩⟩⟩⟩⟩
theorem kil8_0 : Cond.constant (nmo 8) 111 (-1000000) ∈ gw := (gt2 (i := 227) rfl rfl)
theorem kil8_ok : ∀ q ∈ kil8, Cond.constant (nmo 8) q.1 q.2 ∈ gw := List.forall_mem_cons.mpr ⟨kil8_0, fun _ h => absurd h List.not_mem_nil⟩
theorem kll8_0 : Cond.constantLong (nmo 8) 81 (255) ∈ gw := (gt2 (i := 90) rfl rfl)
theorem kll8_ok : ∀ q ∈ kll8, Cond.constantLong (nmo 8) q.1 q.2 ∈ gw := List.forall_mem_cons.mpr ⟨kll8_0, fun _ h => absurd h List.not_mem_nil⟩
theorem fll9_0 : flok 9 (7, 9, 2) := ⟨(gt4 (i := 173) rfl rfl), by decide, by decide⟩
theorem fll9_1 : flok 9 (13, 9, 9) := ⟨(gt4 (i := 180) rfl rfl), by decide, by decide⟩
theorem fll9_2 : flok 9 (16, 9, 10) := ⟨(gt4 (i := 181) rfl rfl), by decide, by decide⟩
theorem fll9_3 : flok 9 (19, 9, 11) := ⟨(gt4 (i := 182) rfl rfl), by decide, by decide⟩
theorem fll9_4 : flok 9 (22, 9, 12) := ⟨(gt4 (i := 183) rfl rfl), by decide, by decide⟩
theorem fll9_5 : flok 9 (25, 9, 13) := ⟨(gt4 (i := 184) rfl rfl), by decide, by decide⟩
theorem fll9_6 : flok 9 (28, 9, 20) := ⟨(gt4 (i := 191) rfl rfl), by decide, by decide⟩
theorem fll9_7 : flok 9 (31, 9, 21) := ⟨(gt4 (i := 192) rfl rfl), by decide, by decide⟩
theorem fll9_8 : flok 9 (34, 9, 22) := ⟨(gt4 (i := 193) rfl rfl), by decide, by decide⟩
theorem fll9_9 : flok 9 (38, 9, 23) := ⟨(gt4 (i := 194) rfl rfl), by decide, by decide⟩
theorem fll9_10 : flok 9 (41, 9, 25) := ⟨(gt4 (i := 196) rfl rfl), by decide, by decide⟩
theorem fll9_11 : flok 9 (44, 9, 26) := ⟨(gt4 (i := 197) rfl rfl), by decide, by decide⟩
theorem fll9_12 : flok 9 (47, 9, 28) := ⟨(gt4 (i := 199) rfl rfl), by decide, by decide⟩
theorem fll9_13 : flok 9 (50, 9, 30) := ⟨(gt4 (i := 201) rfl rfl), by decide, by decide⟩
theorem fll9_14 : flok 9 (53, 9, 31) := ⟨(gt4 (i := 202) rfl rfl), by decide, by decide⟩
theorem fll9_15 : flok 9 (56, 9, 33) := ⟨(gt4 (i := 204) rfl rfl), by decide, by decide⟩
theorem fll9_16 : flok 9 (59, 9, 34) := ⟨(gt4 (i := 205) rfl rfl), by decide, by decide⟩
theorem fll9_17 : flok 9 (62, 9, 35) := ⟨(gt4 (i := 206) rfl rfl), by decide, by decide⟩
theorem fll9_18 : flok 9 (65, 9, 27) := ⟨(gt4 (i := 198) rfl rfl), by decide, by decide⟩
theorem fll9_19 : flok 9 (72, 9, 0) := ⟨(gt4 (i := 171) rfl rfl), by decide, by decide⟩
theorem fll9_20 : flok 9 (79, 9, 3) := ⟨(gt4 (i := 174) rfl rfl), by decide, by decide⟩
theorem fll9_21 : flok 9 (94, 9, 4) := ⟨(gt4 (i := 175) rfl rfl), by decide, by decide⟩
theorem fll9_22 : flok 9 (101, 9, 6) := ⟨(gt4 (i := 177) rfl rfl), by decide, by decide⟩
theorem fll9_23 : flok 9 (104, 9, 5) := ⟨(gt4 (i := 176) rfl rfl), by decide, by decide⟩
theorem fll9_24 : flok 9 (111, 9, 7) := ⟨(gt4 (i := 178) rfl rfl), by decide, by decide⟩
theorem fll9_25 : flok 9 (114, 9, 8) := ⟨(gt4 (i := 179) rfl rfl), by decide, by decide⟩
theorem fll9_26 : flok 9 (128, 9, 17) := ⟨(gt4 (i := 188) rfl rfl), by decide, by decide⟩
theorem fll9_27 : flok 9 (135, 9, 18) := ⟨(gt4 (i := 189) rfl rfl), by decide, by decide⟩
theorem fll9_28 : flok 9 (138, 9, 19) := ⟨(gt4 (i := 190) rfl rfl), by decide, by decide⟩
theorem fll9_29 : flok 9 (145, 9, 14) := ⟨(gt4 (i := 185) rfl rfl), by decide, by decide⟩
theorem fll9_30 : flok 9 (148, 9, 15) := ⟨(gt4 (i := 186) rfl rfl), by decide, by decide⟩
theorem fll9_31 : flok 9 (151, 9, 16) := ⟨(gt4 (i := 187) rfl rfl), by decide, by decide⟩
theorem fll9_32 : flok 9 (193, 9, 24) := ⟨(gt4 (i := 195) rfl rfl), by decide, by decide⟩
theorem fll9_33 : flok 9 (243, 9, 29) := ⟨(gt4 (i := 200) rfl rfl), by decide, by decide⟩
theorem fll9_34 : flok 9 (264, 9, 32) := ⟨(gt4 (i := 203) rfl rfl), by decide, by decide⟩
theorem fll9_35 : flok 9 (289, 9, 1) := ⟨(gt4 (i := 172) rfl rfl), by decide, by decide⟩
theorem fll9_ok : ∀ q ∈ fll9, flok 9 q := List.forall_mem_cons.mpr ⟨fll9_0, List.forall_mem_cons.mpr ⟨fll9_1, List.forall_mem_cons.mpr ⟨fll9_2, List.forall_mem_cons.mpr ⟨fll9_3, List.forall_mem_cons.mpr ⟨fll9_4, List.forall_mem_cons.mpr ⟨fll9_5, List.forall_mem_cons.mpr ⟨fll9_6, List.forall_mem_cons.mpr ⟨fll9_7, List.forall_mem_cons.mpr ⟨fll9_8, List.forall_mem_cons.mpr ⟨fll9_9, List.forall_mem_cons.mpr ⟨fll9_10, List.forall_mem_cons.mpr ⟨fll9_11, List.forall_mem_cons.mpr ⟨fll9_12, List.forall_mem_cons.mpr ⟨fll9_13, List.forall_mem_cons.mpr ⟨fll9_14, List.forall_mem_cons.mpr ⟨fll9_15, List.forall_mem_cons.mpr ⟨fll9_16, List.forall_mem_cons.mpr ⟨fll9_17, List.forall_mem_cons.mpr ⟨fll9_18, List.forall_mem_cons.mpr ⟨fll9_19, List.forall_mem_cons.mpr ⟨fll9_20, List.forall_mem_cons.mpr ⟨fll9_21, List.forall_mem_cons.mpr ⟨fll9_22, List.forall_mem_cons.mpr ⟨fll9_23, List.forall_mem_cons.mpr ⟨fll9_24, List.forall_mem_cons.mpr ⟨fll9_25, List.forall_mem_cons.mpr ⟨fll9_26, List.forall_mem_cons.mpr ⟨fll9_27, List.forall_mem_cons.mpr ⟨fll9_28, List.forall_mem_cons.mpr ⟨fll9_29, List.forall_mem_cons.mpr ⟨fll9_30, List.forall_mem_cons.mpr ⟨fll9_31, List.forall_mem_cons.mpr ⟨fll9_32, List.forall_mem_cons.mpr ⟨fll9_33, List.forall_mem_cons.mpr ⟨fll9_34, List.forall_mem_cons.mpr ⟨fll9_35, fun _ h => absurd h List.not_mem_nil⟩⟩⟩⟩⟩⟩⟩⟩⟩⟩⟩⟩⟩⟩⟩⟩⟩⟩⟩⟩⟩⟩⟩⟩⟩⟩⟩⟩⟩⟩⟩⟩⟩⟩⟩⟩
theorem cll9_0 : clok 9 (69, m_X9_begins, 0) := (gt4 (i := 164) rfl rfl)
theorem cll9_1 : clok 9 (75, m_X9_in, 1) := (gt4 (i := 168) rfl rfl)
theorem cll9_2 : clok 9 (86, m_X9_add, 1) := (gt5 (i := 62) rfl rfl)
theorem cll9_3 : clok 9 (90, m_X9_named, 1) := (gt5 (i := 69) rfl rfl)
theorem cll9_4 : clok 9 (97, m_X9_byteAt, 0) := (gt5 (i := 58) rfl rfl)
theorem cll9_5 : clok 9 (107, m_X9_wordOf, 1) := (gt5 (i := 66) rfl rfl)
theorem cll9_6 : clok 9 (117, m_X9_isWell, 0) := (gt5 (i := 72) rfl rfl)
theorem cll9_7 : clok 9 (121, m_X9_advances, 0) := (gt5 (i := 54) rfl rfl)
theorem cll9_8 : clok 9 (124, m_X9_takes, 0) := (gt5 (i := 76) rfl rfl)
theorem cll9_9 : clok 9 (131, m_X9_number, 0) := (gt5 (i := 84) rfl rfl)
theorem cll9_10 : clok 9 (141, m_X9_readsItem, 0) := (gt5 (i := 80) rfl rfl)
theorem cll9_11 : clok 9 (154, m_X9_stonesOn, 0) := (gt5 (i := 101) rfl rfl)
theorem cll9_12 : clok 9 (157, m_X9_size, 1) := (gt5 (i := 113) rfl rfl)
theorem cll9_13 : clok 9 (160, m_X9_momentOf, 0) := (gt5 (i := 97) rfl rfl)
theorem cll9_14 : clok 9 (163, m_X9_tiltBy, 0) := (gt5 (i := 109) rfl rfl)
theorem cll9_15 : clok 9 (166, m_X9_isPlank, 0) := (gt5 (i := 92) rfl rfl)
theorem cll9_16 : clok 9 (171, m_X9_tiltOf, 0) := (gt5 (i := 105) rfl rfl)
theorem cll9_17 : clok 9 (174, m_X9_sittingOn, 0) := (gt5 (i := 116) rfl rfl)
theorem cll9_18 : clok 9 (177, m_X9_isChild, 0) := (gt5 (i := 124) rfl rfl)
theorem cll9_19 : clok 9 (180, m_X9_isStone, 0) := (gt5 (i := 132) rfl rfl)
theorem cll9_20 : clok 9 (183, m_X9_bumps, 0) := (gt5 (i := 144) rfl rfl)
theorem cll9_21 : clok 9 (186, m_X9_goes, 0) := (gt5 (i := 140) rfl rfl)
theorem cll9_22 : clok 9 (189, m_X9_comes, 0) := (gt5 (i := 148) rfl rfl)
theorem cll9_23 : clok 9 (196, m_X9_seats, 0) := (gt5 (i := 177) rfl rfl)
theorem cll9_24 : clok 9 (199, m_X9_freeSeat, 0) := (gt5 (i := 181) rfl rfl)
theorem cll9_25 : clok 9 (202, m_X9_stepOf, 0) := (gt5 (i := 185) rfl rfl)
theorem cll9_26 : clok 9 (205, m_X9_all, 0) := (gt5 (i := 168) rfl rfl)
theorem cll9_27 : clok 9 (210, m_X9_waysOf, 0) := (gt5 (i := 173) rfl rfl)
theorem cll9_28 : clok 9 (214, m_X9_ones, 1) := (gt5 (i := 193) rfl rfl)
theorem cll9_29 : clok 9 (217, m_X9_hasStone, 0) := (gt5 (i := 208) rfl rfl)
theorem cll9_30 : clok 9 (221, m_X9_levels, 0) := (gt5 (i := 204) rfl rfl)
theorem cll9_31 : clok 9 (224, m_X9_isTaken, 0) := (gt5 (i := 224) rfl rfl)
theorem cll9_32 : clok 9 (227, m_X9_mayPut, 0) := (gt5 (i := 220) rfl rfl)
theorem cll9_33 : clok 9 (231, m_X9_lastMove, 0) := (gt5 (i := 236) rfl rfl)
theorem cll9_34 : clok 9 (234, m_X9_twoMoves, 0) := (gt5 (i := 232) rfl rfl)
theorem cll9_35 : clok 9 (237, m_X9_threeMoves, 0) := (gt5 (i := 228) rfl rfl)
theorem cll9_36 : clok 9 (240, m_X9_fourMoves, 0) := (gt5 (i := 216) rfl rfl)
theorem cll9_37 : clok 9 (246, m_X9_isStranger, 0) := (gt6 (i := 8) rfl rfl)
theorem cll9_38 : clok 9 (249, m_X9_weightIn, 1) := (gt6 (i := 31) rfl rfl)
theorem cll9_39 : clok 9 (252, m_X9_weighs, 1) := (gt6 (i := 28) rfl rfl)
theorem cll9_40 : clok 9 (255, m_X9_allWays, 0) := (gt6 (i := 20) rfl rfl)
theorem cll9_41 : clok 9 (258, m_X9_fits, 0) := (gt6 (i := 24) rfl rfl)
theorem cll9_42 : clok 9 (261, m_X9_couldBe, 0) := (gt6 (i := 16) rfl rfl)
theorem cll9_43 : clok 9 (267, m_X9_lesser, 1) := (gt6 (i := 54) rfl rfl)
theorem cll9_44 : clok 9 (270, m_X9_waits, 0) := (gt6 (i := 57) rfl rfl)
theorem cll9_45 : clok 9 (273, m_X9_areAPair, 0) := (gt6 (i := 65) rfl rfl)
theorem cll9_46 : clok 9 (276, m_X9_outOfRow, 0) := (gt6 (i := 69) rfl rfl)
theorem cll9_47 : clok 9 (279, m_X9_letsOff, 0) := (gt6 (i := 50) rfl rfl)
theorem cll9_48 : clok 9 (282, m_X9_takesOn, 0) := (gt6 (i := 61) rfl rfl)
theorem cll9_49 : clok 9 (286, m_X9_goesBy, 0) := (gt6 (i := 46) rfl rfl)
theorem cll9_50 : clok 9 (303, m_X9_sitting, 0) := (gt6 (i := 90) rfl rfl)
theorem cll9_ok : ∀ q ∈ cll9, clok 9 q := List.forall_mem_cons.mpr ⟨cll9_0, List.forall_mem_cons.mpr ⟨cll9_1, List.forall_mem_cons.mpr ⟨cll9_2, List.forall_mem_cons.mpr ⟨cll9_3, List.forall_mem_cons.mpr ⟨cll9_4, List.forall_mem_cons.mpr ⟨cll9_5, List.forall_mem_cons.mpr ⟨cll9_6, List.forall_mem_cons.mpr ⟨cll9_7, List.forall_mem_cons.mpr ⟨cll9_8, List.forall_mem_cons.mpr ⟨cll9_9, List.forall_mem_cons.mpr ⟨cll9_10, List.forall_mem_cons.mpr ⟨cll9_11, List.forall_mem_cons.mpr ⟨cll9_12, List.forall_mem_cons.mpr ⟨cll9_13, List.forall_mem_cons.mpr ⟨cll9_14, List.forall_mem_cons.mpr ⟨cll9_15, List.forall_mem_cons.mpr ⟨cll9_16, List.forall_mem_cons.mpr ⟨cll9_17, List.forall_mem_cons.mpr ⟨cll9_18, List.forall_mem_cons.mpr ⟨cll9_19, List.forall_mem_cons.mpr ⟨cll9_20, List.forall_mem_cons.mpr ⟨cll9_21, List.forall_mem_cons.mpr ⟨cll9_22, List.forall_mem_cons.mpr ⟨cll9_23, List.forall_mem_cons.mpr ⟨cll9_24, List.forall_mem_cons.mpr ⟨cll9_25, List.forall_mem_cons.mpr ⟨cll9_26, List.forall_mem_cons.mpr ⟨cll9_27, List.forall_mem_cons.mpr ⟨cll9_28, List.forall_mem_cons.mpr ⟨cll9_29, List.forall_mem_cons.mpr ⟨cll9_30, List.forall_mem_cons.mpr ⟨cll9_31, List.forall_mem_cons.mpr ⟨cll9_32, List.forall_mem_cons.mpr ⟨cll9_33, List.forall_mem_cons.mpr ⟨cll9_34, List.forall_mem_cons.mpr ⟨cll9_35, List.forall_mem_cons.mpr ⟨cll9_36, List.forall_mem_cons.mpr ⟨cll9_37, List.forall_mem_cons.mpr ⟨cll9_38, List.forall_mem_cons.mpr ⟨cll9_39, List.forall_mem_cons.mpr ⟨cll9_40, List.forall_mem_cons.mpr ⟨cll9_41, List.forall_mem_cons.mpr ⟨cll9_42, List.forall_mem_cons.mpr ⟨cll9_43, List.forall_mem_cons.mpr ⟨cll9_44, List.forall_mem_cons.mpr ⟨cll9_45, List.forall_mem_cons.mpr ⟨cll9_46, List.forall_mem_cons.mpr ⟨cll9_47, List.forall_mem_cons.mpr ⟨cll9_48, List.forall_mem_cons.mpr ⟨cll9_49, List.forall_mem_cons.mpr ⟨cll9_50, fun _ h => absurd h List.not_mem_nil⟩⟩⟩⟩⟩⟩⟩⟩⟩⟩⟩⟩⟩⟩⟩⟩⟩⟩⟩⟩⟩⟩⟩⟩⟩⟩⟩⟩⟩⟩⟩⟩⟩⟩⟩⟩⟩⟩⟩⟩⟩⟩⟩⟩⟩⟩⟩⟩⟩⟩⟩
theorem kil9_0 : Cond.constant (nmo 9) 170 (-1000000) ∈ gw := (gt5 (i := 96) rfl rfl)
theorem kil9_1 : Cond.constant (nmo 9) 209 (1000000) ∈ gw := (gt5 (i := 172) rfl rfl)
theorem kil9_ok : ∀ q ∈ kil9, Cond.constant (nmo 9) q.1 q.2 ∈ gw := List.forall_mem_cons.mpr ⟨kil9_0, List.forall_mem_cons.mpr ⟨kil9_1, fun _ h => absurd h List.not_mem_nil⟩⟩
theorem kll9_0 : Cond.constantLong (nmo 9) 82 (255) ∈ gw := (gt5 (i := 45) rfl rfl)
theorem kll9_1 : Cond.constantLong (nmo 9) 84 (256) ∈ gw := (gt5 (i := 65) rfl rfl)
theorem kll9_2 : Cond.constantLong (nmo 9) 293 (11) ∈ gw := (gt6 (i := 81) rfl rfl)
theorem kll9_3 : Cond.constantLong (nmo 9) 295 (101) ∈ gw := (gt6 (i := 82) rfl rfl)
theorem kll9_4 : Cond.constantLong (nmo 9) 297 (1011) ∈ gw := (gt6 (i := 83) rfl rfl)
theorem kll9_5 : Cond.constantLong (nmo 9) 299 (10101) ∈ gw := (gt6 (i := 84) rfl rfl)
theorem kll9_6 : Cond.constantLong (nmo 9) 301 (100001) ∈ gw := (gt6 (i := 85) rfl rfl)
theorem kll9_ok : ∀ q ∈ kll9, Cond.constantLong (nmo 9) q.1 q.2 ∈ gw := List.forall_mem_cons.mpr ⟨kll9_0, List.forall_mem_cons.mpr ⟨kll9_1, List.forall_mem_cons.mpr ⟨kll9_2, List.forall_mem_cons.mpr ⟨kll9_3, List.forall_mem_cons.mpr ⟨kll9_4, List.forall_mem_cons.mpr ⟨kll9_5, List.forall_mem_cons.mpr ⟨kll9_6, fun _ h => absurd h List.not_mem_nil⟩⟩⟩⟩⟩⟩⟩
theorem fll10_ok : ∀ q ∈ fll10, flok 10 q := fun _ h => absurd h List.not_mem_nil
theorem cll10_ok : ∀ q ∈ cll10, clok 10 q := fun _ h => absurd h List.not_mem_nil
theorem kil10_0 : Cond.constant (nmo 10) 265 (1431655765) ∈ gw := (gt3 (i := 11) rfl rfl)
theorem kil10_1 : Cond.constant (nmo 10) 266 (858993459) ∈ gw := (gt3 (i := 12) rfl rfl)
theorem kil10_2 : Cond.constant (nmo 10) 267 (252645135) ∈ gw := (gt3 (i := 13) rfl rfl)
theorem kil10_ok : ∀ q ∈ kil10, Cond.constant (nmo 10) q.1 q.2 ∈ gw := List.forall_mem_cons.mpr ⟨kil10_0, List.forall_mem_cons.mpr ⟨kil10_1, List.forall_mem_cons.mpr ⟨kil10_2, fun _ h => absurd h List.not_mem_nil⟩⟩⟩
theorem kll10_ok : ∀ q ∈ kll10, Cond.constantLong (nmo 10) q.1 q.2 ∈ gw := fun _ h => absurd h List.not_mem_nil
theorem fll11_ok : ∀ q ∈ fll11, flok 11 q := fun _ h => absurd h List.not_mem_nil
theorem cll11_ok : ∀ q ∈ cll11, clok 11 q := fun _ h => absurd h List.not_mem_nil
theorem kil11_ok : ∀ q ∈ kil11, Cond.constant (nmo 11) q.1 q.2 ∈ gw := fun _ h => absurd h List.not_mem_nil
theorem kll11_ok : ∀ q ∈ kll11, Cond.constantLong (nmo 11) q.1 q.2 ∈ gw := fun _ h => absurd h List.not_mem_nil
theorem fll12_ok : ∀ q ∈ fll12, flok 12 q := fun _ h => absurd h List.not_mem_nil
theorem cll12_ok : ∀ q ∈ cll12, clok 12 q := fun _ h => absurd h List.not_mem_nil
theorem kil12_ok : ∀ q ∈ kil12, Cond.constant (nmo 12) q.1 q.2 ∈ gw := fun _ h => absurd h List.not_mem_nil
theorem kll12_ok : ∀ q ∈ kll12, Cond.constantLong (nmo 12) q.1 q.2 ∈ gw := fun _ h => absurd h List.not_mem_nil
theorem fll13_ok : ∀ q ∈ fll13, flok 13 q := fun _ h => absurd h List.not_mem_nil
theorem cll13_0 : clok 13 (335, m_J0_coder_7d493, 0) := (gt2 (i := 131) rfl rfl)
theorem cll13_1 : clok 13 (492, m_J0_isLatin1_aae02, 0) := (gt2 (i := 141) rfl rfl)
theorem cll13_2 : clok 13 (495, m_J1_charAt_3b067, 1) := (gt2 (i := 145) rfl rfl)
theorem cll13_3 : clok 13 (1059, m_J3_checkIndex_8e157, 1) := (gt2 (i := 153) rfl rfl)
theorem cll13_ok : ∀ q ∈ cll13, clok 13 q := List.forall_mem_cons.mpr ⟨cll13_0, List.forall_mem_cons.mpr ⟨cll13_1, List.forall_mem_cons.mpr ⟨cll13_2, List.forall_mem_cons.mpr ⟨cll13_3, fun _ h => absurd h List.not_mem_nil⟩⟩⟩⟩
theorem kil13_ok : ∀ q ∈ kil13, Cond.constant (nmo 13) q.1 q.2 ∈ gw := fun _ h => absurd h List.not_mem_nil
theorem kll13_ok : ∀ q ∈ kll13, Cond.constantLong (nmo 13) q.1 q.2 ∈ gw := fun _ h => absurd h List.not_mem_nil
theorem fll14_ok : ∀ q ∈ fll14, flok 14 q := fun _ h => absurd h List.not_mem_nil
theorem cll14_0 : clok 14 (9, m_J0_checkIndex_df160, 1) := (gt2 (i := 148) rfl rfl)
theorem cll14_ok : ∀ q ∈ cll14, clok 14 q := List.forall_mem_cons.mpr ⟨cll14_0, fun _ h => absurd h List.not_mem_nil⟩
theorem kil14_ok : ∀ q ∈ kil14, Cond.constant (nmo 14) q.1 q.2 ∈ gw := fun _ h => absurd h List.not_mem_nil
theorem kll14_ok : ∀ q ∈ kll14, Cond.constantLong (nmo 14) q.1 q.2 ∈ gw := fun _ h => absurd h List.not_mem_nil
theorem fll15_ok : ∀ q ∈ fll15, flok 15 q := fun _ h => absurd h List.not_mem_nil
theorem cll15_ok : ∀ q ∈ cll15, clok 15 q := fun _ h => absurd h List.not_mem_nil
theorem kil15_ok : ∀ q ∈ kil15, Cond.constant (nmo 15) q.1 q.2 ∈ gw := fun _ h => absurd h List.not_mem_nil
theorem kll15_ok : ∀ q ∈ kll15, Cond.constantLong (nmo 15) q.1 q.2 ∈ gw := fun _ h => absurd h List.not_mem_nil
theorem fll_ok : ∀ (own : Nat) (r : List (Nat × Nat × Nat)), fll[own]? = some r → ∀ q ∈ r, flok own q := by
  intro own r h
  match own, h with
  | 0, h => cases h; exact fll0_ok
  | 1, h => cases h; exact fll1_ok
  | 2, h => cases h; exact fll2_ok
  | 3, h => cases h; exact fll3_ok
  | 4, h => cases h; exact fll4_ok
  | 5, h => cases h; exact fll5_ok
  | 6, h => cases h; exact fll6_ok
  | 7, h => cases h; exact fll7_ok
  | 8, h => cases h; exact fll8_ok
  | 9, h => cases h; exact fll9_ok
  | 10, h => cases h; exact fll10_ok
  | 11, h => cases h; exact fll11_ok
  | 12, h => cases h; exact fll12_ok
  | 13, h => cases h; exact fll13_ok
  | 14, h => cases h; exact fll14_ok
  | 15, h => cases h; exact fll15_ok
  | n + 16, h => exact absurd h (by unfold fll; simp)
theorem cll_ok : ∀ (own : Nat) (r : List (Nat × Mth × Nat)), cll[own]? = some r → ∀ q ∈ r, clok own q := by
  intro own r h
  match own, h with
  | 0, h => cases h; exact cll0_ok
  | 1, h => cases h; exact cll1_ok
  | 2, h => cases h; exact cll2_ok
  | 3, h => cases h; exact cll3_ok
  | 4, h => cases h; exact cll4_ok
  | 5, h => cases h; exact cll5_ok
  | 6, h => cases h; exact cll6_ok
  | 7, h => cases h; exact cll7_ok
  | 8, h => cases h; exact cll8_ok
  | 9, h => cases h; exact cll9_ok
  | 10, h => cases h; exact cll10_ok
  | 11, h => cases h; exact cll11_ok
  | 12, h => cases h; exact cll12_ok
  | 13, h => cases h; exact cll13_ok
  | 14, h => cases h; exact cll14_ok
  | 15, h => cases h; exact cll15_ok
  | n + 16, h => exact absurd h (by unfold cll; simp)
theorem kil_ok : ∀ (own : Nat) (r : List (Nat × Int32)), kil[own]? = some r → ∀ q ∈ r, Cond.constant (nmo own) q.1 q.2 ∈ gw := by
  intro own r h
  match own, h with
  | 0, h => cases h; exact kil0_ok
  | 1, h => cases h; exact kil1_ok
  | 2, h => cases h; exact kil2_ok
  | 3, h => cases h; exact kil3_ok
  | 4, h => cases h; exact kil4_ok
  | 5, h => cases h; exact kil5_ok
  | 6, h => cases h; exact kil6_ok
  | 7, h => cases h; exact kil7_ok
  | 8, h => cases h; exact kil8_ok
  | 9, h => cases h; exact kil9_ok
  | 10, h => cases h; exact kil10_ok
  | 11, h => cases h; exact kil11_ok
  | 12, h => cases h; exact kil12_ok
  | 13, h => cases h; exact kil13_ok
  | 14, h => cases h; exact kil14_ok
  | 15, h => cases h; exact kil15_ok
  | n + 16, h => exact absurd h (by unfold kil; simp)
theorem kll_ok : ∀ (own : Nat) (r : List (Nat × Int64)), kll[own]? = some r → ∀ q ∈ r, Cond.constantLong (nmo own) q.1 q.2 ∈ gw := by
  intro own r h
  match own, h with
  | 0, h => cases h; exact kll0_ok
  | 1, h => cases h; exact kll1_ok
  | 2, h => cases h; exact kll2_ok
  | 3, h => cases h; exact kll3_ok
  | 4, h => cases h; exact kll4_ok
  | 5, h => cases h; exact kll5_ok
  | 6, h => cases h; exact kll6_ok
  | 7, h => cases h; exact kll7_ok
  | 8, h => cases h; exact kll8_ok
  | 9, h => cases h; exact kll9_ok
  | 10, h => cases h; exact kll10_ok
  | 11, h => cases h; exact kll11_ok
  | 12, h => cases h; exact kll12_ok
  | 13, h => cases h; exact kll13_ok
  | 14, h => cases h; exact kll14_ok
  | 15, h => cases h; exact kll15_ok
  | n + 16, h => exact absurd h (by unfold kll; simp)
theorem lay0 : ∀ w ∈ u_ws (fcl 0).1 (fcl 0).2.1 (fcl 0).2.2, w ∈ gw := List.forall_mem_cons.mpr ⟨(gt1 (i := 215) rfl rfl), List.forall_mem_cons.mpr ⟨(gt1 (i := 217) rfl rfl), List.forall_mem_cons.mpr ⟨(gt1 (i := 219) rfl rfl), List.forall_mem_cons.mpr ⟨(gt1 (i := 221) rfl rfl), List.forall_mem_cons.mpr ⟨(gt1 (i := 223) rfl rfl), fun _ h => absurd h List.not_mem_nil⟩⟩⟩⟩⟩
theorem lay1 : ∀ w ∈ u_ws (fcl 1).1 (fcl 1).2.1 (fcl 1).2.2, w ∈ gw := List.forall_mem_cons.mpr ⟨(gt1 (i := 200) rfl rfl), fun _ h => absurd h List.not_mem_nil⟩
theorem lay2 : ∀ w ∈ u_ws (fcl 2).1 (fcl 2).2.1 (fcl 2).2.2, w ∈ gw := List.forall_mem_cons.mpr ⟨(gt2 (i := 39) rfl rfl), List.forall_mem_cons.mpr ⟨(gt2 (i := 41) rfl rfl), List.forall_mem_cons.mpr ⟨(gt2 (i := 43) rfl rfl), List.forall_mem_cons.mpr ⟨(gt2 (i := 45) rfl rfl), List.forall_mem_cons.mpr ⟨(gt2 (i := 47) rfl rfl), List.forall_mem_cons.mpr ⟨(gt2 (i := 49) rfl rfl), fun _ h => absurd h List.not_mem_nil⟩⟩⟩⟩⟩⟩
theorem lay3 : ∀ w ∈ u_ws (fcl 3).1 (fcl 3).2.1 (fcl 3).2.2, w ∈ gw := List.forall_mem_cons.mpr ⟨(gt1 (i := 72) rfl rfl), List.forall_mem_cons.mpr ⟨(gt1 (i := 74) rfl rfl), List.forall_mem_cons.mpr ⟨(gt1 (i := 76) rfl rfl), List.forall_mem_cons.mpr ⟨(gt1 (i := 78) rfl rfl), List.forall_mem_cons.mpr ⟨(gt1 (i := 80) rfl rfl), List.forall_mem_cons.mpr ⟨(gt1 (i := 82) rfl rfl), List.forall_mem_cons.mpr ⟨(gt1 (i := 84) rfl rfl), List.forall_mem_cons.mpr ⟨(gt1 (i := 86) rfl rfl), fun _ h => absurd h List.not_mem_nil⟩⟩⟩⟩⟩⟩⟩⟩
theorem lay4 : ∀ w ∈ u_ws (fcl 4).1 (fcl 4).2.1 (fcl 4).2.2, w ∈ gw := List.forall_mem_cons.mpr ⟨(gt1 (i := 108) rfl rfl), List.forall_mem_cons.mpr ⟨(gt1 (i := 110) rfl rfl), List.forall_mem_cons.mpr ⟨(gt1 (i := 112) rfl rfl), List.forall_mem_cons.mpr ⟨(gt1 (i := 114) rfl rfl), List.forall_mem_cons.mpr ⟨(gt1 (i := 116) rfl rfl), List.forall_mem_cons.mpr ⟨(gt1 (i := 118) rfl rfl), List.forall_mem_cons.mpr ⟨(gt1 (i := 120) rfl rfl), fun _ h => absurd h List.not_mem_nil⟩⟩⟩⟩⟩⟩⟩
theorem lay5 : ∀ w ∈ u_ws (fcl 5).1 (fcl 5).2.1 (fcl 5).2.2, w ∈ gw := List.forall_mem_cons.mpr ⟨(gt1 (i := 172) rfl rfl), List.forall_mem_cons.mpr ⟨(gt1 (i := 174) rfl rfl), List.forall_mem_cons.mpr ⟨(gt1 (i := 176) rfl rfl), List.forall_mem_cons.mpr ⟨(gt1 (i := 178) rfl rfl), List.forall_mem_cons.mpr ⟨(gt1 (i := 180) rfl rfl), List.forall_mem_cons.mpr ⟨(gt1 (i := 182) rfl rfl), List.forall_mem_cons.mpr ⟨(gt1 (i := 184) rfl rfl), List.forall_mem_cons.mpr ⟨(gt1 (i := 186) rfl rfl), List.forall_mem_cons.mpr ⟨(gt1 (i := 188) rfl rfl), List.forall_mem_cons.mpr ⟨(gt1 (i := 190) rfl rfl), fun _ h => absurd h List.not_mem_nil⟩⟩⟩⟩⟩⟩⟩⟩⟩⟩
theorem lay6 : ∀ w ∈ u_ws (fcl 6).1 (fcl 6).2.1 (fcl 6).2.2, w ∈ gw := List.forall_mem_cons.mpr ⟨(gt1 (i := 141) rfl rfl), List.forall_mem_cons.mpr ⟨(gt1 (i := 143) rfl rfl), List.forall_mem_cons.mpr ⟨(gt1 (i := 145) rfl rfl), List.forall_mem_cons.mpr ⟨(gt1 (i := 147) rfl rfl), List.forall_mem_cons.mpr ⟨(gt1 (i := 149) rfl rfl), List.forall_mem_cons.mpr ⟨(gt1 (i := 151) rfl rfl), List.forall_mem_cons.mpr ⟨(gt1 (i := 153) rfl rfl), fun _ h => absurd h List.not_mem_nil⟩⟩⟩⟩⟩⟩⟩
theorem lay7 : ∀ w ∈ u_ws (fcl 7).1 (fcl 7).2.1 (fcl 7).2.2, w ∈ gw := List.forall_mem_cons.mpr ⟨(gt2 (i := 4) rfl rfl), List.forall_mem_cons.mpr ⟨(gt2 (i := 6) rfl rfl), List.forall_mem_cons.mpr ⟨(gt2 (i := 8) rfl rfl), List.forall_mem_cons.mpr ⟨(gt2 (i := 10) rfl rfl), List.forall_mem_cons.mpr ⟨(gt2 (i := 12) rfl rfl), List.forall_mem_cons.mpr ⟨(gt2 (i := 14) rfl rfl), List.forall_mem_cons.mpr ⟨(gt2 (i := 16) rfl rfl), List.forall_mem_cons.mpr ⟨(gt2 (i := 18) rfl rfl), List.forall_mem_cons.mpr ⟨(gt2 (i := 20) rfl rfl), List.forall_mem_cons.mpr ⟨(gt2 (i := 22) rfl rfl), fun _ h => absurd h List.not_mem_nil⟩⟩⟩⟩⟩⟩⟩⟩⟩⟩
theorem lay8 : ∀ w ∈ u_ws (fcl 8).1 (fcl 8).2.1 (fcl 8).2.2, w ∈ gw := List.forall_mem_cons.mpr ⟨(gt2 (i := 63) rfl rfl), List.forall_mem_cons.mpr ⟨(gt2 (i := 65) rfl rfl), List.forall_mem_cons.mpr ⟨(gt2 (i := 67) rfl rfl), List.forall_mem_cons.mpr ⟨(gt2 (i := 69) rfl rfl), List.forall_mem_cons.mpr ⟨(gt2 (i := 71) rfl rfl), List.forall_mem_cons.mpr ⟨(gt2 (i := 73) rfl rfl), List.forall_mem_cons.mpr ⟨(gt2 (i := 75) rfl rfl), List.forall_mem_cons.mpr ⟨(gt2 (i := 77) rfl rfl), List.forall_mem_cons.mpr ⟨(gt2 (i := 79) rfl rfl), List.forall_mem_cons.mpr ⟨(gt2 (i := 81) rfl rfl), List.forall_mem_cons.mpr ⟨(gt2 (i := 83) rfl rfl), fun _ h => absurd h List.not_mem_nil⟩⟩⟩⟩⟩⟩⟩⟩⟩⟩⟩
theorem lay9 : ∀ w ∈ u_ws (fcl 9).1 (fcl 9).2.1 (fcl 9).2.2, w ∈ gw := List.forall_mem_cons.mpr ⟨(gt4 (i := 207) rfl rfl), List.forall_mem_cons.mpr ⟨(gt4 (i := 209) rfl rfl), List.forall_mem_cons.mpr ⟨(gt4 (i := 211) rfl rfl), List.forall_mem_cons.mpr ⟨(gt4 (i := 213) rfl rfl), List.forall_mem_cons.mpr ⟨(gt4 (i := 215) rfl rfl), List.forall_mem_cons.mpr ⟨(gt4 (i := 217) rfl rfl), List.forall_mem_cons.mpr ⟨(gt4 (i := 219) rfl rfl), List.forall_mem_cons.mpr ⟨(gt4 (i := 221) rfl rfl), List.forall_mem_cons.mpr ⟨(gt4 (i := 223) rfl rfl), List.forall_mem_cons.mpr ⟨(gt4 (i := 225) rfl rfl), List.forall_mem_cons.mpr ⟨(gt4 (i := 227) rfl rfl), List.forall_mem_cons.mpr ⟨(gt4 (i := 229) rfl rfl), List.forall_mem_cons.mpr ⟨(gt4 (i := 231) rfl rfl), List.forall_mem_cons.mpr ⟨(gt4 (i := 233) rfl rfl), List.forall_mem_cons.mpr ⟨(gt4 (i := 235) rfl rfl), List.forall_mem_cons.mpr ⟨(gt4 (i := 237) rfl rfl), List.forall_mem_cons.mpr ⟨(gt4 (i := 239) rfl rfl), List.forall_mem_cons.mpr ⟨(gt5 (i := 1) rfl rfl), List.forall_mem_cons.mpr ⟨(gt5 (i := 3) rfl rfl), List.forall_mem_cons.mpr ⟨(gt5 (i := 5) rfl rfl), List.forall_mem_cons.mpr ⟨(gt5 (i := 7) rfl rfl), List.forall_mem_cons.mpr ⟨(gt5 (i := 9) rfl rfl), List.forall_mem_cons.mpr ⟨(gt5 (i := 11) rfl rfl), List.forall_mem_cons.mpr ⟨(gt5 (i := 13) rfl rfl), List.forall_mem_cons.mpr ⟨(gt5 (i := 15) rfl rfl), List.forall_mem_cons.mpr ⟨(gt5 (i := 17) rfl rfl), List.forall_mem_cons.mpr ⟨(gt5 (i := 19) rfl rfl), List.forall_mem_cons.mpr ⟨(gt5 (i := 21) rfl rfl), List.forall_mem_cons.mpr ⟨(gt5 (i := 23) rfl rfl), List.forall_mem_cons.mpr ⟨(gt5 (i := 25) rfl rfl), List.forall_mem_cons.mpr ⟨(gt5 (i := 27) rfl rfl), List.forall_mem_cons.mpr ⟨(gt5 (i := 29) rfl rfl), List.forall_mem_cons.mpr ⟨(gt5 (i := 31) rfl rfl), List.forall_mem_cons.mpr ⟨(gt5 (i := 33) rfl rfl), List.forall_mem_cons.mpr ⟨(gt5 (i := 35) rfl rfl), List.forall_mem_cons.mpr ⟨(gt5 (i := 37) rfl rfl), fun _ h => absurd h List.not_mem_nil⟩⟩⟩⟩⟩⟩⟩⟩⟩⟩⟩⟩⟩⟩⟩⟩⟩⟩⟩⟩⟩⟩⟩⟩⟩⟩⟩⟩⟩⟩⟩⟩⟩⟩⟩⟩
theorem lay_ok : ∀ ci, ci < 10 → ∀ w ∈ u_ws (fcl ci).1 (fcl ci).2.1 (fcl ci).2.2, w ∈ gw := by
  intro ci h
  match ci, h with
  | 0, _ => exact lay0
  | 1, _ => exact lay1
  | 2, _ => exact lay2
  | 3, _ => exact lay3
  | 4, _ => exact lay4
  | 5, _ => exact lay5
  | 6, _ => exact lay6
  | 7, _ => exact lay7
  | 8, _ => exact lay8
  | 9, _ => exact lay9
  | n + 10, h => omega
end
section
theorem sfl_13_38 : Cond.fieldLink "java/lang/String" 38 "java/lang/String" "COMPACT_STRINGS" "Z" ∈ gw := (gt2 (i := 135) rfl rfl)
theorem sfl_13_1053 : Cond.fieldLink "java/lang/String" 1053 "jdk/internal/util/Preconditions" "SIOOBE_FORMATTER" "Ljava/util/function/BiFunction;" ∈ gw := (gt2 (i := 151) rfl rfl)
theorem sfl_13_9 : Cond.fieldLink "java/lang/String" 9 "java/lang/String" "value" "[B" ∈ gw := (gt6 (i := 107) rfl rfl)
theorem sfl_13_15 : Cond.fieldLink "java/lang/String" 15 "java/lang/String" "coder" "B" ∈ gw := (gt6 (i := 108) rfl rfl)
theorem sfl_8_322 : Cond.fieldLink "SeesawPark" 322 "SeesawPark" "KIND_MARK" "[I" ∈ gw := (gt4 (i := 123) rfl rfl)
theorem sfl_8_325 : Cond.fieldLink "SeesawPark" 325 "SeesawPark" "KIND_ABOVE" "[I" ∈ gw := (gt4 (i := 125) rfl rfl)
theorem ok_X0_begin : mok m_X0_begin := ⟨(gt3 (i := 216) rfl rfl), ini_0, rfl, ⟨by decide +kernel, by decide +kernel, by decide +kernel⟩, by decide, by decide +kernel, ⟨(gt3 (i := 214) rfl rfl), (gt3 (i := 215) rfl rfl)⟩⟩
theorem ok_X0_winningMove : mok m_X0_winningMove := ⟨(gt3 (i := 223) rfl rfl), ini_0, rfl, ⟨by decide +kernel, by decide +kernel, by decide +kernel⟩, by decide, by decide +kernel, ⟨(gt3 (i := 221) rfl rfl), (gt3 (i := 222) rfl rfl)⟩⟩
theorem ok_X0_moveFrom : mok m_X0_moveFrom := ⟨(gt3 (i := 227) rfl rfl), ini_0, rfl, ⟨by decide +kernel, by decide +kernel, by decide +kernel⟩, by decide, by decide +kernel, ⟨(gt3 (i := 226) rfl rfl), (gp2 (i := 6) rfl)⟩⟩
theorem ok_X1_spread : mok m_X1_spread := ⟨(gt3 (i := 150) rfl rfl), ini_1, rfl, ⟨by decide +kernel, by decide +kernel, by decide +kernel⟩, by decide, by decide +kernel, ⟨(gt3 (i := 148) rfl rfl), (gt3 (i := 149) rfl rfl)⟩⟩
theorem ok_X1_addSeatOf : mok m_X1_addSeatOf := ⟨(gt3 (i := 156) rfl rfl), ini_1, rfl, ⟨by decide +kernel, by decide +kernel, by decide +kernel⟩, by decide, by decide +kernel, ⟨(gt3 (i := 155) rfl rfl), (gp1 (i := 15) rfl)⟩⟩
theorem ok_X1_mergeShifted : mok m_X1_mergeShifted := ⟨(gt3 (i := 160) rfl rfl), ini_1, rfl, ⟨by decide +kernel, by decide +kernel, by decide +kernel⟩, by decide, by decide +kernel, ⟨(gt3 (i := 159) rfl rfl), (gp2 (i := 0) rfl)⟩⟩
theorem ok_X1_wordAt : mok m_X1_wordAt := ⟨(gt3 (i := 164) rfl rfl), ini_1, rfl, ⟨by decide +kernel, by decide +kernel, by decide +kernel⟩, by decide, by decide +kernel, ⟨(gt3 (i := 163) rfl rfl), (gp2 (i := 1) rfl)⟩⟩
theorem ok_X1_largestLevel : mok m_X1_largestLevel := ⟨(gt3 (i := 168) rfl rfl), ini_1, rfl, ⟨by decide +kernel, by decide +kernel, by decide +kernel⟩, by decide, by decide +kernel, ⟨(gt3 (i := 166) rfl rfl), (gt3 (i := 167) rfl rfl)⟩⟩
theorem ok_X1_canLevel : mok m_X1_canLevel := ⟨(gt3 (i := 173) rfl rfl), ini_1, rfl, ⟨by decide +kernel, by decide +kernel, by decide +kernel⟩, by decide, by decide +kernel, ⟨(gt3 (i := 172) rfl rfl), (gp2 (i := 2) rfl)⟩⟩
theorem ok_X2_run : mok m_X2_run := ⟨(gt4 (i := 76) rfl rfl), ini_2, rfl, ⟨by decide +kernel, by decide +kernel, by decide +kernel⟩, by decide, by decide +kernel, ⟨(gt4 (i := 74) rfl rfl), (gt4 (i := 75) rfl rfl)⟩⟩
theorem ok_X2_letOff : mok m_X2_letOff := ⟨(gt4 (i := 84) rfl rfl), ini_2, rfl, ⟨by decide +kernel, by decide +kernel, by decide +kernel⟩, by decide, by decide +kernel, ⟨(gt4 (i := 83) rfl rfl), (gp2 (i := 12) rfl)⟩⟩
theorem ok_X2_wantsMore : mok m_X2_wantsMore := ⟨(gt4 (i := 88) rfl rfl), ini_2, rfl, ⟨by decide +kernel, by decide +kernel, by decide +kernel⟩, by decide, by decide +kernel, ⟨(gt4 (i := 87) rfl rfl), (gp2 (i := 13) rfl)⟩⟩
theorem ok_X2_letOn : mok m_X2_letOn := ⟨(gt4 (i := 92) rfl rfl), ini_2, rfl, ⟨by decide +kernel, by decide +kernel, by decide +kernel⟩, by decide, by decide +kernel, ⟨(gt4 (i := 91) rfl rfl), (gp2 (i := 14) rfl)⟩⟩
theorem ok_X2_rideOn : mok m_X2_rideOn := ⟨(gt4 (i := 105) rfl rfl), ini_2, rfl, ⟨by decide +kernel, by decide +kernel, by decide +kernel⟩, by decide, by decide +kernel, ⟨(gt4 (i := 104) rfl rfl), (gp3 (i := 0) rfl)⟩⟩
theorem ok_X2_joinRow : mok m_X2_joinRow := ⟨(gt4 (i := 80) rfl rfl), ini_2, rfl, ⟨by decide +kernel, by decide +kernel, by decide +kernel⟩, by decide, by decide +kernel, ⟨(gt4 (i := 79) rfl rfl), (gp2 (i := 11) rfl)⟩⟩
theorem ok_X2_leaveRow : mok m_X2_leaveRow := ⟨(gt4 (i := 101) rfl rfl), ini_2, rfl, ⟨by decide +kernel, by decide +kernel, by decide +kernel⟩, by decide, by decide +kernel, ⟨(gt4 (i := 100) rfl rfl), (gp2 (i := 15) rfl)⟩⟩
theorem ok_X3_forget : mok m_X3_forget := ⟨(gt2 (i := 110) rfl rfl), ini_3, rfl, ⟨by decide +kernel, by decide +kernel, by decide +kernel⟩, by decide, by decide +kernel, ⟨(gt2 (i := 108) rfl rfl), (gt2 (i := 109) rfl rfl)⟩⟩
theorem ok_X3_copyFrom : mok m_X3_copyFrom := ⟨(gt2 (i := 210) rfl rfl), ini_3, rfl, ⟨by decide +kernel, by decide +kernel, by decide +kernel⟩, by decide, by decide +kernel, ⟨(gt2 (i := 208) rfl rfl), (gt2 (i := 209) rfl rfl)⟩⟩
theorem ok_X3_hasPlank : mok m_X3_hasPlank := ⟨(gt2 (i := 226) rfl rfl), ini_3, rfl, ⟨by decide +kernel, by decide +kernel, by decide +kernel⟩, by decide, by decide +kernel, ⟨(gt2 (i := 224) rfl rfl), (gt2 (i := 225) rfl rfl)⟩⟩
theorem ok_X3_hasChild : mok m_X3_hasChild := ⟨(gt3 (i := 21) rfl rfl), ini_3, rfl, ⟨by decide +kernel, by decide +kernel, by decide +kernel⟩, by decide, by decide +kernel, ⟨(gt3 (i := 19) rfl rfl), (gt3 (i := 20) rfl rfl)⟩⟩
theorem ok_X3_hasStone : mok m_X3_hasStone := ⟨(gt3 (i := 29) rfl rfl), ini_3, rfl, ⟨by decide +kernel, by decide +kernel, by decide +kernel⟩, by decide, by decide +kernel, ⟨(gt3 (i := 27) rfl rfl), (gt3 (i := 28) rfl rfl)⟩⟩
theorem ok_X3_hasSeat : mok m_X3_hasSeat := ⟨(gt3 (i := 37) rfl rfl), ini_3, rfl, ⟨by decide +kernel, by decide +kernel, by decide +kernel⟩, by decide, by decide +kernel, ⟨(gt3 (i := 35) rfl rfl), (gt3 (i := 36) rfl rfl)⟩⟩
theorem ok_X3_allChildren : mok m_X3_allChildren := ⟨(gt3 (i := 90) rfl rfl), ini_3, rfl, ⟨by decide +kernel, by decide +kernel, by decide +kernel⟩, by decide, by decide +kernel, ⟨(gt3 (i := 88) rfl rfl), (gt3 (i := 89) rfl rfl)⟩⟩
theorem ok_X3_fits : mok m_X3_fits := ⟨(gt4 (i := 96) rfl rfl), ini_3, rfl, ⟨by decide +kernel, by decide +kernel, by decide +kernel⟩, by decide, by decide +kernel, ⟨(gt4 (i := 94) rfl rfl), (gt4 (i := 95) rfl rfl)⟩⟩
theorem ok_X4_reset : mok m_X4_reset := ⟨(gt2 (i := 217) rfl rfl), ini_4, rfl, ⟨by decide +kernel, by decide +kernel, by decide +kernel⟩, by decide, by decide +kernel, ⟨(gt2 (i := 215) rfl rfl), (gt2 (i := 216) rfl rfl)⟩⟩
theorem ok_X4_copyFrom : mok m_X4_copyFrom := ⟨(gt4 (i := 138) rfl rfl), ini_4, rfl, ⟨by decide +kernel, by decide +kernel, by decide +kernel⟩, by decide, by decide +kernel, ⟨(gt4 (i := 136) rfl rfl), (gt4 (i := 137) rfl rfl)⟩⟩
theorem ok_X4_hasChildAt : mok m_X4_hasChildAt := ⟨(gt3 (i := 42) rfl rfl), ini_4, rfl, ⟨by decide +kernel, by decide +kernel, by decide +kernel⟩, by decide, by decide +kernel, ⟨(gt3 (i := 40) rfl rfl), (gt3 (i := 41) rfl rfl)⟩⟩
theorem ok_X4_hasStoneAt : mok m_X4_hasStoneAt := ⟨(gt3 (i := 70) rfl rfl), ini_4, rfl, ⟨by decide +kernel, by decide +kernel, by decide +kernel⟩, by decide, by decide +kernel, ⟨(gt3 (i := 68) rfl rfl), (gt3 (i := 69) rfl rfl)⟩⟩
theorem ok_X4_childrenOn : mok m_X4_childrenOn := ⟨(gt3 (i := 7) rfl rfl), ini_4, rfl, ⟨by decide +kernel, by decide +kernel, by decide +kernel⟩, by decide, by decide +kernel, ⟨(gt3 (i := 5) rfl rfl), (gt3 (i := 6) rfl rfl)⟩⟩
theorem ok_X4_idleChildren : mok m_X4_idleChildren := ⟨(gt3 (i := 212) rfl rfl), ini_4, rfl, ⟨by decide +kernel, by decide +kernel, by decide +kernel⟩, by decide, by decide +kernel, ⟨(gt3 (i := 210) rfl rfl), (gt3 (i := 211) rfl rfl)⟩⟩
theorem ok_X4_idleStones : mok m_X4_idleStones := ⟨(gt3 (i := 200) rfl rfl), ini_4, rfl, ⟨by decide +kernel, by decide +kernel, by decide +kernel⟩, by decide, by decide +kernel, ⟨(gt3 (i := 198) rfl rfl), (gt3 (i := 199) rfl rfl)⟩⟩
theorem ok_X4_seatedChildren : mok m_X4_seatedChildren := ⟨(gt4 (i := 143) rfl rfl), ini_4, rfl, ⟨by decide +kernel, by decide +kernel, by decide +kernel⟩, by decide, by decide +kernel, ⟨(gt4 (i := 141) rfl rfl), (gt4 (i := 142) rfl rfl)⟩⟩
theorem ok_X4_stoneMoment : mok m_X4_stoneMoment := ⟨(gt2 (i := 235) rfl rfl), ini_4, rfl, ⟨by decide +kernel, by decide +kernel, by decide +kernel⟩, by decide, by decide +kernel, ⟨(gt2 (i := 233) rfl rfl), (gt2 (i := 234) rfl rfl)⟩⟩
theorem ok_X4_moment : mok m_X4_moment := ⟨(gt2 (i := 231) rfl rfl), ini_4, rfl, ⟨by decide +kernel, by decide +kernel, by decide +kernel⟩, by decide, by decide +kernel, ⟨(gt2 (i := 229) rfl rfl), (gt2 (i := 230) rfl rfl)⟩⟩
theorem ok_X4_tilt : mok m_X4_tilt := ⟨(gt2 (i := 239) rfl rfl), ini_4, rfl, ⟨by decide +kernel, by decide +kernel, by decide +kernel⟩, by decide, by decide +kernel, ⟨(gt2 (i := 237) rfl rfl), (gt2 (i := 238) rfl rfl)⟩⟩
theorem ok_X4_seatChild : mok m_X4_seatChild := ⟨(gt3 (i := 58) rfl rfl), ini_4, rfl, ⟨by decide +kernel, by decide +kernel, by decide +kernel⟩, by decide, by decide +kernel, ⟨(gt3 (i := 56) rfl rfl), (gt3 (i := 57) rfl rfl)⟩⟩
theorem ok_X4_unseatChild : mok m_X4_unseatChild := ⟨(gt3 (i := 46) rfl rfl), ini_4, rfl, ⟨by decide +kernel, by decide +kernel, by decide +kernel⟩, by decide, by decide +kernel, ⟨(gt3 (i := 44) rfl rfl), (gt3 (i := 45) rfl rfl)⟩⟩
theorem ok_X4_putStone : mok m_X4_putStone := ⟨(gt3 (i := 78) rfl rfl), ini_4, rfl, ⟨by decide +kernel, by decide +kernel, by decide +kernel⟩, by decide, by decide +kernel, ⟨(gt3 (i := 76) rfl rfl), (gt3 (i := 77) rfl rfl)⟩⟩
theorem ok_X4_liftStone : mok m_X4_liftStone := ⟨(gt3 (i := 74) rfl rfl), ini_4, rfl, ⟨by decide +kernel, by decide +kernel, by decide +kernel⟩, by decide, by decide +kernel, ⟨(gt3 (i := 72) rfl rfl), (gt3 (i := 73) rfl rfl)⟩⟩
theorem ok_X4_settle : mok m_X4_settle := ⟨(gt3 (i := 51) rfl rfl), ini_4, rfl, ⟨by decide +kernel, by decide +kernel, by decide +kernel⟩, by decide, by decide +kernel, ⟨(gt3 (i := 50) rfl rfl), (gp1 (i := 9) rfl)⟩⟩
theorem ok_X5_begin : mok m_X5_begin := ⟨(gt3 (i := 99) rfl rfl), ini_5, rfl, ⟨by decide +kernel, by decide +kernel, by decide +kernel⟩, by decide, by decide +kernel, ⟨(gt3 (i := 97) rfl rfl), (gt3 (i := 98) rfl rfl)⟩⟩
theorem ok_X5_addSeat : mok m_X5_addSeat := ⟨(gt3 (i := 106) rfl rfl), ini_5, rfl, ⟨by decide +kernel, by decide +kernel, by decide +kernel⟩, by decide, by decide +kernel, ⟨(gt3 (i := 104) rfl rfl), (gt3 (i := 105) rfl rfl)⟩⟩
theorem ok_X5_addBody : mok m_X5_addBody := ⟨(gt3 (i := 110) rfl rfl), ini_5, rfl, ⟨by decide +kernel, by decide +kernel, by decide +kernel⟩, by decide, by decide +kernel, ⟨(gt3 (i := 108) rfl rfl), (gt3 (i := 109) rfl rfl)⟩⟩
theorem ok_X5_chosenStep : mok m_X5_chosenStep := ⟨(gt3 (i := 139) rfl rfl), ini_5, rfl, ⟨by decide +kernel, by decide +kernel, by decide +kernel⟩, by decide, by decide +kernel, ⟨(gt3 (i := 137) rfl rfl), (gt3 (i := 138) rfl rfl)⟩⟩
theorem ok_X5_countWays : mok m_X5_countWays := ⟨(gt3 (i := 114) rfl rfl), ini_5, rfl, ⟨by decide +kernel, by decide +kernel, by decide +kernel⟩, by decide, by decide +kernel, ⟨(gt3 (i := 112) rfl rfl), (gt3 (i := 113) rfl rfl)⟩⟩
theorem ok_X5_findFirst : mok m_X5_findFirst := ⟨(gt3 (i := 131) rfl rfl), ini_5, rfl, ⟨by decide +kernel, by decide +kernel, by decide +kernel⟩, by decide, by decide +kernel, ⟨(gt3 (i := 129) rfl rfl), (gt3 (i := 130) rfl rfl)⟩⟩
theorem ok_X5_fewestChanges : mok m_X5_fewestChanges := ⟨(gt3 (i := 184) rfl rfl), ini_5, rfl, ⟨by decide +kernel, by decide +kernel, by decide +kernel⟩, by decide, by decide +kernel, ⟨(gt3 (i := 182) rfl rfl), (gt3 (i := 183) rfl rfl)⟩⟩
theorem ok_X5_measureReach : mok m_X5_measureReach := ⟨(gt3 (i := 118) rfl rfl), ini_5, rfl, ⟨by decide +kernel, by decide +kernel, by decide +kernel⟩, by decide, by decide +kernel, ⟨(gt3 (i := 117) rfl rfl), (gp1 (i := 11) rfl)⟩⟩
theorem ok_X5_isHopeless : mok m_X5_isHopeless := ⟨(gt3 (i := 126) rfl rfl), ini_5, rfl, ⟨by decide +kernel, by decide +kernel, by decide +kernel⟩, by decide, by decide +kernel, ⟨(gt3 (i := 125) rfl rfl), (gp1 (i := 13) rfl)⟩⟩
theorem ok_X5_countFrom : mok m_X5_countFrom := ⟨(gt3 (i := 122) rfl rfl), ini_5, rfl, ⟨by decide +kernel, by decide +kernel, by decide +kernel⟩, by decide, by decide +kernel, ⟨(gt3 (i := 121) rfl rfl), (gp1 (i := 12) rfl)⟩⟩
theorem ok_X5_findFrom : mok m_X5_findFrom := ⟨(gt3 (i := 135) rfl rfl), ini_5, rfl, ⟨by decide +kernel, by decide +kernel, by decide +kernel⟩, by decide, by decide +kernel, ⟨(gt3 (i := 134) rfl rfl), (gp1 (i := 14) rfl)⟩⟩
theorem ok_X5_changeFrom : mok m_X5_changeFrom := ⟨(gt3 (i := 188) rfl rfl), ini_5, rfl, ⟨by decide +kernel, by decide +kernel, by decide +kernel⟩, by decide, by decide +kernel, ⟨(gt3 (i := 187) rfl rfl), (gp2 (i := 3) rfl)⟩⟩
theorem ok_X6_append : mok m_X6_append := ⟨(gt2 (i := 94) rfl rfl), ini_6, rfl, ⟨by decide +kernel, by decide +kernel, by decide +kernel⟩, by decide, by decide +kernel, ⟨(gt2 (i := 92) rfl rfl), (gt2 (i := 93) rfl rfl)⟩⟩
theorem ok_X6_readAll : mok m_X6_readAll := ⟨(gt2 (i := 106) rfl rfl), ini_6, rfl, ⟨by decide +kernel, by decide +kernel, by decide +kernel⟩, by decide, by decide +kernel, ⟨(gt2 (i := 104) rfl rfl), (gt2 (i := 105) rfl rfl)⟩⟩
theorem ok_X6_readPlank : mok m_X6_readPlank := ⟨(gt2 (i := 190) rfl rfl), ini_6, rfl, ⟨by decide +kernel, by decide +kernel, by decide +kernel⟩, by decide, by decide +kernel, ⟨(gt2 (i := 189) rfl rfl), (gp1 (i := 4) rfl)⟩⟩
theorem ok_X6_readChild : mok m_X6_readChild := ⟨(gt2 (i := 202) rfl rfl), ini_6, rfl, ⟨by decide +kernel, by decide +kernel, by decide +kernel⟩, by decide, by decide +kernel, ⟨(gt2 (i := 201) rfl rfl), (gp1 (i := 7) rfl)⟩⟩
theorem ok_X6_readStone : mok m_X6_readStone := ⟨(gt2 (i := 206) rfl rfl), ini_6, rfl, ⟨by decide +kernel, by decide +kernel, by decide +kernel⟩, by decide, by decide +kernel, ⟨(gt2 (i := 205) rfl rfl), (gp1 (i := 8) rfl)⟩⟩
theorem ok_X6_readNumber : mok m_X6_readNumber := ⟨(gt2 (i := 194) rfl rfl), ini_6, rfl, ⟨by decide +kernel, by decide +kernel, by decide +kernel⟩, by decide, by decide +kernel, ⟨(gt2 (i := 193) rfl rfl), (gp1 (i := 5) rfl)⟩⟩
theorem ok_X6_readSemicolon : mok m_X6_readSemicolon := ⟨(gt2 (i := 198) rfl rfl), ini_6, rfl, ⟨by decide +kernel, by decide +kernel, by decide +kernel⟩, by decide, by decide +kernel, ⟨(gt2 (i := 197) rfl rfl), (gp1 (i := 6) rfl)⟩⟩
theorem ok_X6_readToken : mok m_X6_readToken := ⟨(gt2 (i := 114) rfl rfl), ini_6, rfl, ⟨by decide +kernel, by decide +kernel, by decide +kernel⟩, by decide, by decide +kernel, ⟨(gt2 (i := 113) rfl rfl), (gp1 (i := 0) rfl)⟩⟩
theorem ok_X6_readWord : mok m_X6_readWord := ⟨(gt2 (i := 121) rfl rfl), ini_6, rfl, ⟨by decide +kernel, by decide +kernel, by decide +kernel⟩, by decide, by decide +kernel, ⟨(gt2 (i := 120) rfl rfl), (gp1 (i := 1) rfl)⟩⟩
theorem ok_X6_spells : mok m_X6_spells := ⟨(gt2 (i := 126) rfl rfl), ini_6, rfl, ⟨by decide +kernel, by decide +kernel, by decide +kernel⟩, by decide, by decide +kernel, ⟨(gt2 (i := 125) rfl rfl), (gp1 (i := 2) rfl)⟩⟩
theorem ok_X6_readDigits : mok m_X6_readDigits := ⟨(gt2 (i := 183) rfl rfl), ini_6, rfl, ⟨by decide +kernel, by decide +kernel, by decide +kernel⟩, by decide, by decide +kernel, ⟨(gt2 (i := 182) rfl rfl), (gp1 (i := 3) rfl)⟩⟩
theorem ok_X6_isLetter : mok m_X6_isLetter := ⟨(gt2 (i := 117) rfl rfl), ini_6, rfl, ⟨by decide +kernel, by decide +kernel, by decide +kernel⟩, by decide, by decide +kernel, (gt2 (i := 116) rfl rfl)⟩
theorem ok_X6_isDigit : mok m_X6_isDigit := ⟨(gt2 (i := 179) rfl rfl), ini_6, rfl, ⟨by decide +kernel, by decide +kernel, by decide +kernel⟩, by decide, by decide +kernel, (gt2 (i := 178) rfl rfl)⟩
theorem ok_X7_begin : mok m_X7_begin := ⟨(gt3 (i := 236) rfl rfl), ini_7, rfl, ⟨by decide +kernel, by decide +kernel, by decide +kernel⟩, by decide, by decide +kernel, ⟨(gt3 (i := 234) rfl rfl), (gt3 (i := 235) rfl rfl)⟩⟩
theorem ok_X7_hasStranger : mok m_X7_hasStranger := ⟨(gt4 (i := 4) rfl rfl), ini_7, rfl, ⟨by decide +kernel, by decide +kernel, by decide +kernel⟩, by decide, by decide +kernel, ⟨(gt4 (i := 2) rfl rfl), (gt4 (i := 3) rfl rfl)⟩⟩
theorem ok_X7_addTrial : mok m_X7_addTrial := ⟨(gt4 (i := 8) rfl rfl), ini_7, rfl, ⟨by decide +kernel, by decide +kernel, by decide +kernel⟩, by decide, by decide +kernel, ⟨(gt4 (i := 6) rfl rfl), (gt4 (i := 7) rfl rfl)⟩⟩
theorem ok_X7_fitting : mok m_X7_fitting := ⟨(gt4 (i := 16) rfl rfl), ini_7, rfl, ⟨by decide +kernel, by decide +kernel, by decide +kernel⟩, by decide, by decide +kernel, ⟨(gt4 (i := 14) rfl rfl), (gt4 (i := 15) rfl rfl)⟩⟩
theorem ok_X7_fittingWith : mok m_X7_fittingWith := ⟨(gt4 (i := 43) rfl rfl), ini_7, rfl, ⟨by decide +kernel, by decide +kernel, by decide +kernel⟩, by decide, by decide +kernel, ⟨(gt4 (i := 41) rfl rfl), (gt4 (i := 42) rfl rfl)⟩⟩
theorem ok_X7_onlyWeight : mok m_X7_onlyWeight := ⟨(gt4 (i := 51) rfl rfl), ini_7, rfl, ⟨by decide +kernel, by decide +kernel, by decide +kernel⟩, by decide, by decide +kernel, ⟨(gt4 (i := 49) rfl rfl), (gt4 (i := 50) rfl rfl)⟩⟩
theorem ok_X7_bestPair : mok m_X7_bestPair := ⟨(gt4 (i := 60) rfl rfl), ini_7, rfl, ⟨by decide +kernel, by decide +kernel, by decide +kernel⟩, by decide, by decide +kernel, ⟨(gt4 (i := 58) rfl rfl), (gt4 (i := 59) rfl rfl)⟩⟩
theorem ok_X7_leftAtWorst : mok m_X7_leftAtWorst := ⟨(gt4 (i := 64) rfl rfl), ini_7, rfl, ⟨by decide +kernel, by decide +kernel, by decide +kernel⟩, by decide, by decide +kernel, ⟨(gt4 (i := 62) rfl rfl), (gt4 (i := 63) rfl rfl)⟩⟩
theorem ok_X7_outcomeCell : mok m_X7_outcomeCell := ⟨(gt4 (i := 39) rfl rfl), ini_7, rfl, ⟨by decide +kernel, by decide +kernel, by decide +kernel⟩, by decide, by decide +kernel, (gt4 (i := 38) rfl rfl)⟩
theorem ok_X7_survey : mok m_X7_survey := ⟨(gt4 (i := 20) rfl rfl), ini_7, rfl, ⟨by decide +kernel, by decide +kernel, by decide +kernel⟩, by decide, by decide +kernel, ⟨(gt4 (i := 19) rfl rfl), (gp2 (i := 7) rfl)⟩⟩
theorem ok_X7_guessFrom : mok m_X7_guessFrom := ⟨(gt4 (i := 27) rfl rfl), ini_7, rfl, ⟨by decide +kernel, by decide +kernel, by decide +kernel⟩, by decide, by decide +kernel, ⟨(gt4 (i := 26) rfl rfl), (gp2 (i := 8) rfl)⟩⟩
theorem ok_X7_guessFits : mok m_X7_guessFits := ⟨(gt4 (i := 31) rfl rfl), ini_7, rfl, ⟨by decide +kernel, by decide +kernel, by decide +kernel⟩, by decide, by decide +kernel, ⟨(gt4 (i := 30) rfl rfl), (gp2 (i := 9) rfl)⟩⟩
theorem ok_X7_tally : mok m_X7_tally := ⟨(gt4 (i := 36) rfl rfl), ini_7, rfl, ⟨by decide +kernel, by decide +kernel, by decide +kernel⟩, by decide, by decide +kernel, ⟨(gt4 (i := 35) rfl rfl), (gp2 (i := 10) rfl)⟩⟩
theorem ok_X8_type : mok m_X8_type := ⟨(gt2 (i := 89) rfl rfl), ini_8, rfl, ⟨by decide +kernel, by decide +kernel, by decide +kernel⟩, by decide, by decide +kernel, ⟨(gt2 (i := 87) rfl rfl), (gt2 (i := 88) rfl rfl)⟩⟩
theorem ok_X8_clear : mok m_X8_clear := ⟨(gt2 (i := 98) rfl rfl), ini_8, rfl, ⟨by decide +kernel, by decide +kernel, by decide +kernel⟩, by decide, by decide +kernel, ⟨(gt2 (i := 96) rfl rfl), (gt2 (i := 97) rfl rfl)⟩⟩
theorem ok_X8_park : mok m_X8_park := ⟨(gt2 (i := 102) rfl rfl), ini_8, rfl, ⟨by decide +kernel, by decide +kernel, by decide +kernel⟩, by decide, by decide +kernel, ⟨(gt2 (i := 100) rfl rfl), (gt2 (i := 101) rfl rfl)⟩⟩
theorem ok_X8_plank : mok m_X8_plank := ⟨(gt2 (i := 222) rfl rfl), ini_8, rfl, ⟨by decide +kernel, by decide +kernel, by decide +kernel⟩, by decide, by decide +kernel, ⟨(gt2 (i := 220) rfl rfl), (gt2 (i := 221) rfl rfl)⟩⟩
theorem ok_X8_child : mok m_X8_child := ⟨(gt3 (i := 17) rfl rfl), ini_8, rfl, ⟨by decide +kernel, by decide +kernel, by decide +kernel⟩, by decide, by decide +kernel, ⟨(gt3 (i := 15) rfl rfl), (gt3 (i := 16) rfl rfl)⟩⟩
theorem ok_X8_stone : mok m_X8_stone := ⟨(gt3 (i := 25) rfl rfl), ini_8, rfl, ⟨by decide +kernel, by decide +kernel, by decide +kernel⟩, by decide, by decide +kernel, ⟨(gt3 (i := 23) rfl rfl), (gt3 (i := 24) rfl rfl)⟩⟩
theorem ok_X8_sits : mok m_X8_sits := ⟨(gt3 (i := 33) rfl rfl), ini_8, rfl, ⟨by decide +kernel, by decide +kernel, by decide +kernel⟩, by decide, by decide +kernel, ⟨(gt3 (i := 31) rfl rfl), (gt3 (i := 32) rfl rfl)⟩⟩
theorem ok_X8_leaves : mok m_X8_leaves := ⟨(gt3 (i := 62) rfl rfl), ini_8, rfl, ⟨by decide +kernel, by decide +kernel, by decide +kernel⟩, by decide, by decide +kernel, ⟨(gt3 (i := 60) rfl rfl), (gt3 (i := 61) rfl rfl)⟩⟩
theorem ok_X8_lay : mok m_X8_lay := ⟨(gt3 (i := 66) rfl rfl), ini_8, rfl, ⟨by decide +kernel, by decide +kernel, by decide +kernel⟩, by decide, by decide +kernel, ⟨(gt3 (i := 64) rfl rfl), (gt3 (i := 65) rfl rfl)⟩⟩
theorem ok_X8_take : mok m_X8_take := ⟨(gt3 (i := 82) rfl rfl), ini_8, rfl, ⟨by decide +kernel, by decide +kernel, by decide +kernel⟩, by decide, by decide +kernel, ⟨(gt3 (i := 80) rfl rfl), (gt3 (i := 81) rfl rfl)⟩⟩
theorem ok_X8_ways : mok m_X8_ways := ⟨(gt3 (i := 86) rfl rfl), ini_8, rfl, ⟨by decide +kernel, by decide +kernel, by decide +kernel⟩, by decide, by decide +kernel, ⟨(gt3 (i := 84) rfl rfl), (gt3 (i := 85) rfl rfl)⟩⟩
theorem ok_X8_most : mok m_X8_most := ⟨(gt3 (i := 143) rfl rfl), ini_8, rfl, ⟨by decide +kernel, by decide +kernel, by decide +kernel⟩, by decide, by decide +kernel, ⟨(gt3 (i := 141) rfl rfl), (gt3 (i := 142) rfl rfl)⟩⟩
theorem ok_X8_moves : mok m_X8_moves := ⟨(gt3 (i := 180) rfl rfl), ini_8, rfl, ⟨by decide +kernel, by decide +kernel, by decide +kernel⟩, by decide, by decide +kernel, ⟨(gt3 (i := 178) rfl rfl), (gt3 (i := 179) rfl rfl)⟩⟩
theorem ok_X8_ballast : mok m_X8_ballast := ⟨(gt3 (i := 192) rfl rfl), ini_8, rfl, ⟨by decide +kernel, by decide +kernel, by decide +kernel⟩, by decide, by decide +kernel, ⟨(gt3 (i := 190) rfl rfl), (gt3 (i := 191) rfl rfl)⟩⟩
theorem ok_X8_game : mok m_X8_game := ⟨(gt3 (i := 208) rfl rfl), ini_8, rfl, ⟨by decide +kernel, by decide +kernel, by decide +kernel⟩, by decide, by decide +kernel, ⟨(gt3 (i := 206) rfl rfl), (gt3 (i := 207) rfl rfl)⟩⟩
theorem ok_X8_strangers : mok m_X8_strangers := ⟨(gt3 (i := 232) rfl rfl), ini_8, rfl, ⟨by decide +kernel, by decide +kernel, by decide +kernel⟩, by decide, by decide +kernel, ⟨(gt3 (i := 230) rfl rfl), (gt3 (i := 231) rfl rfl)⟩⟩
theorem ok_X8_trial : mok m_X8_trial := ⟨(gt4 (i := 0) rfl rfl), ini_8, rfl, ⟨by decide +kernel, by decide +kernel, by decide +kernel⟩, by decide, by decide +kernel, ⟨(gt3 (i := 238) rfl rfl), (gt3 (i := 239) rfl rfl)⟩⟩
theorem ok_X8_could : mok m_X8_could := ⟨(gt4 (i := 12) rfl rfl), ini_8, rfl, ⟨by decide +kernel, by decide +kernel, by decide +kernel⟩, by decide, by decide +kernel, ⟨(gt4 (i := 10) rfl rfl), (gt4 (i := 11) rfl rfl)⟩⟩
theorem ok_X8_sure : mok m_X8_sure := ⟨(gt4 (i := 47) rfl rfl), ini_8, rfl, ⟨by decide +kernel, by decide +kernel, by decide +kernel⟩, by decide, by decide +kernel, ⟨(gt4 (i := 45) rfl rfl), (gt4 (i := 46) rfl rfl)⟩⟩
theorem ok_X8_next : mok m_X8_next := ⟨(gt4 (i := 56) rfl rfl), ini_8, rfl, ⟨by decide +kernel, by decide +kernel, by decide +kernel⟩, by decide, by decide +kernel, ⟨(gt4 (i := 54) rfl rfl), (gt4 (i := 55) rfl rfl)⟩⟩
theorem ok_X8_rides : mok m_X8_rides := ⟨(gt4 (i := 72) rfl rfl), ini_8, rfl, ⟨by decide +kernel, by decide +kernel, by decide +kernel⟩, by decide, by decide +kernel, ⟨(gt4 (i := 70) rfl rfl), (gt4 (i := 71) rfl rfl)⟩⟩
theorem ok_X8_forever : mok m_X8_forever := ⟨(gt4 (i := 109) rfl rfl), ini_8, rfl, ⟨by decide +kernel, by decide +kernel, by decide +kernel⟩, by decide, by decide +kernel, ⟨(gt4 (i := 107) rfl rfl), (gt4 (i := 108) rfl rfl)⟩⟩
theorem ok_X8_rate : mok m_X8_rate := ⟨(gt4 (i := 118) rfl rfl), ini_8, rfl, ⟨by decide +kernel, by decide +kernel, by decide +kernel⟩, by decide, by decide +kernel, ⟨(gt4 (i := 116) rfl rfl), (gt4 (i := 117) rfl rfl)⟩⟩
theorem ok_X8_keep : mok m_X8_keep := ⟨(gt4 (i := 130) rfl rfl), ini_8, rfl, ⟨by decide +kernel, by decide +kernel, by decide +kernel⟩, by decide, by decide +kernel, ⟨(gt4 (i := 128) rfl rfl), (gt4 (i := 129) rfl rfl)⟩⟩
theorem ok_X8_back : mok m_X8_back := ⟨(gt4 (i := 149) rfl rfl), ini_8, rfl, ⟨by decide +kernel, by decide +kernel, by decide +kernel⟩, by decide, by decide +kernel, ⟨(gt4 (i := 147) rfl rfl), (gt4 (i := 148) rfl rfl)⟩⟩
theorem ok_X8_count : mok m_X8_count := ⟨(gt4 (i := 153) rfl rfl), ini_8, rfl, ⟨by decide +kernel, by decide +kernel, by decide +kernel⟩, by decide, by decide +kernel, ⟨(gt4 (i := 151) rfl rfl), (gt4 (i := 152) rfl rfl)⟩⟩
theorem ok_X8_trace : mok m_X8_trace := ⟨(gt4 (i := 157) rfl rfl), ini_8, rfl, ⟨by decide +kernel, by decide +kernel, by decide +kernel⟩, by decide, by decide +kernel, ⟨(gt4 (i := 155) rfl rfl), (gt4 (i := 156) rfl rfl)⟩⟩
theorem ok_X8_isZeroOrOne : mok m_X8_isZeroOrOne := ⟨(gt3 (i := 146) rfl rfl), ini_8, rfl, ⟨by decide +kernel, by decide +kernel, by decide +kernel⟩, by decide, by decide +kernel, (gt3 (i := 145) rfl rfl)⟩
theorem ok_X8_stepOfSeat : mok m_X8_stepOfSeat := ⟨(gt3 (i := 102) rfl rfl), ini_8, rfl, ⟨by decide +kernel, by decide +kernel, by decide +kernel⟩, by decide, by decide +kernel, (gt3 (i := 101) rfl rfl)⟩
theorem ok_X8_countOrSet : mok m_X8_countOrSet := ⟨(gt3 (i := 176) rfl rfl), ini_8, rfl, ⟨by decide +kernel, by decide +kernel, by decide +kernel⟩, by decide, by decide +kernel, (gt3 (i := 175) rfl rfl)⟩
theorem ok_X8_imageOf : mok m_X8_imageOf := ⟨(gt4 (i := 134) rfl rfl), ini_8, rfl, ⟨by decide +kernel, by decide +kernel, by decide +kernel⟩, by decide, by decide +kernel, ⟨(gt4 (i := 133) rfl rfl), (gp3 (i := 3) rfl)⟩⟩
theorem ok_X8_askWays : mok m_X8_askWays := ⟨(gt3 (i := 94) rfl rfl), ini_8, rfl, ⟨by decide +kernel, by decide +kernel, by decide +kernel⟩, by decide, by decide +kernel, ⟨(gt3 (i := 93) rfl rfl), (gp1 (i := 10) rfl)⟩⟩
theorem ok_X8_leastBallast : mok m_X8_leastBallast := ⟨(gt3 (i := 196) rfl rfl), ini_8, rfl, ⟨by decide +kernel, by decide +kernel, by decide +kernel⟩, by decide, by decide +kernel, ⟨(gt3 (i := 195) rfl rfl), (gp2 (i := 4) rfl)⟩⟩
theorem ok_X8_canBallast : mok m_X8_canBallast := ⟨(gt3 (i := 204) rfl rfl), ini_8, rfl, ⟨by decide +kernel, by decide +kernel, by decide +kernel⟩, by decide, by decide +kernel, ⟨(gt3 (i := 203) rfl rfl), (gp2 (i := 5) rfl)⟩⟩
theorem ok_X8_hasPartner : mok m_X8_hasPartner := ⟨(gt4 (i := 113) rfl rfl), ini_8, rfl, ⟨by decide +kernel, by decide +kernel, by decide +kernel⟩, by decide, by decide +kernel, ⟨(gt4 (i := 112) rfl rfl), (gp3 (i := 1) rfl)⟩⟩
theorem ok_X8_rateAs : mok m_X8_rateAs := ⟨(gt4 (i := 122) rfl rfl), ini_8, rfl, ⟨by decide +kernel, by decide +kernel, by decide +kernel⟩, by decide, by decide +kernel, ⟨(gt4 (i := 121) rfl rfl), (gp3 (i := 2) rfl)⟩⟩
theorem ok_X9_in : mok m_X9_in := ⟨(gt4 (i := 170) rfl rfl), ini_9, rfl, ⟨by decide +kernel, by decide +kernel, by decide +kernel⟩, by decide, by decide +kernel, (gt4 (i := 169) rfl rfl)⟩
theorem ok_X9_size : mok m_X9_size := ⟨(gt5 (i := 115) rfl rfl), ini_9, rfl, ⟨by decide +kernel, by decide +kernel, by decide +kernel⟩, by decide, by decide +kernel, (gt5 (i := 114) rfl rfl)⟩
theorem ok_X9_type : mok m_X9_type := ⟨(gt5 (i := 44) rfl rfl), ini_9, rfl, ⟨by decide +kernel, by decide +kernel, by decide +kernel⟩, by decide, by decide +kernel, ⟨(gt5 (i := 42) rfl rfl), (gt5 (i := 43) rfl rfl)⟩⟩
theorem ok_X9_clear : mok m_X9_clear := ⟨(gt5 (i := 49) rfl rfl), ini_9, rfl, ⟨by decide +kernel, by decide +kernel, by decide +kernel⟩, by decide, by decide +kernel, ⟨(gt5 (i := 47) rfl rfl), (gt5 (i := 48) rfl rfl)⟩⟩
theorem ok_X9_byteAt : mok m_X9_byteAt := ⟨(gt5 (i := 61) rfl rfl), ini_9, rfl, ⟨by decide +kernel, by decide +kernel, by decide +kernel⟩, by decide, by decide +kernel, ⟨(gt5 (i := 60) rfl rfl), (gp3 (i := 6) rfl)⟩⟩
theorem ok_X9_add : mok m_X9_add := ⟨(gt5 (i := 64) rfl rfl), ini_9, rfl, ⟨by decide +kernel, by decide +kernel, by decide +kernel⟩, by decide, by decide +kernel, (gt5 (i := 63) rfl rfl)⟩
theorem ok_X9_named : mok m_X9_named := ⟨(gt5 (i := 71) rfl rfl), ini_9, rfl, ⟨by decide +kernel, by decide +kernel, by decide +kernel⟩, by decide, by decide +kernel, (gt5 (i := 70) rfl rfl)⟩
theorem ok_X9_wordOf : mok m_X9_wordOf := ⟨(gt5 (i := 68) rfl rfl), ini_9, rfl, ⟨by decide +kernel, by decide +kernel, by decide +kernel⟩, by decide, by decide +kernel, (gt5 (i := 67) rfl rfl)⟩
theorem ok_X9_advances : mok m_X9_advances := ⟨(gt5 (i := 57) rfl rfl), ini_9, rfl, ⟨by decide +kernel, by decide +kernel, by decide +kernel⟩, by decide, by decide +kernel, ⟨(gt5 (i := 56) rfl rfl), (gp3 (i := 5) rfl)⟩⟩
theorem ok_X9_isWell : mok m_X9_isWell := ⟨(gt5 (i := 75) rfl rfl), ini_9, rfl, ⟨by decide +kernel, by decide +kernel, by decide +kernel⟩, by decide, by decide +kernel, ⟨(gt5 (i := 74) rfl rfl), (gp3 (i := 7) rfl)⟩⟩
theorem ok_X9_takes : mok m_X9_takes := ⟨(gt5 (i := 79) rfl rfl), ini_9, rfl, ⟨by decide +kernel, by decide +kernel, by decide +kernel⟩, by decide, by decide +kernel, ⟨(gt5 (i := 78) rfl rfl), (gp3 (i := 8) rfl)⟩⟩
theorem ok_X9_number : mok m_X9_number := ⟨(gt5 (i := 87) rfl rfl), ini_9, rfl, ⟨by decide +kernel, by decide +kernel, by decide +kernel⟩, by decide, by decide +kernel, ⟨(gt5 (i := 86) rfl rfl), (gp3 (i := 10) rfl)⟩⟩
theorem ok_X9_readsItem : mok m_X9_readsItem := ⟨(gt5 (i := 83) rfl rfl), ini_9, rfl, ⟨by decide +kernel, by decide +kernel, by decide +kernel⟩, by decide, by decide +kernel, ⟨(gt5 (i := 82) rfl rfl), (gp3 (i := 9) rfl)⟩⟩
theorem ok_X9_park : mok m_X9_park := ⟨(gt5 (i := 53) rfl rfl), ini_9, rfl, ⟨by decide +kernel, by decide +kernel, by decide +kernel⟩, by decide, by decide +kernel, ⟨(gt5 (i := 51) rfl rfl), (gt5 (i := 52) rfl rfl)⟩⟩
theorem ok_X9_begins : mok m_X9_begins := ⟨(gt4 (i := 167) rfl rfl), ini_9, rfl, ⟨by decide +kernel, by decide +kernel, by decide +kernel⟩, by decide, by decide +kernel, ⟨(gt4 (i := 166) rfl rfl), (gp3 (i := 4) rfl)⟩⟩
theorem ok_X9_isPlank : mok m_X9_isPlank := ⟨(gt5 (i := 95) rfl rfl), ini_9, rfl, ⟨by decide +kernel, by decide +kernel, by decide +kernel⟩, by decide, by decide +kernel, ⟨(gt5 (i := 94) rfl rfl), (gp3 (i := 11) rfl)⟩⟩
theorem ok_X9_isChild : mok m_X9_isChild := ⟨(gt5 (i := 127) rfl rfl), ini_9, rfl, ⟨by decide +kernel, by decide +kernel, by decide +kernel⟩, by decide, by decide +kernel, ⟨(gt5 (i := 126) rfl rfl), (gp4 (i := 1) rfl)⟩⟩
theorem ok_X9_isStone : mok m_X9_isStone := ⟨(gt5 (i := 135) rfl rfl), ini_9, rfl, ⟨by decide +kernel, by decide +kernel, by decide +kernel⟩, by decide, by decide +kernel, ⟨(gt5 (i := 134) rfl rfl), (gp4 (i := 2) rfl)⟩⟩
theorem ok_X9_stonesOn : mok m_X9_stonesOn := ⟨(gt5 (i := 104) rfl rfl), ini_9, rfl, ⟨by decide +kernel, by decide +kernel, by decide +kernel⟩, by decide, by decide +kernel, ⟨(gt5 (i := 103) rfl rfl), (gp3 (i := 13) rfl)⟩⟩
theorem ok_X9_momentOf : mok m_X9_momentOf := ⟨(gt5 (i := 100) rfl rfl), ini_9, rfl, ⟨by decide +kernel, by decide +kernel, by decide +kernel⟩, by decide, by decide +kernel, ⟨(gt5 (i := 99) rfl rfl), (gp3 (i := 12) rfl)⟩⟩
theorem ok_X9_tiltBy : mok m_X9_tiltBy := ⟨(gt5 (i := 112) rfl rfl), ini_9, rfl, ⟨by decide +kernel, by decide +kernel, by decide +kernel⟩, by decide, by decide +kernel, ⟨(gt5 (i := 111) rfl rfl), (gp3 (i := 15) rfl)⟩⟩
theorem ok_X9_tiltOf : mok m_X9_tiltOf := ⟨(gt5 (i := 108) rfl rfl), ini_9, rfl, ⟨by decide +kernel, by decide +kernel, by decide +kernel⟩, by decide, by decide +kernel, ⟨(gt5 (i := 107) rfl rfl), (gp3 (i := 14) rfl)⟩⟩
theorem ok_X9_sittingOn : mok m_X9_sittingOn := ⟨(gt5 (i := 119) rfl rfl), ini_9, rfl, ⟨by decide +kernel, by decide +kernel, by decide +kernel⟩, by decide, by decide +kernel, ⟨(gt5 (i := 118) rfl rfl), (gp4 (i := 0) rfl)⟩⟩
theorem ok_X9_plank : mok m_X9_plank := ⟨(gt5 (i := 91) rfl rfl), ini_9, rfl, ⟨by decide +kernel, by decide +kernel, by decide +kernel⟩, by decide, by decide +kernel, ⟨(gt5 (i := 89) rfl rfl), (gt5 (i := 90) rfl rfl)⟩⟩
theorem ok_X9_child : mok m_X9_child := ⟨(gt5 (i := 123) rfl rfl), ini_9, rfl, ⟨by decide +kernel, by decide +kernel, by decide +kernel⟩, by decide, by decide +kernel, ⟨(gt5 (i := 121) rfl rfl), (gt5 (i := 122) rfl rfl)⟩⟩
theorem ok_X9_stone : mok m_X9_stone := ⟨(gt5 (i := 131) rfl rfl), ini_9, rfl, ⟨by decide +kernel, by decide +kernel, by decide +kernel⟩, by decide, by decide +kernel, ⟨(gt5 (i := 129) rfl rfl), (gt5 (i := 130) rfl rfl)⟩⟩
theorem ok_X9_bumps : mok m_X9_bumps := ⟨(gt5 (i := 147) rfl rfl), ini_9, rfl, ⟨by decide +kernel, by decide +kernel, by decide +kernel⟩, by decide, by decide +kernel, ⟨(gt5 (i := 146) rfl rfl), (gp4 (i := 4) rfl)⟩⟩
theorem ok_X9_goes : mok m_X9_goes := ⟨(gt5 (i := 143) rfl rfl), ini_9, rfl, ⟨by decide +kernel, by decide +kernel, by decide +kernel⟩, by decide, by decide +kernel, ⟨(gt5 (i := 142) rfl rfl), (gp4 (i := 3) rfl)⟩⟩
theorem ok_X9_comes : mok m_X9_comes := ⟨(gt5 (i := 151) rfl rfl), ini_9, rfl, ⟨by decide +kernel, by decide +kernel, by decide +kernel⟩, by decide, by decide +kernel, ⟨(gt5 (i := 150) rfl rfl), (gp4 (i := 5) rfl)⟩⟩
theorem ok_X9_sits : mok m_X9_sits := ⟨(gt5 (i := 139) rfl rfl), ini_9, rfl, ⟨by decide +kernel, by decide +kernel, by decide +kernel⟩, by decide, by decide +kernel, ⟨(gt5 (i := 137) rfl rfl), (gt5 (i := 138) rfl rfl)⟩⟩
theorem ok_X9_leaves : mok m_X9_leaves := ⟨(gt5 (i := 155) rfl rfl), ini_9, rfl, ⟨by decide +kernel, by decide +kernel, by decide +kernel⟩, by decide, by decide +kernel, ⟨(gt5 (i := 153) rfl rfl), (gt5 (i := 154) rfl rfl)⟩⟩
theorem ok_X9_lay : mok m_X9_lay := ⟨(gt5 (i := 159) rfl rfl), ini_9, rfl, ⟨by decide +kernel, by decide +kernel, by decide +kernel⟩, by decide, by decide +kernel, ⟨(gt5 (i := 157) rfl rfl), (gt5 (i := 158) rfl rfl)⟩⟩
theorem ok_X9_take : mok m_X9_take := ⟨(gt5 (i := 163) rfl rfl), ini_9, rfl, ⟨by decide +kernel, by decide +kernel, by decide +kernel⟩, by decide, by decide +kernel, ⟨(gt5 (i := 161) rfl rfl), (gt5 (i := 162) rfl rfl)⟩⟩
theorem ok_X9_stepOf : mok m_X9_stepOf := ⟨(gt5 (i := 188) rfl rfl), ini_9, rfl, ⟨by decide +kernel, by decide +kernel, by decide +kernel⟩, by decide, by decide +kernel, ⟨(gt5 (i := 187) rfl rfl), (gp4 (i := 10) rfl)⟩⟩
theorem ok_X9_seats : mok m_X9_seats := ⟨(gt5 (i := 180) rfl rfl), ini_9, rfl, ⟨by decide +kernel, by decide +kernel, by decide +kernel⟩, by decide, by decide +kernel, ⟨(gt5 (i := 179) rfl rfl), (gp4 (i := 8) rfl)⟩⟩
theorem ok_X9_freeSeat : mok m_X9_freeSeat := ⟨(gt5 (i := 184) rfl rfl), ini_9, rfl, ⟨by decide +kernel, by decide +kernel, by decide +kernel⟩, by decide, by decide +kernel, ⟨(gt5 (i := 183) rfl rfl), (gp4 (i := 9) rfl)⟩⟩
theorem ok_X9_waysOf : mok m_X9_waysOf := ⟨(gt5 (i := 176) rfl rfl), ini_9, rfl, ⟨by decide +kernel, by decide +kernel, by decide +kernel⟩, by decide, by decide +kernel, ⟨(gt5 (i := 175) rfl rfl), (gp4 (i := 7) rfl)⟩⟩
theorem ok_X9_all : mok m_X9_all := ⟨(gt5 (i := 171) rfl rfl), ini_9, rfl, ⟨by decide +kernel, by decide +kernel, by decide +kernel⟩, by decide, by decide +kernel, ⟨(gt5 (i := 170) rfl rfl), (gp4 (i := 6) rfl)⟩⟩
theorem ok_X9_ways : mok m_X9_ways := ⟨(gt5 (i := 167) rfl rfl), ini_9, rfl, ⟨by decide +kernel, by decide +kernel, by decide +kernel⟩, by decide, by decide +kernel, ⟨(gt5 (i := 165) rfl rfl), (gt5 (i := 166) rfl rfl)⟩⟩
theorem ok_X9_ones : mok m_X9_ones := ⟨(gt5 (i := 195) rfl rfl), ini_9, rfl, ⟨by decide +kernel, by decide +kernel, by decide +kernel⟩, by decide, by decide +kernel, (gt5 (i := 194) rfl rfl)⟩
theorem ok_X9_most : mok m_X9_most := ⟨(gt5 (i := 192) rfl rfl), ini_9, rfl, ⟨by decide +kernel, by decide +kernel, by decide +kernel⟩, by decide, by decide +kernel, ⟨(gt5 (i := 190) rfl rfl), (gt5 (i := 191) rfl rfl)⟩⟩
theorem ok_X9_moves : mok m_X9_moves := ⟨(gt5 (i := 199) rfl rfl), ini_9, rfl, ⟨by decide +kernel, by decide +kernel, by decide +kernel⟩, by decide, by decide +kernel, ⟨(gt5 (i := 197) rfl rfl), (gt5 (i := 198) rfl rfl)⟩⟩
theorem ok_X9_hasStone : mok m_X9_hasStone := ⟨(gt5 (i := 211) rfl rfl), ini_9, rfl, ⟨by decide +kernel, by decide +kernel, by decide +kernel⟩, by decide, by decide +kernel, ⟨(gt5 (i := 210) rfl rfl), (gp4 (i := 12) rfl)⟩⟩
theorem ok_X9_levels : mok m_X9_levels := ⟨(gt5 (i := 207) rfl rfl), ini_9, rfl, ⟨by decide +kernel, by decide +kernel, by decide +kernel⟩, by decide, by decide +kernel, ⟨(gt5 (i := 206) rfl rfl), (gp4 (i := 11) rfl)⟩⟩
theorem ok_X9_ballast : mok m_X9_ballast := ⟨(gt5 (i := 203) rfl rfl), ini_9, rfl, ⟨by decide +kernel, by decide +kernel, by decide +kernel⟩, by decide, by decide +kernel, ⟨(gt5 (i := 201) rfl rfl), (gt5 (i := 202) rfl rfl)⟩⟩
theorem ok_X9_isTaken : mok m_X9_isTaken := ⟨(gt5 (i := 227) rfl rfl), ini_9, rfl, ⟨by decide +kernel, by decide +kernel, by decide +kernel⟩, by decide, by decide +kernel, ⟨(gt5 (i := 226) rfl rfl), (gp4 (i := 15) rfl)⟩⟩
theorem ok_X9_mayPut : mok m_X9_mayPut := ⟨(gt5 (i := 223) rfl rfl), ini_9, rfl, ⟨by decide +kernel, by decide +kernel, by decide +kernel⟩, by decide, by decide +kernel, ⟨(gt5 (i := 222) rfl rfl), (gp4 (i := 14) rfl)⟩⟩
theorem ok_X9_lastMove : mok m_X9_lastMove := ⟨(gt5 (i := 239) rfl rfl), ini_9, rfl, ⟨by decide +kernel, by decide +kernel, by decide +kernel⟩, by decide, by decide +kernel, ⟨(gt5 (i := 238) rfl rfl), (gp5 (i := 2) rfl)⟩⟩
theorem ok_X9_twoMoves : mok m_X9_twoMoves := ⟨(gt5 (i := 235) rfl rfl), ini_9, rfl, ⟨by decide +kernel, by decide +kernel, by decide +kernel⟩, by decide, by decide +kernel, ⟨(gt5 (i := 234) rfl rfl), (gp5 (i := 1) rfl)⟩⟩
theorem ok_X9_threeMoves : mok m_X9_threeMoves := ⟨(gt5 (i := 231) rfl rfl), ini_9, rfl, ⟨by decide +kernel, by decide +kernel, by decide +kernel⟩, by decide, by decide +kernel, ⟨(gt5 (i := 230) rfl rfl), (gp5 (i := 0) rfl)⟩⟩
theorem ok_X9_fourMoves : mok m_X9_fourMoves := ⟨(gt5 (i := 219) rfl rfl), ini_9, rfl, ⟨by decide +kernel, by decide +kernel, by decide +kernel⟩, by decide, by decide +kernel, ⟨(gt5 (i := 218) rfl rfl), (gp4 (i := 13) rfl)⟩⟩
theorem ok_X9_game : mok m_X9_game := ⟨(gt5 (i := 215) rfl rfl), ini_9, rfl, ⟨by decide +kernel, by decide +kernel, by decide +kernel⟩, by decide, by decide +kernel, ⟨(gt5 (i := 213) rfl rfl), (gt5 (i := 214) rfl rfl)⟩⟩
theorem ok_X9_strangers : mok m_X9_strangers := ⟨(gt6 (i := 3) rfl rfl), ini_9, rfl, ⟨by decide +kernel, by decide +kernel, by decide +kernel⟩, by decide, by decide +kernel, ⟨(gt6 (i := 1) rfl rfl), (gt6 (i := 2) rfl rfl)⟩⟩
theorem ok_X9_isStranger : mok m_X9_isStranger := ⟨(gt6 (i := 11) rfl rfl), ini_9, rfl, ⟨by decide +kernel, by decide +kernel, by decide +kernel⟩, by decide, by decide +kernel, ⟨(gt6 (i := 10) rfl rfl), (gp5 (i := 3) rfl)⟩⟩
theorem ok_X9_trial : mok m_X9_trial := ⟨(gt6 (i := 7) rfl rfl), ini_9, rfl, ⟨by decide +kernel, by decide +kernel, by decide +kernel⟩, by decide, by decide +kernel, ⟨(gt6 (i := 5) rfl rfl), (gt6 (i := 6) rfl rfl)⟩⟩
theorem ok_X9_weightIn : mok m_X9_weightIn := ⟨(gt6 (i := 33) rfl rfl), ini_9, rfl, ⟨by decide +kernel, by decide +kernel, by decide +kernel⟩, by decide, by decide +kernel, (gt6 (i := 32) rfl rfl)⟩
theorem ok_X9_weighs : mok m_X9_weighs := ⟨(gt6 (i := 30) rfl rfl), ini_9, rfl, ⟨by decide +kernel, by decide +kernel, by decide +kernel⟩, by decide, by decide +kernel, (gt6 (i := 29) rfl rfl)⟩
theorem ok_X9_allWays : mok m_X9_allWays := ⟨(gt6 (i := 23) rfl rfl), ini_9, rfl, ⟨by decide +kernel, by decide +kernel, by decide +kernel⟩, by decide, by decide +kernel, ⟨(gt6 (i := 22) rfl rfl), (gp5 (i := 5) rfl)⟩⟩
theorem ok_X9_fits : mok m_X9_fits := ⟨(gt6 (i := 27) rfl rfl), ini_9, rfl, ⟨by decide +kernel, by decide +kernel, by decide +kernel⟩, by decide, by decide +kernel, ⟨(gt6 (i := 26) rfl rfl), (gp5 (i := 6) rfl)⟩⟩
theorem ok_X9_couldBe : mok m_X9_couldBe := ⟨(gt6 (i := 19) rfl rfl), ini_9, rfl, ⟨by decide +kernel, by decide +kernel, by decide +kernel⟩, by decide, by decide +kernel, ⟨(gt6 (i := 18) rfl rfl), (gp5 (i := 4) rfl)⟩⟩
theorem ok_X9_could : mok m_X9_could := ⟨(gt6 (i := 15) rfl rfl), ini_9, rfl, ⟨by decide +kernel, by decide +kernel, by decide +kernel⟩, by decide, by decide +kernel, ⟨(gt6 (i := 13) rfl rfl), (gt6 (i := 14) rfl rfl)⟩⟩
theorem ok_X9_sure : mok m_X9_sure := ⟨(gt6 (i := 37) rfl rfl), ini_9, rfl, ⟨by decide +kernel, by decide +kernel, by decide +kernel⟩, by decide, by decide +kernel, ⟨(gt6 (i := 35) rfl rfl), (gt6 (i := 36) rfl rfl)⟩⟩
theorem ok_X9_next : mok m_X9_next := ⟨(gt6 (i := 41) rfl rfl), ini_9, rfl, ⟨by decide +kernel, by decide +kernel, by decide +kernel⟩, by decide, by decide +kernel, ⟨(gt6 (i := 39) rfl rfl), (gt6 (i := 40) rfl rfl)⟩⟩
theorem ok_X9_areAPair : mok m_X9_areAPair := ⟨(gt6 (i := 68) rfl rfl), ini_9, rfl, ⟨by decide +kernel, by decide +kernel, by decide +kernel⟩, by decide, by decide +kernel, ⟨(gt6 (i := 67) rfl rfl), (gp5 (i := 11) rfl)⟩⟩
theorem ok_X9_waits : mok m_X9_waits := ⟨(gt6 (i := 60) rfl rfl), ini_9, rfl, ⟨by decide +kernel, by decide +kernel, by decide +kernel⟩, by decide, by decide +kernel, ⟨(gt6 (i := 59) rfl rfl), (gp5 (i := 9) rfl)⟩⟩
theorem ok_X9_letsOff : mok m_X9_letsOff := ⟨(gt6 (i := 53) rfl rfl), ini_9, rfl, ⟨by decide +kernel, by decide +kernel, by decide +kernel⟩, by decide, by decide +kernel, ⟨(gt6 (i := 52) rfl rfl), (gp5 (i := 8) rfl)⟩⟩
theorem ok_X9_lesser : mok m_X9_lesser := ⟨(gt6 (i := 56) rfl rfl), ini_9, rfl, ⟨by decide +kernel, by decide +kernel, by decide +kernel⟩, by decide, by decide +kernel, (gt6 (i := 55) rfl rfl)⟩
theorem ok_X9_outOfRow : mok m_X9_outOfRow := ⟨(gt6 (i := 72) rfl rfl), ini_9, rfl, ⟨by decide +kernel, by decide +kernel, by decide +kernel⟩, by decide, by decide +kernel, ⟨(gt6 (i := 71) rfl rfl), (gp5 (i := 12) rfl)⟩⟩
theorem ok_X9_takesOn : mok m_X9_takesOn := ⟨(gt6 (i := 64) rfl rfl), ini_9, rfl, ⟨by decide +kernel, by decide +kernel, by decide +kernel⟩, by decide, by decide +kernel, ⟨(gt6 (i := 63) rfl rfl), (gp5 (i := 10) rfl)⟩⟩
theorem ok_X9_goesBy : mok m_X9_goesBy := ⟨(gt6 (i := 49) rfl rfl), ini_9, rfl, ⟨by decide +kernel, by decide +kernel, by decide +kernel⟩, by decide, by decide +kernel, ⟨(gt6 (i := 48) rfl rfl), (gp5 (i := 7) rfl)⟩⟩
theorem ok_X9_rides : mok m_X9_rides := ⟨(gt6 (i := 45) rfl rfl), ini_9, rfl, ⟨by decide +kernel, by decide +kernel, by decide +kernel⟩, by decide, by decide +kernel, ⟨(gt6 (i := 43) rfl rfl), (gt6 (i := 44) rfl rfl)⟩⟩
theorem ok_X9_forever : mok m_X9_forever := ⟨(gt6 (i := 76) rfl rfl), ini_9, rfl, ⟨by decide +kernel, by decide +kernel, by decide +kernel⟩, by decide, by decide +kernel, ⟨(gt6 (i := 74) rfl rfl), (gt6 (i := 75) rfl rfl)⟩⟩
theorem ok_X9_rate : mok m_X9_rate := ⟨(gt6 (i := 80) rfl rfl), ini_9, rfl, ⟨by decide +kernel, by decide +kernel, by decide +kernel⟩, by decide, by decide +kernel, ⟨(gt6 (i := 78) rfl rfl), (gt6 (i := 79) rfl rfl)⟩⟩
theorem ok_X9_sitting : mok m_X9_sitting := ⟨(gt6 (i := 93) rfl rfl), ini_9, rfl, ⟨by decide +kernel, by decide +kernel, by decide +kernel⟩, by decide, by decide +kernel, ⟨(gt6 (i := 92) rfl rfl), (gp5 (i := 13) rfl)⟩⟩
theorem ok_X9_keep : mok m_X9_keep := ⟨(gt6 (i := 89) rfl rfl), ini_9, rfl, ⟨by decide +kernel, by decide +kernel, by decide +kernel⟩, by decide, by decide +kernel, ⟨(gt6 (i := 87) rfl rfl), (gt6 (i := 88) rfl rfl)⟩⟩
theorem ok_X9_back : mok m_X9_back := ⟨(gt6 (i := 97) rfl rfl), ini_9, rfl, ⟨by decide +kernel, by decide +kernel, by decide +kernel⟩, by decide, by decide +kernel, ⟨(gt6 (i := 95) rfl rfl), (gt6 (i := 96) rfl rfl)⟩⟩
theorem ok_X9_count : mok m_X9_count := ⟨(gt6 (i := 101) rfl rfl), ini_9, rfl, ⟨by decide +kernel, by decide +kernel, by decide +kernel⟩, by decide, by decide +kernel, ⟨(gt6 (i := 99) rfl rfl), (gt6 (i := 100) rfl rfl)⟩⟩
theorem ok_X9_trace : mok m_X9_trace := ⟨(gt6 (i := 105) rfl rfl), ini_9, rfl, ⟨by decide +kernel, by decide +kernel, by decide +kernel⟩, by decide, by decide +kernel, ⟨(gt6 (i := 103) rfl rfl), (gt6 (i := 104) rfl rfl)⟩⟩
theorem ok_J6_bitCount_0f7a4 : mok m_J6_bitCount_0f7a4 := ⟨(gt3 (i := 10) rfl rfl), ini_10, rfl, ⟨by decide +kernel, by decide +kernel, by decide +kernel⟩, by decide, by decide +kernel, (gt3 (i := 9) rfl rfl)⟩
theorem ok_J6_signum_0f7a4 : mok m_J6_signum_0f7a4 := ⟨(gt3 (i := 54) rfl rfl), ini_10, rfl, ⟨by decide +kernel, by decide +kernel, by decide +kernel⟩, by decide, by decide +kernel, (gt3 (i := 53) rfl rfl)⟩
theorem ok_J0_length_8abf5 : mok m_J0_length_8abf5 := ⟨(gt2 (i := 130) rfl rfl), ini_13, rfl, ⟨by decide +kernel, by decide +kernel, by decide +kernel⟩, by decide, by decide +kernel, ⟨(gt2 (i := 128) rfl rfl), (gt2 (i := 129) rfl rfl)⟩⟩
theorem ok_J0_charAt_5068e : mok m_J0_charAt_5068e := ⟨(gt2 (i := 140) rfl rfl), ini_13, rfl, ⟨by decide +kernel, by decide +kernel, by decide +kernel⟩, by decide, by decide +kernel, ⟨(gt2 (i := 138) rfl rfl), (gt2 (i := 139) rfl rfl)⟩⟩
theorem ok_J0_coder_7d493 : mok m_J0_coder_7d493 := ⟨(gt2 (i := 134) rfl rfl), ini_13, rfl, ⟨by decide +kernel, by decide +kernel, by decide +kernel⟩, by decide, by decide +kernel, ⟨(gt2 (i := 132) rfl rfl), (gt2 (i := 133) rfl rfl)⟩⟩
theorem ok_J0_isLatin1_aae02 : mok m_J0_isLatin1_aae02 := ⟨(gt2 (i := 144) rfl rfl), ini_13, rfl, ⟨by decide +kernel, by decide +kernel, by decide +kernel⟩, by decide, by decide +kernel, ⟨(gt2 (i := 142) rfl rfl), (gt2 (i := 143) rfl rfl)⟩⟩
theorem ok_J0_checkIndex_df160 : mok m_J0_checkIndex_df160 := ⟨(gt2 (i := 150) rfl rfl), ini_13, rfl, ⟨by decide +kernel, by decide +kernel, by decide +kernel⟩, by decide, by decide +kernel, (gt2 (i := 149) rfl rfl)⟩
theorem ok_J1_charAt_3b067 : mok m_J1_charAt_3b067 := ⟨(gt2 (i := 147) rfl rfl), ini_14, rfl, ⟨by decide +kernel, by decide +kernel, by decide +kernel⟩, by decide, by decide +kernel, (gt2 (i := 146) rfl rfl)⟩
theorem ok_J7_fill_53178 : mok m_J7_fill_53178 := ⟨(gt4 (i := 23) rfl rfl), ini_12, rfl, ⟨by decide +kernel, by decide +kernel, by decide +kernel⟩, by decide, by decide +kernel, (gt4 (i := 22) rfl rfl)⟩
theorem ok_J3_checkIndex_8e157 : mok m_J3_checkIndex_8e157 := ⟨(gt2 (i := 155) rfl rfl), ini_15, rfl, ⟨by decide +kernel, by decide +kernel, by decide +kernel⟩, by decide, by decide +kernel, (gt2 (i := 154) rfl rfl)⟩
end
section
/-! the world as a table of places: a pure memory M (ints by place and slot, longs by place and slot), the shapes 'shp', addresses 'ad' -/
abbrev PM : Type := (Nat → Nat → Int32) × (Nat → Nat → Int64)
abbrev GG : Type := Launch × va_G × (Nat → ClassId) × (Nat → Nat)
def cv (ad : Nat → Nat) : Value → Value
  | .ref i => .ref (ad i)
  | v => v
def pfv (ad : Nat → Nat) (M : PM) (i k : Nat) (q : Nat × Nat) : Value := match q.1 with
  | 1 => .long (M.2 i k)
  | 2 => .ref (ad q.2)
  | _ => .int (M.1 i k)
def pid : Nat → Nat := fun x => x
theorem cv_pfv (ad : Nat → Nat) (M : PM) (i k : Nat) (q : Nat × Nat) : cv ad (pfv pid M i k q) = pfv ad M i k q := by
  obtain ⟨a, b⟩ := q
  match a with
  | 0 => rfl
  | 1 => rfl
  | 2 => rfl
  | n + 3 => rfl
def pce (ad : Nat → Nat) (cA : Nat → ClassId) (M : PM) (i : Nat) : Shp → va_E
  | .inl (t, n) => .inl (cA t, n, if t = 2 then .inr (.inl (M.2 i)) else .inl (M.1 i))
  | .inr (ci, ks) => .inr (ci, ks.zipIdx.map (fun p => pfv ad M i p.2 p.1))
def pws (ad : Nat → Nat) (cA : Nat → ClassId) (M : PM) : va_W := shp.zipIdx.map (fun p => (ad p.2, pce ad cA M p.2 p.1))
theorem shp_len : shp.length = 75 := by decide +kernel
theorem pws_get {ad : Nat → Nat} {cA : Nat → ClassId} {M : PM} {i : Nat} {sh : Shp} (h : shp[i]? = some sh) : (pws ad cA M)[i]? = some (ad i, pce ad cA M i sh) := by
  simp [pws, List.getElem?_map, List.getElem?_zipIdx, h]
theorem pws_some {ad : Nat → Nat} {cA : Nat → ClassId} {M : PM} {k : Nat} {q : Nat × va_E} (h : (pws ad cA M)[k]? = some q) : ∃ sh, shp[k]? = some sh ∧ q = (ad k, pce ad cA M k sh) := by
  cases hs : shp[k]? with
  | none => simp [pws, List.getElem?_map, List.getElem?_zipIdx, hs] at h
  | some sh => rw [pws_get hs] at h; exact ⟨sh, rfl, (Option.some.inj h).symm⟩
theorem pws_len {ad : Nat → Nat} {cA : Nat → ClassId} {M : PM} : (pws ad cA M).length = shp.length := by simp [pws]
theorem pce_congr {ad : Nat → Nat} {cA : Nat → ClassId} {M M' : PM} {i : Nat} (h1 : M'.1 i = M.1 i) (h2 : M'.2 i = M.2 i) (sh : Shp) : pce ad cA M' i sh = pce ad cA M i sh := by
  cases sh with
  | inl a => simp only [pce, h1, h2]
  | inr a => simp only [pce, pfv, h1, h2]
theorem pws_set {ad : Nat → Nat} {cA : Nat → ClassId} {M M' : PM} {i : Nat} {sh : Shp} (h : shp[i]? = some sh) (h1 : ∀ a, a ≠ i → M'.1 a = M.1 a ∧ M'.2 a = M.2 a) {e : va_E} (he : e = pce ad cA M' i sh) : (pws ad cA M).set i (ad i, e) = pws ad cA M' := by
  subst he
  apply List.ext_getElem?
  intro j
  rw [List.getElem?_set]
  by_cases hj : i = j
  · subst hj
    rw [if_pos rfl, pws_get h, pws_len, if_pos]
    exact (List.getElem?_eq_some_iff.mp h).1
  · rw [if_neg hj]
    cases hs : shp[j]? with
    | none =>
      have : shp.length ≤ j := List.getElem?_eq_none_iff.mp hs
      rw [List.getElem?_eq_none_iff.mpr (by rw [pws_len]; exact this), List.getElem?_eq_none_iff.mpr (by rw [pws_len]; exact this)]
    | some sj =>
      rw [pws_get hs, pws_get hs]
      have := h1 j (fun e => hj e.symm)
      rw [pce_congr this.1 this.2]
def AA (ad : Nat → Nat) : Nat → Prop := fun q => ∃ i, i < 75 ∧ q = ad i
def inj75 (ad : Nat → Nat) : Prop := ∀ i j, i < 75 → j < 75 → ad i = ad j → i = j
theorem shp_lt {i : Nat} {sh : Shp} (h : shp[i]? = some sh) : i < 75 := by
  have := (List.getElem?_eq_some_iff.mp h).1
  rw [shp_len] at this
  exact this
theorem pws_D {ad : Nat → Nat} {cA : Nat → ClassId} {M : PM} (hi : inj75 ad) : va_D (AA ad) (pws ad cA M) := by
  refine ⟨fun i j p q hp hq e => ?_, fun k q hk => ?_⟩
  · obtain ⟨s1, a1, rfl⟩ := pws_some hp
    obtain ⟨s2, a2, rfl⟩ := pws_some hq
    exact hi i j (shp_lt a1) (shp_lt a2) e
  · obtain ⟨s1, a1, rfl⟩ := pws_some hk
    exact ⟨k, shp_lt a1, rfl⟩
/-- a store of an int, of a long -/
def wI (M : PM) (i k : Nat) (v : Int32) : PM := (va_up M.1 i (upd (M.1 i) k v), M.2)
def wL (M : PM) (i k : Nat) (v : Int64) : PM := (M.1, va_up M.2 i (vp_updL (M.2 i) k v))
theorem wI_ne {M : PM} {i k : Nat} {v : Int32} : ∀ a, a ≠ i → (wI M i k v).1 a = M.1 a ∧ (wI M i k v).2 a = M.2 a := fun a h => ⟨by simp [wI, va_up, h], rfl⟩
theorem wL_ne {M : PM} {i k : Nat} {v : Int64} : ∀ a, a ≠ i → (wL M i k v).1 a = M.1 a ∧ (wL M i k v).2 a = M.2 a := fun a h => ⟨rfl, by simp [wL, va_up, h]⟩
/-- what stands still: static arrays, strings -/
def ctA : List Int32 := [-1, 0, 0, 1, 2, 0]
def ctM : List Int32 := [1, 10, 100, 1000, 10000, 100000]
def ctB : List (List Int32) := [[112, 108, 97, 110, 107], [99, 104, 105, 108, 100], [115, 116, 111, 110, 101]]
def SF (ad : Nat → Nat) (A : Nat → Prop) (s : State) (H : Heap) : Prop :=
  va_Z "SeesawPark" "KIND_ABOVE" "[I" (.ref (ad 200)) A s H ∧ va_T .int (ad 200) 6 (fun j => .int (ctA.getD j 0)) A s H ∧
  va_Z "SeesawPark" "KIND_MARK" "[I" (.ref (ad 201)) A s H ∧ va_T .int (ad 201) 6 (fun j => .int (ctM.getD j 0)) A s H ∧
  va_Z "java/lang/String" "COMPACT_STRINGS" "Z" (.int 1) A s H ∧
  (va_Z "jdk/internal/util/Preconditions" "SIOOBE_FORMATTER" "Ljava/util/function/BiFunction;" .null A s H ∨ va_Z "jdk/internal/util/Preconditions" "SIOOBE_FORMATTER" "Ljava/util/function/BiFunction;" (.ref (ad 230)) A s H) ∧
  vk_S 3 [5, 5, 5] ctB (fun i => ad (210 + i)) (fun i => ad (220 + i)) A s H
def y_seat : MethodName := ⟨"SeesawPark", "stepOfSeat", "(II)I"⟩
def VF (ad : Nat → Nat) (s : State) : Prop :=
  vk_R "SeesawPark$Told" 98 "plank" (ad 210) s ∧ vk_R "SeesawPark$Told" 104 "child" (ad 211) s ∧ vk_R "SeesawPark$Told" 106 "stone" (ad 212) s ∧
  va_Nw (.methodLinkNest "SeesawPark$Crowd" 27 y_seat "SeesawPark") s ∧ va_Nw (.methodLinkNest "SeesawPark$Contest" 45 y_seat "SeesawPark") s
def tysl (cA : Nat → ClassId) : List (ClassId × FieldType) := [(cA 0, .int), (cA 1, .boolean), (cA 2, .long)]
def WK (G : GG) (s : State) : Prop := va_K G.2.1 cls (tysl G.2.2.1) s ∧ inj75 G.2.2.2 ∧ SF G.2.2.2 (AA G.2.2.2) s s.heap ∧ VF G.2.2.2 s
theorem SF.moved {ad : Nat → Nat} {A : Nat → Prop} {u U : State} {H : Heap} (hvm : u.vm.Alike U.vm) (h : SF ad A u H) : SF ad A U H := by
  obtain ⟨h1, h2, h3, h4, h5, h6, h7⟩ := h
  exact ⟨h1.moved hvm, h2.moved hvm, h3.moved hvm, h4.moved hvm, h5.moved hvm, h6.imp (fun z => z.moved hvm) (fun z => z.moved hvm), h7.moved hvm⟩
theorem SF.kept {ad : Nat → Nat} {A : Nat → Prop} {U : State} {H H1 : Heap} (h : SF ad A U H) (hq : ∀ a : Nat, a < H.size → ¬ A a → H1[a]? = H[a]?) : SF ad A U H1 := by
  obtain ⟨h1, h2, h3, h4, h5, h6, h7⟩ := h
  exact ⟨h1.kept hq, h2.kept hq, h3.kept hq, h4.kept hq, h5.kept hq, h6.imp (fun z => z.kept hq) (fun z => z.kept hq), h7.kept hq⟩
theorem WK.move {G : GG} {s U : State} (h : WK G s) (hW : s.WarmedH U.vm) (hq : ∀ a : Nat, a < s.heap.size → ¬ AA G.2.2.2 a → U.heap[a]? = s.heap[a]?) : WK G U := by
  obtain ⟨h1, h2, h3, h4, h5, h6, h7, h8⟩ := h
  exact ⟨va_K.moved hW.alike h1, h2, (h3.kept hq).moved hW.alike, h4.warm hW, h5.warm hW, h6.warm hW, h7.warmM hW, h8.warmM hW⟩
theorem WK.blind {G : GG} {U : State} {g : JFrame} {mk : MethodId} {a : Array Value} (h : WK G U) : WK G (U.calling g mk a) := by
  obtain ⟨h1, h2, h3, h4, h5, h6, h7, h8⟩ := h
  exact ⟨va_K.moved (u := U) (U := U.calling g mk a) (Vm.Alike.refl U.vm) h1, h2, SF.moved (u := U) (U := U.calling g mk a) (Vm.Alike.refl U.vm) h3, h4.same rfl, h5.same rfl, h6.same rfl, va_Nw.same rfl (u := U) rfl h7, va_Nw.same rfl (u := U) rfl h8⟩
/-! contracts over the table's world -/
def rmd (d : Nat) : Room := { frames := d, cells := 0, slots := 0, locals := 64 * d }
def Qp (G : GG) (Post : Option Value → PM → Prop) : Array Value → State → Outcome → State → Prop := fun _ st o t =>
  (∃ (r : Option Value) (M : PM), o = .returned (r.map (cv G.2.2.2)) ∧ Post r M ∧ va_P G.2.1 cls (pws G.2.2.2 G.2.2.1 M) t.heap) ∧ va_F (AA G.2.2.2) st t
def PC (G : GG) (d : Nat) (μ : Mth) (args : List Value) (M : PM) (Post : Option Value → PM → Prop) : Prop :=
  mok μ ∧ Met G.1 μ.2.1 (mcode μ :: gw) (rmd d) (va_Pc (args.map (cv G.2.2.2)) (fun U => WK G U ∧ va_P G.2.1 cls (pws G.2.2.2 G.2.2.1 M) U.heap)) (Qp G Post) 0 0 (AA G.2.2.2)
/-- locals: what is known of each place -/
def lg : List (Option Value) → Nat → Option Value
  | [], _ => none
  | o :: _, 0 => o
  | _ :: r, k + 1 => lg r k
def lvH (ad : Nat → Nat) (ls : Array Slot) (n : Nat) (L : List (Option Value)) : Prop := ls.size = n ∧ lv_wf ls ∧ ∀ i v, lg L i = some v → ls[i]? = some (.val (cv ad v))
def wide : Option Value → Option Value
  | some (.long _) => none
  | some (.double _) => none
  | o => o
def stL : List (Option Value) → Nat → Value → List (Option Value)
  | [], _, _ => []
  | _ :: r, 0, v => some v :: r
  | o :: r, 1, v => wide o :: stL r 0 v
  | o :: r, i + 2, v => o :: stL r (i + 1) v
def noL : List (Option Value) → Nat → List (Option Value)
  | [], _ => []
  | _ :: r, 0 => none :: r
  | o :: r, i + 1 => o :: noL r i
theorem wide_some {o : Option Value} {v : Value} (h : wide o = some v) : o = some v ∧ v.category = 1 := by
  match o with
  | none => cases h
  | some (.long _) => cases h
  | some (.double _) => cases h
  | some (.int _) => cases h; exact ⟨rfl, rfl⟩
  | some (.float _) => cases h; exact ⟨rfl, rfl⟩
  | some .null => cases h; exact ⟨rfl, rfl⟩
  | some (.ref _) => cases h; exact ⟨rfl, rfl⟩
  | some (.retAddr _) => cases h; exact ⟨rfl, rfl⟩
theorem lg_stL : ∀ {L : List (Option Value)} {i j : Nat} {v w : Value}, lg (stL L i v) j = some w → (j = i ∧ w = v) ∨ (j ≠ i ∧ lg L j = some w ∧ (j + 1 = i → w.category = 1))
  | [], i, j, v, w, h => by simp [stL, lg] at h
  | o :: r, 0, 0, v, w, h => Or.inl ⟨rfl, (Option.some.inj h).symm⟩
  | o :: r, 0, j + 1, v, w, h => Or.inr ⟨by omega, h, by omega⟩
  | o :: r, 1, 0, v, w, h => Or.inr ⟨by omega, (wide_some h).1, fun _ => (wide_some h).2⟩
  | o :: r, 1, j + 1, v, w, h => by
    have h : lg (stL r 0 v) j = some w := h
    rcases lg_stL h with ⟨a, b⟩ | ⟨a, b, c⟩
    · exact Or.inl ⟨by omega, b⟩
    · exact Or.inr ⟨by omega, b, by omega⟩
  | o :: r, i + 2, 0, v, w, h => Or.inr ⟨by omega, h, by omega⟩
  | o :: r, i + 2, j + 1, v, w, h => by
    have h : lg (stL r (i + 1) v) j = some w := h
    rcases lg_stL h with ⟨a, b⟩ | ⟨a, b, c⟩
    · exact Or.inl ⟨by omega, b⟩
    · exact Or.inr ⟨by omega, b, fun e => c (by omega)⟩
theorem lg_noL : ∀ {L : List (Option Value)} {i j : Nat} {w : Value}, lg (noL L i) j = some w → j ≠ i ∧ lg L j = some w
  | [], i, j, w, h => by simp [noL, lg] at h
  | o :: r, 0, 0, w, h => by cases h
  | o :: r, 0, j + 1, w, h => ⟨by omega, h⟩
  | o :: r, i + 1, 0, w, h => ⟨by omega, h⟩
  | o :: r, i + 1, j + 1, w, h => by
    have h : lg (noL r i) j = some w := h
    obtain ⟨a, b⟩ := lg_noL h
    exact ⟨by omega, b⟩
/-- all that is known, as the kit's list -/
def cvl (ad : Nat → Nat) (L : List (Option Value)) : List (Nat × Value) := (List.range L.length).filterMap (fun i => (lg L i).map (fun v => (i, cv ad v)))
theorem lg_lt : ∀ {L : List (Option Value)} {i : Nat} {v : Value}, lg L i = some v → i < L.length
  | [], _, _, h => by cases h
  | _ :: _, 0, _, _ => by simp
  | _ :: r, i + 1, v, h => by
    have : i < r.length := lg_lt (show lg r i = some v from h)
    simp; omega
theorem cvl_mem {ad : Nat → Nat} {L : List (Option Value)} {i : Nat} {v : Value} (h : lg L i = some v) : (i, cv ad v) ∈ cvl ad L :=
  List.mem_filterMap.mpr ⟨i, List.mem_range.mpr (lg_lt h), by rw [h]; rfl⟩
theorem lvH.has {ad : Nat → Nat} {ls : Array Slot} {n : Nat} {L : List (Option Value)} (h : lvH ad ls n L) : lv_has ls n (cvl ad L) := by
  refine ⟨h.1, h.2.1, fun q hq => ?_⟩
  obtain ⟨i, -, hi⟩ := List.mem_filterMap.mp hq
  cases hv : lg L i with
  | none => rw [hv] at hi; cases hi
  | some v => rw [hv] at hi; cases hi; exact h.2.2 i v hv
theorem cv_cat (ad : Nat → Nat) (v : Value) : (cv ad v).category = v.category := by cases v <;> rfl
theorem lvH.st1 {ad : Nat → Nat} {ls' : Array Slot} {n i : Nat} {L : List (Option Value)} {v : Value} (h : lv_has ls' n ((i, cv ad v) :: (cvl ad L).filter (fun q => !(q.1 == i) && !(q.1 + 1 == i && q.2.category == 2)))) : lvH ad ls' n (stL L i v) := by
  refine ⟨h.1, h.2.1, fun j w hj => ?_⟩
  rcases lg_stL hj with ⟨rfl, rfl⟩ | ⟨a, b, c⟩
  · exact h.2.2 _ List.mem_cons_self
  · refine h.2.2 (j, cv ad w) (List.mem_cons_of_mem _ (List.mem_filter.mpr ⟨cvl_mem b, ?_⟩))
    simp only [Bool.and_eq_true, Bool.not_eq_true', beq_eq_false_iff_ne, ne_eq, Bool.and_eq_false_iff]
    refine ⟨a, ?_⟩
    by_cases e : j + 1 = i
    · right; rw [cv_cat, c e]; decide
    · left; exact e
theorem lvH.st2 {ad : Nat → Nat} {ls' : Array Slot} {n i : Nat} {L : List (Option Value)} {v : Value} (h : lv_has ls' n ((i, cv ad v) :: (cvl ad L).filter (fun q => !(q.1 == i) && (!(q.1 == i + 1) && !(q.1 + 1 == i && q.2.category == 2))))) : lvH ad ls' n (stL (noL L (i + 1)) i v) := by
  refine ⟨h.1, h.2.1, fun j w hj => ?_⟩
  rcases lg_stL hj with ⟨rfl, rfl⟩ | ⟨a, b, c⟩
  · exact h.2.2 _ List.mem_cons_self
  · obtain ⟨a2, b2⟩ := lg_noL b
    refine h.2.2 (j, cv ad w) (List.mem_cons_of_mem _ (List.mem_filter.mpr ⟨cvl_mem b2, ?_⟩))
    simp only [Bool.and_eq_true, Bool.not_eq_true', beq_eq_false_iff_ne, ne_eq, Bool.and_eq_false_iff]
    refine ⟨a, a2, ?_⟩
    by_cases e : j + 1 = i
    · right; rw [cv_cat, c e]; decide
    · left; exact e
def PX (G : GG) (d : Nat) (μ : Mth) (Post : Option Value → PM → Prop) (pc : Nat) (L : List (Option Value)) (st : List Value) (M : PM) : Prop :=
  ∀ (p : Program) (e : Env) (s : State) (m : MethodId) (args : Array Value) (below : List Frame) (meth : Method) (c : Code) (H : Heap) (locs : List Loc) (ls : Array Slot),
    p.tables.exec = Jvm.exec → c.code = μ.2.2.1 → c.maxLocals = μ.2.2.2.1 → meth.sig.returnType = μ.2.2.2.2.1 → meth.locks = false → s.vm.findClass (nmo μ.1) = some m.cls → (∀ w ∈ gw, w.before args s = true) → WK G s → va_P G.2.1 cls (pws G.2.2.2 G.2.2.1 M) H → va_S (AA G.2.2.2) s.heap H locs → lvH G.2.2.2 ls μ.2.2.2.1 L →
    W p G.1 e (rmd (d + 1)) s m args below meth c H locs 0 0 (MQ below (Qp G Post) args s 0 0 (AA G.2.2.2)) (F0 m pc ls (st.map (cv G.2.2.2)))
/-! from the body to the contract -/
def entL : List Value → List (Option Value)
  | [] => []
  | .long x :: r => some (.long x) :: none :: entL r
  | .double x :: r => some (.double x) :: none :: entL r
  | v :: r => some v :: entL r
theorem entL_len (ad : Nat → Nat) : ∀ vs : List Value, (lg_sl (vs.map (cv ad))).length = (entL vs).length
  | [] => rfl
  | v :: r => by
    have ih := entL_len ad r
    cases v <;> simp [lg_sl, entL, cv, Value.category] at ih ⊢ <;> omega
theorem lg_pad : ∀ {L : List (Option Value)} {n i : Nat} {v : Value}, lg (L ++ List.replicate n none) i = some v → lg L i = some v
  | [], 0, i, v, h => h
  | [], n + 1, 0, v, h => by cases h
  | [], n + 1, i + 1, v, h => by
    have h : lg ([] ++ List.replicate n none) i = some v := h
    exact absurd (lg_pad h) (by simp [lg])
  | o :: r, n, 0, v, h => h
  | o :: r, n, i + 1, v, h => lg_pad (L := r) (n := n) (i := i) (v := v) h
theorem entL_args (ad : Nat → Nat) : ∀ (vs : List Value) (k i : Nat) (v : Value), lg (entL vs) i = some v → (k + i, cv ad v) ∈ lv_args k (vs.map (cv ad))
  | [], k, i, v, h => by cases h
  | .long x :: r, k, 0, v, h => by cases h; exact List.mem_cons_self
  | .long x :: r, k, 1, v, h => by cases h
  | .long x :: r, k, i + 2, v, h => by
    have := entL_args ad r (k + 2) i v h
    rw [show k + (i + 2) = k + 2 + i by omega]
    exact List.mem_cons_of_mem _ this
  | .double x :: r, k, 0, v, h => by cases h; exact List.mem_cons_self
  | .double x :: r, k, 1, v, h => by cases h
  | .double x :: r, k, i + 2, v, h => by
    have := entL_args ad r (k + 2) i v h
    rw [show k + (i + 2) = k + 2 + i by omega]
    exact List.mem_cons_of_mem _ this
  | .int x :: r, k, 0, v, h => by cases h; exact List.mem_cons_self
  | .int x :: r, k, i + 1, v, h => by
    have := entL_args ad r (k + 1) i v h
    rw [show k + (i + 1) = k + 1 + i by omega]
    exact List.mem_cons_of_mem _ this
  | .float x :: r, k, 0, v, h => by cases h; exact List.mem_cons_self
  | .float x :: r, k, i + 1, v, h => by
    have := entL_args ad r (k + 1) i v h
    rw [show k + (i + 1) = k + 1 + i by omega]
    exact List.mem_cons_of_mem _ this
  | .null :: r, k, 0, v, h => by cases h; exact List.mem_cons_self
  | .null :: r, k, i + 1, v, h => by
    have := entL_args ad r (k + 1) i v h
    rw [show k + (i + 1) = k + 1 + i by omega]
    exact List.mem_cons_of_mem _ this
  | .ref x :: r, k, 0, v, h => by cases h; exact List.mem_cons_self
  | .ref x :: r, k, i + 1, v, h => by
    have := entL_args ad r (k + 1) i v h
    rw [show k + (i + 1) = k + 1 + i by omega]
    exact List.mem_cons_of_mem _ this
  | .retAddr x :: r, k, 0, v, h => by cases h; exact List.mem_cons_self
  | .retAddr x :: r, k, i + 1, v, h => by
    have := entL_args ad r (k + 1) i v h
    rw [show k + (i + 1) = k + 1 + i by omega]
    exact List.mem_cons_of_mem _ this
theorem PC.of {G : GG} {d : Nat} {μ : Mth} {av : List Value} {M : PM} {Post : Option Value → PM → Prop} (hm : mok μ) (hlen : (entL av).length ≤ μ.2.2.2.1) (h : PX G d μ Post 0 (entL av ++ List.replicate (μ.2.2.2.1 - (entL av).length) none) [] M) : PC G (d + 1) μ av M Post := by
  refine ⟨hm, Met.ofW (cc := μ.2.2.1) (maxL := μ.2.2.2.1) (ret := μ.2.2.2.2.1) (ws' := gw) hm.2.2.2.2.2.1 rfl ?_⟩
  intro p e s m args below meth c s₁ B hml hv
  obtain ⟨rfl, hWK, hP⟩ := hv
  have hts := atoms_spec (ws := mcode μ :: gw) B.pre
  have hl := lv_entry (av.map (cv G.2.2.2)) (n := μ.2.2.2.1) (by rw [entL_len]; exact hlen)
  rw [lg_entry_eq]
  refine h p e s m _ below meth c s.heap [] _ B.exec B.bytes hml B.returns B.notSynchronized ?_ (fun w hw => hts w (List.mem_cons_of_mem _ hw)) hWK hP va_S.rf ⟨hl.1, hl.2.1, fun i v hv => ?_⟩
  · rw [hm.2.2.1]; exact findClass_of_methodNamed B.named
  · have h1 := entL_args G.2.2.2 av 0 i v (lg_pad hv)
    rw [Nat.zero_add] at h1
    exact hl.2.2 _ h1
end
section
/-! one step, as a weakest precondition; its soundness -/
abbrev KK : Type := Nat → List (Option Value) → List Value → PM → Prop
def gd (b : Bool) (P : Prop) : Prop := match b with
  | true => P
  | false => False
theorem gd_inv {b : Bool} {P : Prop} (h : gd b P) : b = true ∧ P := by
  cases b with
  | true => exact ⟨rfl, h⟩
  | false => exact h.elim
def p1 (st : List Value) (f : Int32 → List Value → Prop) : Prop := match st with
  | .int a :: r => f a r
  | _ => False
def p2 (st : List Value) (f : Int32 → Int32 → List Value → Prop) : Prop := match st with
  | .int b :: .int a :: r => f a b r
  | _ => False
def q1 (st : List Value) (f : Int64 → List Value → Prop) : Prop := match st with
  | .long a :: r => f a r
  | _ => False
def q2 (st : List Value) (f : Int64 → Int64 → List Value → Prop) : Prop := match st with
  | .long b :: .long a :: r => f a b r
  | _ => False
def qi (st : List Value) (f : Int64 → Int32 → List Value → Prop) : Prop := match st with
  | .int b :: .long a :: r => f a b r
  | _ => False
def r1 (st : List Value) (f : Nat → List Value → Prop) : Prop := match st with
  | .ref a :: r => f a r
  | _ => False
def gI (o : Option Value) (f : Int32 → Prop) : Prop := match o with
  | some (.int x) => f x
  | _ => False
def gL (o : Option Value) (f : Int64 → Prop) : Prop := match o with
  | some (.long x) => f x
  | _ => False
def gR (o : Option Value) (f : Nat → Prop) : Prop := match o with
  | some (.ref x) => f x
  | _ => False
theorem p1_inv {st : List Value} {f : Int32 → List Value → Prop} (h : p1 st f) : ∃ a r, st = .int a :: r ∧ f a r := by
  unfold p1 at h; split at h
  · exact ⟨_, _, rfl, h⟩
  · exact h.elim
theorem p2_inv {st : List Value} {f : Int32 → Int32 → List Value → Prop} (h : p2 st f) : ∃ a b r, st = .int b :: .int a :: r ∧ f a b r := by
  unfold p2 at h; split at h
  · exact ⟨_, _, _, rfl, h⟩
  · exact h.elim
theorem q1_inv {st : List Value} {f : Int64 → List Value → Prop} (h : q1 st f) : ∃ a r, st = .long a :: r ∧ f a r := by
  unfold q1 at h; split at h
  · exact ⟨_, _, rfl, h⟩
  · exact h.elim
theorem q2_inv {st : List Value} {f : Int64 → Int64 → List Value → Prop} (h : q2 st f) : ∃ a b r, st = .long b :: .long a :: r ∧ f a b r := by
  unfold q2 at h; split at h
  · exact ⟨_, _, _, rfl, h⟩
  · exact h.elim
theorem qi_inv {st : List Value} {f : Int64 → Int32 → List Value → Prop} (h : qi st f) : ∃ a b r, st = .int b :: .long a :: r ∧ f a b r := by
  unfold qi at h; split at h
  · exact ⟨_, _, _, rfl, h⟩
  · exact h.elim
theorem r1_inv {st : List Value} {f : Nat → List Value → Prop} (h : r1 st f) : ∃ (a : Nat) (r : List Value), st = .ref a :: r ∧ f a r := by
  unfold r1 at h; split at h
  · exact ⟨_, _, rfl, h⟩
  · exact h.elim
theorem gI_inv {x : Option Value} {f : Int32 → Prop} (h : gI x f) : ∃ a, x = some (.int a) ∧ f a := by
  unfold gI at h; split at h
  · exact ⟨_, rfl, h⟩
  · exact h.elim
theorem gL_inv {x : Option Value} {f : Int64 → Prop} (h : gL x f) : ∃ a, x = some (.long a) ∧ f a := by
  unfold gL at h; split at h
  · exact ⟨_, rfl, h⟩
  · exact h.elim
theorem gR_inv {x : Option Value} {f : Nat → Prop} (h : gR x f) : ∃ a : Nat, x = some (.ref a) ∧ f a := by
  unfold gR at h; split at h
  · exact ⟨_, rfl, h⟩
  · exact h.elim
def ac5 (st : List Value) (f : Nat → Nat → Int32 → Int32 → Int32 → List Value → Prop) : Prop := match st with
  | .int n :: .int dp :: .ref b :: .int sp :: .ref a :: r => f a b sp dp n r
  | _ => False
theorem ac5_inv {st : List Value} {f : Nat → Nat → Int32 → Int32 → Int32 → List Value → Prop} (h : ac5 st f) : ∃ (a b : Nat) (sp dp n : Int32) (r : List Value), st = .int n :: .int dp :: .ref b :: .int sp :: .ref a :: r ∧ f a b sp dp n r := by
  unfold ac5 at h; split at h
  · exact ⟨_, _, _, _, _, _, rfl, h⟩
  · exact h.elim
def ar2 (a b : Nat) (f : Nat → Nat → Prop) : Prop := match shp[a]?, shp[b]? with
  | some (.inl (t, n0)), some (.inl (t2, n1)) => gd (Nat.beq t 0 && Nat.beq t2 0) (f n0 n1)
  | _, _ => False
theorem ar2_inv {a b : Nat} {f : Nat → Nat → Prop} (h : ar2 a b f) : ∃ n0 n1, shp[a]? = some (.inl (0, n0)) ∧ shp[b]? = some (.inl (0, n1)) ∧ f n0 n1 := by
  unfold ar2 at h; split at h
  · rename_i t n0 t2 n1 h1 h2
    obtain ⟨h3, h4⟩ := gd_inv h
    rw [Bool.and_eq_true] at h3
    have z1 := Nat.eq_of_beq_eq_true h3.1
    have z2 := Nat.eq_of_beq_eq_true h3.2
    subst z1; subst z2
    exact ⟨_, _, h1, h2, h4⟩
  · exact h.elim
def cpI (M : PM) (b a sp dp n : Nat) : PM := (va_up M.1 b (va_cpy (M.1 a) (M.1 b) sp dp n), M.2)
def br (c A B : Prop) : Prop := (c → A) ∧ (¬ c → B)
def bz (c : ClassFile.Cond) (a : Int32) (A B : Prop) : Prop := match c with
  | .eq => br (a = 0) A B
  | .ne => br (a = 0) B A
  | .lt => br (a < 0) A B
  | .ge => br (0 ≤ a) A B
  | .gt => br (0 < a) A B
  | .le => br (a ≤ 0) A B
def bc (c : ClassFile.Cond) (a b : Int32) (A B : Prop) : Prop := match c with
  | .eq => br (a = b) A B
  | .ne => br (a = b) B A
  | .lt => br (a < b) A B
  | .ge => br (b ≤ a) A B
  | .gt => br (b < a) A B
  | .le => br (a ≤ b) A B
/-- a field by the constant pool's entry, at a place: its class, its slot, its kind -/
def fld (own idx a : Nat) : Option (Nat × Nat × Nat × Nat) := match lkp (fll.getD own []) idx with
  | none => none
  | some q => match shp[a]? with
    | some (.inr (ci, ks)) => bif Nat.beq ci q.1 then (match ks[q.2]? with | some kd => some (ci, q.2, kd.1, kd.2) | none => none) else none
    | _ => none
theorem fld_inv {own idx a ci k kd rp : Nat} (h : fld own idx a = some (ci, k, kd, rp)) : ∃ ks, flok own (idx, ci, k) ∧ shp[a]? = some (.inr (ci, ks)) ∧ ks[k]? = some (kd, rp) := by
  unfold fld at h
  cases hl : lkp (fll.getD own []) idx with
  | none => rw [hl] at h; cases h
  | some q =>
    rw [hl] at h
    cases hs : shp[a]? with
    | none => rw [hs] at h; cases h
    | some sh =>
      rw [hs] at h
      cases sh with
      | inl z => cases h
      | inr z =>
        obtain ⟨c0, ks⟩ := z
        dsimp only at h
        cases hb : Nat.beq c0 q.1 with
        | false => rw [hb] at h; cases h
        | true =>
          rw [hb] at h
          cases hk : ks[q.2]? with
          | none => simp only [hk, cond_true] at h; cases h
          | some kd0 =>
            simp only [hk, cond_true] at h
            have hc : c0 = q.1 := Nat.eq_of_beq_eq_true hb
            obtain ⟨q1, q2⟩ := q
            obtain ⟨k1, k2⟩ := kd0
            simp only [Option.some.injEq, Prod.mk.injEq] at h
            obtain ⟨e1, e2, e3, e4⟩ := h
            subst e1; subst e2; subst e3; subst e4
            dsimp only at hc hk
            subst hc
            refine ⟨ks, ?_, rfl, hk⟩
            have hm := lkp_mem hl
            cases ho : fll[own]? with
            | none => rw [List.getD_eq_getElem?_getD, ho] at hm; cases hm
            | some row => rw [List.getD_eq_getElem?_getD, ho] at hm; exact fll_ok own row ho _ hm
/-- the fields of the constant Strings -/
def sfl (own idx a : Nat) : Option Value := bif Nat.beq own 13 && Nat.ble 210 a && Nat.ble a 212 then (bif Nat.beq idx 9 then some (.ref (a + 10)) else bif Nat.beq idx 15 then some (.int 0) else none) else none
/-- constant arrays of ints -/
def cti (a : Nat) : Option (List Int32) := bif Nat.beq a 200 then some ctA else bif Nat.beq a 201 then some ctM else none
/-- an answer fits its type -/
def ret1 (ret : Option FieldType) (v : Int32) (P : Prop) : Prop := match ret with
  | some .int => P
  | some .boolean => (v = 0 ∨ v = 1) ∧ P
  | some ty => narrow ty (.int v) = .int v ∧ P
  | none => False
def csum (st : List Value) : Nat := (st.map fun v => v.category).sum
def swt (K : Nat → Prop) (a : Int32) (lo hi : Int) (dt : Nat) : Int → List Nat → Prop
  | _, [] => (a.toInt < lo ∨ hi < a.toInt) → K dt
  | n, t :: ts => (a = Int32.ofInt n → K t) ∧ swt K a lo hi dt (n + 1) ts
def recv (a ci : Nat) : Bool := match shp[a]? with
  | some (.inr (c0, _)) => Nat.beq c0 ci
  | _ => Nat.beq ci 13 && Nat.ble 210 a && Nat.ble a 212
def gst (own idx : Nat) : Option (List Value) :=
  bif Nat.beq own 8 then (bif Nat.beq idx 322 then some [.ref 201] else bif Nat.beq idx 325 then some [.ref 200] else none)
  else bif Nat.beq own 13 then (bif Nat.beq idx 38 then some [.int 1] else bif Nat.beq idx 1053 then some [.null, .ref 230] else none) else none
def allv (f : Value → Prop) : List Value → Prop
  | [] => True
  | [v] => f v
  | v :: r => f v ∧ allv f r
def gN (v : Option Value) (P : Prop) : Prop := match v with
  | none => P
  | some _ => False
theorem gN_inv {v : Option Value} {P : Prop} (h : gN v P) : v = none ∧ P := by
  cases v with
  | none => exact ⟨rfl, h⟩
  | some _ => exact h.elim
def rk (ret : Option FieldType) (K : KK) (pc : Nat) (L : List (Option Value)) (r : List Value) : Option Value → PM → Prop := match ret with
  | none => fun v M2 => gN v (K pc L r M2)
  | some .long => fun v M2 => gL v (fun x => K pc L (.long x :: r) M2)
  | some (.object _) => fun v M2 => gR v (fun x => K pc L (.ref x :: r) M2)
  | some _ => fun v M2 => gI v (fun x => K pc L (.int x :: r) M2)
theorem rk_inv {ret : Option FieldType} {K : KK} {pc : Nat} {L : List (Option Value)} {r : List Value} {v : Option Value} {M2 : PM} (h : rk ret K pc L r v M2) : K pc L (v.toList ++ r) M2 := by
  unfold rk at h
  split at h
  · obtain ⟨rfl, h1⟩ := gN_inv h; exact h1
  · obtain ⟨x, rfl, h1⟩ := gL_inv h; exact h1
  · obtain ⟨x, rfl, h1⟩ := gR_inv h; exact h1
  · obtain ⟨x, rfl, h1⟩ := gI_inv h; exact h1
def callee (own idx : Nat) : Option (Mth × Nat) := lkp (cll.getD own []) idx
theorem callee_ok {own idx : Nat} {q : Mth × Nat} (h : callee own idx = some q) : clok own (idx, q) := by
  have hm := lkp_mem h
  cases ho : cll[own]? with
  | none => rw [List.getD_eq_getElem?_getD, ho] at hm; cases hm
  | some row => rw [List.getD_eq_getElem?_getD, ho] at hm; exact cll_ok own row ho _ hm
def kci (own idx : Nat) : Option Int32 := lkp (kil.getD own []) idx
def kcl (own idx : Nat) : Option Int64 := lkp (kll.getD own []) idx
theorem kci_ok {own idx : Nat} {q : Int32} (h : kci own idx = some q) : Cond.constant (nmo own) idx q ∈ gw := by
  have hm := lkp_mem h
  cases ho : kil[own]? with
  | none => rw [List.getD_eq_getElem?_getD, ho] at hm; cases hm
  | some row => rw [List.getD_eq_getElem?_getD, ho] at hm; exact kil_ok own row ho _ hm
theorem kcl_ok {own idx : Nat} {q : Int64} (h : kcl own idx = some q) : Cond.constantLong (nmo own) idx q ∈ gw := by
  have hm := lkp_mem h
  cases ho : kll[own]? with
  | none => rw [List.getD_eq_getElem?_getD, ho] at hm; cases hm
  | some row => rw [List.getD_eq_getElem?_getD, ho] at hm; exact kll_ok own row ho _ hm

def dp1 (st : List Value) (f : Value → List Value → Prop) : Prop := match st with
  | v :: r => gd (Nat.beq v.category 1) (f v r)
  | _ => False
theorem dp1_inv {st : List Value} {f : Value → List Value → Prop} (h : dp1 st f) : ∃ v r, st = v :: r ∧ v.category = 1 ∧ f v r := by
  unfold dp1 at h; split at h
  · obtain ⟨h1, h2⟩ := gd_inv h; exact ⟨_, _, rfl, Nat.eq_of_beq_eq_true h1, h2⟩
  · exact h.elim
def dp2 (st : List Value) (f : Value → Value → List Value → Prop) : Prop := match st with
  | v :: w :: r => gd (Nat.beq v.category 1) (gd (Nat.beq w.category 1) (f v w r))
  | _ => False
theorem dp2_inv {st : List Value} {f : Value → Value → List Value → Prop} (h : dp2 st f) : ∃ v w r, st = v :: w :: r ∧ v.category = 1 ∧ w.category = 1 ∧ f v w r := by
  unfold dp2 at h; split at h
  · obtain ⟨h1, h2⟩ := gd_inv h; obtain ⟨h2, h3⟩ := gd_inv h2; exact ⟨_, _, _, rfl, Nat.eq_of_beq_eq_true h1, Nat.eq_of_beq_eq_true h2, h3⟩
  · exact h.elim

def st1 (G : GG) (d : Nat) (μ : Mth) (Post : Option Value → PM → Prop) (i : Instr) (tg : List Nat) (kv : Int32) (pc : Nat) (L : List (Option Value)) (st : List Value) (M : PM) (K : KK) : Prop := match i with
  | .iconst _ => K (pc + 1) L (.int kv :: st) M
  | .bipush _ => K (pc + 2) L (.int kv :: st) M
  | .sipush _ => K (pc + 3) L (.int kv :: st) M
  | .lconst k => K (pc + 1) L (.long (Int64.ofNat (k : Nat)) :: st) M
  | .iload k => gI (lg L k) (fun x => K (pc + 2) L (.int x :: st) M)
  | .iload_n k => gI (lg L (k : Nat)) (fun x => K (pc + 1) L (.int x :: st) M)
  | .lload k => gL (lg L k) (fun x => K (pc + 2) L (.long x :: st) M)
  | .lload_n k => gL (lg L (k : Nat)) (fun x => K (pc + 1) L (.long x :: st) M)
  | .aload_n k => gR (lg L (k : Nat)) (fun x => K (pc + 1) L (.ref x :: st) M)
  | .istore k => p1 st (fun x r => gd (Nat.blt k μ.2.2.2.1) (K (pc + 2) (stL L k (.int x)) r M))
  | .istore_n k => p1 st (fun x r => gd (Nat.blt (k : Nat) μ.2.2.2.1) (K (pc + 1) (stL L (k : Nat) (.int x)) r M))
  | .astore_n k => r1 st (fun x r => gd (Nat.blt (k : Nat) μ.2.2.2.1) (K (pc + 1) (stL L (k : Nat) (.ref x)) r M))
  | .lstore k => q1 st (fun x r => gd (Nat.blt (k + 1) μ.2.2.2.1) (K (pc + 2) (stL (noL L (k + 1)) k (.long x)) r M))
  | .lstore_n k => q1 st (fun x r => gd (Nat.blt ((k : Nat) + 1) μ.2.2.2.1) (K (pc + 1) (stL (noL L ((k : Nat) + 1)) (k : Nat) (.long x)) r M))
  | .iinc k _ => gI (lg L k) (fun x => gd (Nat.blt k μ.2.2.2.1) (K (pc + 3) (stL L k (.int (x + kv))) st M))
  | .iadd => p2 st (fun a b r => K (pc + 1) L (.int (a + b) :: r) M)
  | .isub => p2 st (fun a b r => K (pc + 1) L (.int (a - b) :: r) M)
  | .imul => p2 st (fun a b r => K (pc + 1) L (.int (a * b) :: r) M)
  | .ishl => p2 st (fun a b r => K (pc + 1) L (.int (a <<< (b &&& 31)) :: r) M)
  | .ishr => p2 st (fun a b r => K (pc + 1) L (.int (a >>> (b &&& 31)) :: r) M)
  | .iand => p2 st (fun a b r => K (pc + 1) L (.int (a &&& b) :: r) M)
  | .ior => p2 st (fun a b r => K (pc + 1) L (.int (a ||| b) :: r) M)
  | .ixor => p2 st (fun a b r => K (pc + 1) L (.int (a ^^^ b) :: r) M)
  | .idiv => p2 st (fun a b r => ¬ b = 0 ∧ K (pc + 1) L (.int (a / b) :: r) M)
  | .irem => p2 st (fun a b r => ¬ b = 0 ∧ K (pc + 1) L (.int (a - a / b * b) :: r) M)
  | .iushr => p2 st (fun a b r => K (pc + 1) L (.int ((a.toUInt32 >>> (b.toUInt32 &&& Int32.toUInt32 31)).toInt32) :: r) M)
  | .ineg => p1 st (fun a r => K (pc + 1) L (.int (-a) :: r) M)
  | .i2c => p1 st (fun a r => K (pc + 1) L (.int (a.toUInt32 % 65536).toInt32 :: r) M)
  | .i2l => p1 st (fun a r => K (pc + 1) L (.long a.toInt64 :: r) M)
  | .l2i => q1 st (fun a r => K (pc + 1) L (.int a.toInt32 :: r) M)
  | .ladd => q2 st (fun a b r => K (pc + 1) L (.long (a + b) :: r) M)
  | .lmul => q2 st (fun a b r => K (pc + 1) L (.long (a * b) :: r) M)
  | .land => q2 st (fun a b r => K (pc + 1) L (.long (a &&& b) :: r) M)
  | .lor => q2 st (fun a b r => K (pc + 1) L (.long (a ||| b) :: r) M)
  | .lshl => qi st (fun a b r => K (pc + 1) L (.long (a <<< (b.toInt64 &&& 63)) :: r) M)
  | .lshr => qi st (fun a b r => K (pc + 1) L (.long (a >>> (b.toInt64 &&& 63)) :: r) M)
  | .lushr => qi st (fun a b r => K (pc + 1) L (.long ((a.toUInt64 >>> (b.toInt64.toUInt64 &&& Int64.toUInt64 63)).toInt64) :: r) M)
  | .lcmp => q2 st (fun a b r => K (pc + 1) L (.int (lg_cmp a b) :: r) M)
  | .dup => dp1 st (fun v r => K (pc + 1) L (v :: v :: r) M)
  | .pop => dp1 st (fun _ r => K (pc + 1) L r M)
  | .dup2 => dp2 st (fun v w r => K (pc + 1) L (v :: w :: v :: w :: r) M)
  | .ifCond c _ => p1 st (fun a r => bz c a (K (tg.getD 0 0) L r M) (K (pc + 3) L r M))
  | .if_icmp c _ => p2 st (fun a b r => bc c a b (K (tg.getD 0 0) L r M) (K (pc + 3) L r M))
  | .goto _ => K (tg.getD 0 0) L st M
  | .tableswitch _ lo hi _ => p1 st (fun a r => swt (fun t => K t L r M) a lo hi (tg.getD 0 0) lo tg.tail)
  | .getfield idx => r1 st (fun a r => match fld μ.1 idx a with | some (_, k, kd, rp) => K (pc + 3) L (pfv pid M a k (kd, rp) :: r) M | none => (match sfl μ.1 idx a with | some v => K (pc + 3) L (v :: r) M | none => False))
  | .putfield idx => match st with
    | .int v :: .ref a :: r => (match fld μ.1 idx a with | some (ci, k, kd, _) => gd (!((fcl ci).2.1 k).2.2.2) (match kd with | 0 => K (pc + 3) L r (wI M a k v) | 3 => (v = 0 ∨ v = 1) ∧ K (pc + 3) L r (wI M a k v) | _ => False) | none => False)
    | .long v :: .ref a :: r => (match fld μ.1 idx a with | some (ci, k, kd, _) => gd (!((fcl ci).2.1 k).2.2.2) (match kd with | 1 => K (pc + 3) L r (wL M a k v) | _ => False) | none => False)
    | _ => False
  | .getstatic idx => match gst μ.1 idx with | some vs => allv (fun v => K (pc + 3) L (v :: st) M) vs | none => False
  | .iaload => p1 st (fun i st1 => r1 st1 (fun a r => match shp[a]? with
    | some (.inl (t, n)) => gd (Nat.beq t 0) (vp_in i n ∧ K (pc + 1) L (.int (M.1 a i.toNatClampNeg) :: r) M)
    | _ => (match cti a with | some l => vp_in i 6 ∧ K (pc + 1) L (.int (l.getD i.toNatClampNeg 0) :: r) M | none => False)))
  | .baload => p1 st (fun i st1 => r1 st1 (fun a r => match shp[a]? with
    | some (.inl (t, n)) => gd (Nat.beq t 1) (vp_in i n ∧ K (pc + 1) L (.int (M.1 a i.toNatClampNeg) :: r) M)
    | _ => gd (Nat.ble 220 a && Nat.ble a 222) (vp_in i 5 ∧ K (pc + 1) L (.int ((ctB.getD (a - 220) []).getD i.toNatClampNeg 0) :: r) M)))
  | .laload => p1 st (fun i st1 => r1 st1 (fun a r => match shp[a]? with
    | some (.inl (t, n)) => gd (Nat.beq t 2) (vp_in i n ∧ K (pc + 1) L (.long (M.2 a i.toNatClampNeg) :: r) M)
    | _ => False))
  | .iastore => p2 st (fun i v st1 => r1 st1 (fun a r => match shp[a]? with
    | some (.inl (t, n)) => gd (Nat.beq t 0) (vp_in i n ∧ K (pc + 1) L r (wI M a i.toNatClampNeg v))
    | _ => False))
  | .bastore => p2 st (fun i v st1 => r1 st1 (fun a r => match shp[a]? with
    | some (.inl (t, n)) => gd (Nat.beq t 1) (vp_in i n ∧ (v = 0 ∨ v = 1) ∧ K (pc + 1) L r (wI M a i.toNatClampNeg v))
    | _ => False))
  | .lastore => q1 st (fun v st0 => p1 st0 (fun i st1 => r1 st1 (fun a r => match shp[a]? with
    | some (.inl (t, n)) => gd (Nat.beq t 2) (vp_in i n ∧ K (pc + 1) L r (wL M a i.toNatClampNeg v))
    | _ => False)))
  | .arraylength => r1 st (fun a r => match shp[a]? with
    | some (.inl (t, n)) => gd (Nat.ble t 2) (K (pc + 1) L (.int (Int32.ofNat n) :: r) M)
    | _ => gd (Nat.ble 220 a && Nat.ble a 222) (K (pc + 1) L (.int 5 :: r) M))
  | .ldc idx => match kci μ.1 idx with
    | some v => K (pc + 2) L (.int v :: st) M
    | none => gd (Nat.beq μ.1 6) (bif Nat.beq idx 98 then K (pc + 2) L (.ref 210 :: st) M else bif Nat.beq idx 104 then K (pc + 2) L (.ref 211 :: st) M else bif Nat.beq idx 106 then K (pc + 2) L (.ref 212 :: st) M else False)
  | .ldc_w idx => match kci μ.1 idx with | some v => K (pc + 3) L (.int v :: st) M | none => False
  | .ldc2_w idx => match kcl μ.1 idx with | some v => K (pc + 3) L (.long v :: st) M | none => False
  | .invokevirtual idx => match callee μ.1 idx with
    | some (μ2, kd) => gd (Nat.beq kd 0) (gd (!μ2.2.2.2.2.2.1) (r1 (st.drop μ2.2.2.2.2.2.2) (fun a r => gd (Nat.ble (csum r) 8 && recv a μ2.1) (PC G d μ2 (.ref a :: (st.take μ2.2.2.2.2.2.2).reverse) M (rk μ2.2.2.2.2.1 K (pc + 3) L r)))))
    | none => False
  | .invokestatic idx => match callee μ.1 idx with
    | some (μ2, kd) => (match kd with
      | 3 => ac5 st (fun a b sp dp n r => gd (Nat.ble (csum r) 8) (ar2 a b (fun n0 n1 => (¬ sp < 0 ∧ ¬ dp < 0 ∧ ¬ n < 0 ∧ sp.toNatClampNeg + n.toNatClampNeg ≤ n0 ∧ dp.toNatClampNeg + n.toNatClampNeg ≤ n1) ∧ K (pc + 3) L r (cpI M b a sp.toNatClampNeg dp.toNatClampNeg n.toNatClampNeg))))
      | 4 => p1 st (fun x r => gd (Nat.ble (csum r) 8) (K (pc + 3) L (.int (if 0 ≤ x then x else 0 - x) :: r) M))
      | 5 => p2 st (fun x y r => gd (Nat.ble (csum r) 8) (K (pc + 3) L (.int (if x < y then y else x) :: r) M))
      | 6 => p2 st (fun x y r => gd (Nat.ble (csum r) 8) (K (pc + 3) L (.int (if y < x then y else x) :: r) M))
      | 0 => False
      | _ => gd (μ2.2.2.2.2.2.1 && Nat.ble μ2.2.2.2.2.2.2 st.length && Nat.ble (csum (st.drop μ2.2.2.2.2.2.2)) 8) (PC G d μ2 ((st.take μ2.2.2.2.2.2.2).reverse) M (rk μ2.2.2.2.2.1 K (pc + 3) L (st.drop μ2.2.2.2.2.2.2))))
    | none => False
  | .ireturn => match st with | [.int v] => ret1 μ.2.2.2.2.1 v (Post (some (.int v)) M) | _ => False
  | .lreturn => match st with | [.long v] => gd (decide (μ.2.2.2.2.1 = some .long)) (Post (some (.long v)) M) | _ => False
  | .areturn => match st with | [.ref v] => (match μ.2.2.2.2.1 with | some (.object _) => Post (some (.ref v)) M | _ => False) | _ => False
  | .return_ => match st with | [] => (match μ.2.2.2.2.1 with | none => Post none M | _ => False) | _ => False
  | _ => False
def HK (G : GG) (d : Nat) (μ : Mth) (Post : Option Value → PM → Prop) (K : KK) : Prop := ∀ pc L st M, K pc L st M → PX G d μ Post pc L st M
section X1
variable {G : GG} {d : Nat} {μ : Mth} {Post : Option Value → PM → Prop} {pc : Nat} {L : List (Option Value)} {st : List Value} {M : PM}

theorem x_iconst {K : KK} (hK : HK G d μ Post K) {n : Int} {kv : Int32} (hv : Int32.ofInt n = kv) (hd : decode μ.2.2.1 pc = .ok (.iconst n, 1)) (h : K (pc + 1) L (.int kv :: st) M) : PX G d μ Post pc L st M := by
  intro p e s m args below meth c H locs ls hx hb hml hr hk hown hts hW hP hS hl
  exact lv_iconst hx hb hd hv (hK _ _ _ _ h p e s m args below meth c H locs ls hx hb hml hr hk hown hts hW hP hS hl)
theorem x_bipush {K : KK} (hK : HK G d μ Post K) {n : Int} {kv : Int32} (hv : (Int8.ofInt n).toInt32 = kv) (hd : decode μ.2.2.1 pc = .ok (.bipush n, 2)) (h : K (pc + 2) L (.int kv :: st) M) : PX G d μ Post pc L st M := by
  intro p e s m args below meth c H locs ls hx hb hml hr hk hown hts hW hP hS hl
  exact lv_bipush hx hb hd hv (hK _ _ _ _ h p e s m args below meth c H locs ls hx hb hml hr hk hown hts hW hP hS hl)
theorem x_sipush {K : KK} (hK : HK G d μ Post K) {n : Int} {kv : Int32} (hv : (Int16.ofInt n).toInt32 = kv) (hd : decode μ.2.2.1 pc = .ok (.sipush n, 3)) (h : K (pc + 3) L (.int kv :: st) M) : PX G d μ Post pc L st M := by
  intro p e s m args below meth c H locs ls hx hb hml hr hk hown hts hW hP hS hl
  exact lv_sipush hx hb hd hv (hK _ _ _ _ h p e s m args below meth c H locs ls hx hb hml hr hk hown hts hW hP hS hl)
theorem x_lconst {K : KK} (hK : HK G d μ Post K) {k : Fin 2} (hd : decode μ.2.2.1 pc = .ok (.lconst k, 1)) (h : K (pc + 1) L (.long (Int64.ofNat (k : Nat)) :: st) M) : PX G d μ Post pc L st M := by
  intro p e s m args below meth c H locs ls hx hb hml hr hk hown hts hW hP hS hl
  exact lv_lconst hx hb hd rfl (hK _ _ _ _ h p e s m args below meth c H locs ls hx hb hml hr hk hown hts hW hP hS hl)
theorem x_iload {K : KK} (hK : HK G d μ Post K) {k : Nat} (hd : decode μ.2.2.1 pc = .ok (.iload k, 2)) (h : gI (lg L k) (fun x => K (pc + 2) L (.int x :: st) M)) : PX G d μ Post pc L st M := by
  intro p e s m args below meth c H locs ls hx hb hml hr hk hown hts hW hP hS hl
  obtain ⟨x, e1, h1⟩ := gI_inv h
  exact lv_iload hx hb hd (hl.2.2 _ _ e1) (hK _ _ _ _ h1 p e s m args below meth c H locs ls hx hb hml hr hk hown hts hW hP hS hl)
theorem x_iload_n {K : KK} (hK : HK G d μ Post K) {k : Fin 4} (hd : decode μ.2.2.1 pc = .ok (.iload_n k, 1)) (h : gI (lg L (k : Nat)) (fun x => K (pc + 1) L (.int x :: st) M)) : PX G d μ Post pc L st M := by
  intro p e s m args below meth c H locs ls hx hb hml hr hk hown hts hW hP hS hl
  obtain ⟨x, e1, h1⟩ := gI_inv h
  exact lv_iload_n hx hb hd rfl (hl.2.2 _ _ e1) (hK _ _ _ _ h1 p e s m args below meth c H locs ls hx hb hml hr hk hown hts hW hP hS hl)
theorem x_lload {K : KK} (hK : HK G d μ Post K) {k : Nat} (hd : decode μ.2.2.1 pc = .ok (.lload k, 2)) (h : gL (lg L k) (fun x => K (pc + 2) L (.long x :: st) M)) : PX G d μ Post pc L st M := by
  intro p e s m args below meth c H locs ls hx hb hml hr hk hown hts hW hP hS hl
  obtain ⟨x, e1, h1⟩ := gL_inv h
  exact lv_lload hx hb hd (hl.2.2 _ _ e1) (hK _ _ _ _ h1 p e s m args below meth c H locs ls hx hb hml hr hk hown hts hW hP hS hl)
theorem x_lload_n {K : KK} (hK : HK G d μ Post K) {k : Fin 4} (hd : decode μ.2.2.1 pc = .ok (.lload_n k, 1)) (h : gL (lg L (k : Nat)) (fun x => K (pc + 1) L (.long x :: st) M)) : PX G d μ Post pc L st M := by
  intro p e s m args below meth c H locs ls hx hb hml hr hk hown hts hW hP hS hl
  obtain ⟨x, e1, h1⟩ := gL_inv h
  exact lv_lload_n hx hb hd rfl (hl.2.2 _ _ e1) (hK _ _ _ _ h1 p e s m args below meth c H locs ls hx hb hml hr hk hown hts hW hP hS hl)
theorem x_aload_n {K : KK} (hK : HK G d μ Post K) {k : Fin 4} (hd : decode μ.2.2.1 pc = .ok (.aload_n k, 1)) (h : gR (lg L (k : Nat)) (fun x => K (pc + 1) L (.ref x :: st) M)) : PX G d μ Post pc L st M := by
  intro p e s m args below meth c H locs ls hx hb hml hr hk hown hts hW hP hS hl
  obtain ⟨x, e1, h1⟩ := gR_inv h
  exact lv_aload_n hx hb hd rfl (hl.2.2 _ _ e1) (hK _ _ _ _ h1 p e s m args below meth c H locs ls hx hb hml hr hk hown hts hW hP hS hl)
theorem x_istore {K : KK} (hK : HK G d μ Post K) {k : Nat} (hd : decode μ.2.2.1 pc = .ok (.istore k, 2)) (h : p1 st (fun x r => gd (Nat.blt k μ.2.2.2.1) (K (pc + 2) (stL L k (.int x)) r M))) : PX G d μ Post pc L st M := by
  intro p e s m args below meth c H locs ls hx hb hml hr hk hown hts hW hP hS hl
  obtain ⟨x, r, rfl, h1⟩ := p1_inv h
  obtain ⟨hk1, h1⟩ := gd_inv h1
  exact lv_istore hx hb hd hl.has (Nat.le_of_ble_eq_true hk1) rfl (fun ls2 hl2 => hK _ _ _ _ (h1) p e s m args below meth c H locs ls2 hx hb hml hr hk hown hts hW hP hS (lvH.st1 hl2))
theorem x_istore_n {K : KK} (hK : HK G d μ Post K) {k : Fin 4} (hd : decode μ.2.2.1 pc = .ok (.istore_n k, 1)) (h : p1 st (fun x r => gd (Nat.blt (k : Nat) μ.2.2.2.1) (K (pc + 1) (stL L (k : Nat) (.int x)) r M))) : PX G d μ Post pc L st M := by
  intro p e s m args below meth c H locs ls hx hb hml hr hk hown hts hW hP hS hl
  obtain ⟨x, r, rfl, h1⟩ := p1_inv h
  obtain ⟨hk1, h1⟩ := gd_inv h1
  exact lv_istore_n hx hb hd rfl hl.has (Nat.le_of_ble_eq_true hk1) rfl (fun ls2 hl2 => hK _ _ _ _ (h1) p e s m args below meth c H locs ls2 hx hb hml hr hk hown hts hW hP hS (lvH.st1 hl2))
theorem x_astore_n {K : KK} (hK : HK G d μ Post K) {k : Fin 4} (hd : decode μ.2.2.1 pc = .ok (.astore_n k, 1)) (h : r1 st (fun x r => gd (Nat.blt (k : Nat) μ.2.2.2.1) (K (pc + 1) (stL L (k : Nat) (.ref x)) r M))) : PX G d μ Post pc L st M := by
  intro p e s m args below meth c H locs ls hx hb hml hr hk hown hts hW hP hS hl
  obtain ⟨x, r, rfl, h1⟩ := r1_inv h
  obtain ⟨hk1, h1⟩ := gd_inv h1
  exact lv_astore_n hx hb hd rfl hl.has (Nat.le_of_ble_eq_true hk1) rfl (fun ls2 hl2 => hK _ _ _ _ (h1) p e s m args below meth c H locs ls2 hx hb hml hr hk hown hts hW hP hS (lvH.st1 hl2))
theorem x_lstore {K : KK} (hK : HK G d μ Post K) {k : Nat} (hd : decode μ.2.2.1 pc = .ok (.lstore k, 2)) (h : q1 st (fun x r => gd (Nat.blt (k + 1) μ.2.2.2.1) (K (pc + 2) (stL (noL L (k + 1)) k (.long x)) r M))) : PX G d μ Post pc L st M := by
  intro p e s m args below meth c H locs ls hx hb hml hr hk hown hts hW hP hS hl
  obtain ⟨x, r, rfl, h1⟩ := q1_inv h
  obtain ⟨hk1, h1⟩ := gd_inv h1
  exact lv_lstore hx hb hd hl.has (Nat.le_of_ble_eq_true hk1) rfl (fun ls2 hl2 => hK _ _ _ _ (h1) p e s m args below meth c H locs ls2 hx hb hml hr hk hown hts hW hP hS (lvH.st2 hl2))
theorem x_lstore_n {K : KK} (hK : HK G d μ Post K) {k : Fin 4} (hd : decode μ.2.2.1 pc = .ok (.lstore_n k, 1)) (h : q1 st (fun x r => gd (Nat.blt ((k : Nat) + 1) μ.2.2.2.1) (K (pc + 1) (stL (noL L ((k : Nat) + 1)) (k : Nat) (.long x)) r M))) : PX G d μ Post pc L st M := by
  intro p e s m args below meth c H locs ls hx hb hml hr hk hown hts hW hP hS hl
  obtain ⟨x, r, rfl, h1⟩ := q1_inv h
  obtain ⟨hk1, h1⟩ := gd_inv h1
  exact lv_lstore_n hx hb hd rfl hl.has (Nat.le_of_ble_eq_true hk1) rfl (fun ls2 hl2 => hK _ _ _ _ (h1) p e s m args below meth c H locs ls2 hx hb hml hr hk hown hts hW hP hS (lvH.st2 hl2))
theorem x_iinc {K : KK} (hK : HK G d μ Post K) {k : Nat} {n : Int} {kv : Int32} (hv : Int32.ofInt n = kv) (hd : decode μ.2.2.1 pc = .ok (.iinc k n, 3)) (h : gI (lg L k) (fun x => gd (Nat.blt k μ.2.2.2.1) (K (pc + 3) (stL L k (.int (x + kv))) st M))) : PX G d μ Post pc L st M := by
  intro p e s m args below meth c H locs ls hx hb hml hr hk hown hts hW hP hS hl
  obtain ⟨x, e1, h1⟩ := gI_inv h
  obtain ⟨hk1, h1⟩ := gd_inv h1
  obtain ⟨j, hj⟩ := List.mem_iff_getElem?.mp (cvl_mem (ad := G.2.2.2) e1)
  exact lv_iinc hx hb hd hl.has (k := j) hj (by rw [hv]) (Nat.le_of_ble_eq_true hk1) rfl (fun ls2 hl2 => hK _ _ _ _ (h1) p e s m args below meth c H locs ls2 hx hb hml hr hk hown hts hW hP hS (lvH.st1 hl2))
theorem x_iadd {K : KK} (hK : HK G d μ Post K) (hd : decode μ.2.2.1 pc = .ok (.iadd, 1)) (h : p2 st (fun a b r => K (pc + 1) L (.int (a + b) :: r) M)) : PX G d μ Post pc L st M := by
  intro p e s m args below meth c H locs ls hx hb hml hr hk hown hts hW hP hS hl
  obtain ⟨a, b, r, rfl, h1⟩ := p2_inv h
  exact lv_iadd hx hb hd (hK _ _ _ _ h1 p e s m args below meth c H locs ls hx hb hml hr hk hown hts hW hP hS hl)
theorem x_isub {K : KK} (hK : HK G d μ Post K) (hd : decode μ.2.2.1 pc = .ok (.isub, 1)) (h : p2 st (fun a b r => K (pc + 1) L (.int (a - b) :: r) M)) : PX G d μ Post pc L st M := by
  intro p e s m args below meth c H locs ls hx hb hml hr hk hown hts hW hP hS hl
  obtain ⟨a, b, r, rfl, h1⟩ := p2_inv h
  exact lv_isub hx hb hd (hK _ _ _ _ h1 p e s m args below meth c H locs ls hx hb hml hr hk hown hts hW hP hS hl)
theorem x_imul {K : KK} (hK : HK G d μ Post K) (hd : decode μ.2.2.1 pc = .ok (.imul, 1)) (h : p2 st (fun a b r => K (pc + 1) L (.int (a * b) :: r) M)) : PX G d μ Post pc L st M := by
  intro p e s m args below meth c H locs ls hx hb hml hr hk hown hts hW hP hS hl
  obtain ⟨a, b, r, rfl, h1⟩ := p2_inv h
  exact lv_imul hx hb hd (hK _ _ _ _ h1 p e s m args below meth c H locs ls hx hb hml hr hk hown hts hW hP hS hl)
theorem x_ishl {K : KK} (hK : HK G d μ Post K) (hd : decode μ.2.2.1 pc = .ok (.ishl, 1)) (h : p2 st (fun a b r => K (pc + 1) L (.int (a <<< (b &&& 31)) :: r) M)) : PX G d μ Post pc L st M := by
  intro p e s m args below meth c H locs ls hx hb hml hr hk hown hts hW hP hS hl
  obtain ⟨a, b, r, rfl, h1⟩ := p2_inv h
  exact lv_ishl hx hb hd (hK _ _ _ _ h1 p e s m args below meth c H locs ls hx hb hml hr hk hown hts hW hP hS hl)
theorem x_ishr {K : KK} (hK : HK G d μ Post K) (hd : decode μ.2.2.1 pc = .ok (.ishr, 1)) (h : p2 st (fun a b r => K (pc + 1) L (.int (a >>> (b &&& 31)) :: r) M)) : PX G d μ Post pc L st M := by
  intro p e s m args below meth c H locs ls hx hb hml hr hk hown hts hW hP hS hl
  obtain ⟨a, b, r, rfl, h1⟩ := p2_inv h
  exact lv_ishr hx hb hd (hK _ _ _ _ h1 p e s m args below meth c H locs ls hx hb hml hr hk hown hts hW hP hS hl)
theorem x_iand {K : KK} (hK : HK G d μ Post K) (hd : decode μ.2.2.1 pc = .ok (.iand, 1)) (h : p2 st (fun a b r => K (pc + 1) L (.int (a &&& b) :: r) M)) : PX G d μ Post pc L st M := by
  intro p e s m args below meth c H locs ls hx hb hml hr hk hown hts hW hP hS hl
  obtain ⟨a, b, r, rfl, h1⟩ := p2_inv h
  exact lv_iand hx hb hd (hK _ _ _ _ h1 p e s m args below meth c H locs ls hx hb hml hr hk hown hts hW hP hS hl)
theorem x_ior {K : KK} (hK : HK G d μ Post K) (hd : decode μ.2.2.1 pc = .ok (.ior, 1)) (h : p2 st (fun a b r => K (pc + 1) L (.int (a ||| b) :: r) M)) : PX G d μ Post pc L st M := by
  intro p e s m args below meth c H locs ls hx hb hml hr hk hown hts hW hP hS hl
  obtain ⟨a, b, r, rfl, h1⟩ := p2_inv h
  exact lv_ior hx hb hd (hK _ _ _ _ h1 p e s m args below meth c H locs ls hx hb hml hr hk hown hts hW hP hS hl)
theorem x_ixor {K : KK} (hK : HK G d μ Post K) (hd : decode μ.2.2.1 pc = .ok (.ixor, 1)) (h : p2 st (fun a b r => K (pc + 1) L (.int (a ^^^ b) :: r) M)) : PX G d μ Post pc L st M := by
  intro p e s m args below meth c H locs ls hx hb hml hr hk hown hts hW hP hS hl
  obtain ⟨a, b, r, rfl, h1⟩ := p2_inv h
  exact lv_ixor hx hb hd (hK _ _ _ _ h1 p e s m args below meth c H locs ls hx hb hml hr hk hown hts hW hP hS hl)
theorem x_idiv {K : KK} (hK : HK G d μ Post K) (hd : decode μ.2.2.1 pc = .ok (.idiv, 1)) (h : p2 st (fun a b r => ¬ b = 0 ∧ K (pc + 1) L (.int (a / b) :: r) M)) : PX G d μ Post pc L st M := by
  intro p e s m args below meth c H locs ls hx hb hml hr hk hown hts hW hP hS hl
  obtain ⟨a, b, r, rfl, h0, h1⟩ := p2_inv h
  exact lv_idiv hx hb hd h0 (hK _ _ _ _ h1 p e s m args below meth c H locs ls hx hb hml hr hk hown hts hW hP hS hl)
theorem x_irem {K : KK} (hK : HK G d μ Post K) (hd : decode μ.2.2.1 pc = .ok (.irem, 1)) (h : p2 st (fun a b r => ¬ b = 0 ∧ K (pc + 1) L (.int (a - a / b * b) :: r) M)) : PX G d μ Post pc L st M := by
  intro p e s m args below meth c H locs ls hx hb hml hr hk hown hts hW hP hS hl
  obtain ⟨a, b, r, rfl, h0, h1⟩ := p2_inv h
  exact lv_irem hx hb hd h0 (hK _ _ _ _ h1 p e s m args below meth c H locs ls hx hb hml hr hk hown hts hW hP hS hl)
theorem x_iushr {K : KK} (hK : HK G d μ Post K) (hd : decode μ.2.2.1 pc = .ok (.iushr, 1)) (h : p2 st (fun a b r => K (pc + 1) L (.int ((a.toUInt32 >>> (b.toUInt32 &&& Int32.toUInt32 31)).toInt32) :: r) M)) : PX G d μ Post pc L st M := by
  intro p e s m args below meth c H locs ls hx hb hml hr hk hown hts hW hP hS hl
  obtain ⟨a, b, r, rfl, h1⟩ := p2_inv h
  exact lv_iushr hx hb hd rfl (hK _ _ _ _ h1 p e s m args below meth c H locs ls hx hb hml hr hk hown hts hW hP hS hl)
theorem x_ineg {K : KK} (hK : HK G d μ Post K) (hd : decode μ.2.2.1 pc = .ok (.ineg, 1)) (h : p1 st (fun a r => K (pc + 1) L (.int (-a) :: r) M)) : PX G d μ Post pc L st M := by
  intro p e s m args below meth c H locs ls hx hb hml hr hk hown hts hW hP hS hl
  obtain ⟨a, r, rfl, h1⟩ := p1_inv h
  have h2 := hK _ _ _ _ h1 p e s m args below meth c H locs ls hx hb hml hr hk hown hts hW hP hS hl
  first | exact lv_ineg hx hb hd h2 | exact lv_ineg hx hb hd rfl h2 | exact lv_ineg hx hb hd (by rw [show (0 - a : Int32) = -a by simp]; exact h2)
theorem x_i2c {K : KK} (hK : HK G d μ Post K) (hd : decode μ.2.2.1 pc = .ok (.i2c, 1)) (h : p1 st (fun a r => K (pc + 1) L (.int (a.toUInt32 % 65536).toInt32 :: r) M)) : PX G d μ Post pc L st M := by
  intro p e s m args below meth c H locs ls hx hb hml hr hk hown hts hW hP hS hl
  obtain ⟨a, r, rfl, h1⟩ := p1_inv h
  exact lv_i2c hx hb hd rfl (hK _ _ _ _ h1 p e s m args below meth c H locs ls hx hb hml hr hk hown hts hW hP hS hl)
theorem x_i2l {K : KK} (hK : HK G d μ Post K) (hd : decode μ.2.2.1 pc = .ok (.i2l, 1)) (h : p1 st (fun a r => K (pc + 1) L (.long a.toInt64 :: r) M)) : PX G d μ Post pc L st M := by
  intro p e s m args below meth c H locs ls hx hb hml hr hk hown hts hW hP hS hl
  obtain ⟨a, r, rfl, h1⟩ := p1_inv h
  exact lv_i2l hx hb hd rfl (hK _ _ _ _ h1 p e s m args below meth c H locs ls hx hb hml hr hk hown hts hW hP hS hl)
theorem x_l2i {K : KK} (hK : HK G d μ Post K) (hd : decode μ.2.2.1 pc = .ok (.l2i, 1)) (h : q1 st (fun a r => K (pc + 1) L (.int a.toInt32 :: r) M)) : PX G d μ Post pc L st M := by
  intro p e s m args below meth c H locs ls hx hb hml hr hk hown hts hW hP hS hl
  obtain ⟨a, r, rfl, h1⟩ := q1_inv h
  exact lv_l2i hx hb hd rfl (hK _ _ _ _ h1 p e s m args below meth c H locs ls hx hb hml hr hk hown hts hW hP hS hl)
theorem x_ladd {K : KK} (hK : HK G d μ Post K) (hd : decode μ.2.2.1 pc = .ok (.ladd, 1)) (h : q2 st (fun a b r => K (pc + 1) L (.long (a + b) :: r) M)) : PX G d μ Post pc L st M := by
  intro p e s m args below meth c H locs ls hx hb hml hr hk hown hts hW hP hS hl
  obtain ⟨a, b, r, rfl, h1⟩ := q2_inv h
  exact lv_ladd hx hb hd (hK _ _ _ _ h1 p e s m args below meth c H locs ls hx hb hml hr hk hown hts hW hP hS hl)
theorem x_lmul {K : KK} (hK : HK G d μ Post K) (hd : decode μ.2.2.1 pc = .ok (.lmul, 1)) (h : q2 st (fun a b r => K (pc + 1) L (.long (a * b) :: r) M)) : PX G d μ Post pc L st M := by
  intro p e s m args below meth c H locs ls hx hb hml hr hk hown hts hW hP hS hl
  obtain ⟨a, b, r, rfl, h1⟩ := q2_inv h
  exact lv_lmul hx hb hd (hK _ _ _ _ h1 p e s m args below meth c H locs ls hx hb hml hr hk hown hts hW hP hS hl)
theorem x_land {K : KK} (hK : HK G d μ Post K) (hd : decode μ.2.2.1 pc = .ok (.land, 1)) (h : q2 st (fun a b r => K (pc + 1) L (.long (a &&& b) :: r) M)) : PX G d μ Post pc L st M := by
  intro p e s m args below meth c H locs ls hx hb hml hr hk hown hts hW hP hS hl
  obtain ⟨a, b, r, rfl, h1⟩ := q2_inv h
  exact lv_land hx hb hd (hK _ _ _ _ h1 p e s m args below meth c H locs ls hx hb hml hr hk hown hts hW hP hS hl)
theorem x_lor {K : KK} (hK : HK G d μ Post K) (hd : decode μ.2.2.1 pc = .ok (.lor, 1)) (h : q2 st (fun a b r => K (pc + 1) L (.long (a ||| b) :: r) M)) : PX G d μ Post pc L st M := by
  intro p e s m args below meth c H locs ls hx hb hml hr hk hown hts hW hP hS hl
  obtain ⟨a, b, r, rfl, h1⟩ := q2_inv h
  exact lv_lor hx hb hd (hK _ _ _ _ h1 p e s m args below meth c H locs ls hx hb hml hr hk hown hts hW hP hS hl)
theorem x_lshl {K : KK} (hK : HK G d μ Post K) (hd : decode μ.2.2.1 pc = .ok (.lshl, 1)) (h : qi st (fun a b r => K (pc + 1) L (.long (a <<< (b.toInt64 &&& 63)) :: r) M)) : PX G d μ Post pc L st M := by
  intro p e s m args below meth c H locs ls hx hb hml hr hk hown hts hW hP hS hl
  obtain ⟨a, b, r, rfl, h1⟩ := qi_inv h
  exact lv_lshl hx hb hd rfl (hK _ _ _ _ h1 p e s m args below meth c H locs ls hx hb hml hr hk hown hts hW hP hS hl)
theorem x_lshr {K : KK} (hK : HK G d μ Post K) (hd : decode μ.2.2.1 pc = .ok (.lshr, 1)) (h : qi st (fun a b r => K (pc + 1) L (.long (a >>> (b.toInt64 &&& 63)) :: r) M)) : PX G d μ Post pc L st M := by
  intro p e s m args below meth c H locs ls hx hb hml hr hk hown hts hW hP hS hl
  obtain ⟨a, b, r, rfl, h1⟩ := qi_inv h
  exact lv_lshr hx hb hd rfl (hK _ _ _ _ h1 p e s m args below meth c H locs ls hx hb hml hr hk hown hts hW hP hS hl)
theorem x_lushr {K : KK} (hK : HK G d μ Post K) (hd : decode μ.2.2.1 pc = .ok (.lushr, 1)) (h : qi st (fun a b r => K (pc + 1) L (.long ((a.toUInt64 >>> (b.toInt64.toUInt64 &&& Int64.toUInt64 63)).toInt64) :: r) M)) : PX G d μ Post pc L st M := by
  intro p e s m args below meth c H locs ls hx hb hml hr hk hown hts hW hP hS hl
  obtain ⟨a, b, r, rfl, h1⟩ := qi_inv h
  exact lv_lushr hx hb hd rfl (hK _ _ _ _ h1 p e s m args below meth c H locs ls hx hb hml hr hk hown hts hW hP hS hl)
theorem x_lcmp {K : KK} (hK : HK G d μ Post K) (hd : decode μ.2.2.1 pc = .ok (.lcmp, 1)) (h : q2 st (fun a b r => K (pc + 1) L (.int (lg_cmp a b) :: r) M)) : PX G d μ Post pc L st M := by
  intro p e s m args below meth c H locs ls hx hb hml hr hk hown hts hW hP hS hl
  obtain ⟨a, b, r, rfl, h1⟩ := q2_inv h
  exact W.lcmp hx hb hd (hK _ _ _ _ h1 p e s m args below meth c H locs ls hx hb hml hr hk hown hts hW hP hS hl)
theorem x_dup {K : KK} (hK : HK G d μ Post K) (hd : decode μ.2.2.1 pc = .ok (.dup, 1)) (h : dp1 st (fun v r => K (pc + 1) L (v :: v :: r) M)) : PX G d μ Post pc L st M := by
  intro p e s m args below meth c H locs ls hx hb hml hr hk hown hts hW hP hS hl
  obtain ⟨v, r, rfl, hc, h1⟩ := dp1_inv h
  exact lv_dup hx hb hd (by rw [cv_cat]; exact hc) (hK _ _ _ _ h1 p e s m args below meth c H locs ls hx hb hml hr hk hown hts hW hP hS hl)
theorem x_pop {K : KK} (hK : HK G d μ Post K) (hd : decode μ.2.2.1 pc = .ok (.pop, 1)) (h : dp1 st (fun _ r => K (pc + 1) L r M)) : PX G d μ Post pc L st M := by
  intro p e s m args below meth c H locs ls hx hb hml hr hk hown hts hW hP hS hl
  obtain ⟨v, r, rfl, hc, h1⟩ := dp1_inv h
  exact lv_pop hx hb hd (by rw [cv_cat]; exact hc) (hK _ _ _ _ h1 p e s m args below meth c H locs ls hx hb hml hr hk hown hts hW hP hS hl)
theorem x_dup2 {K : KK} (hK : HK G d μ Post K) (hd : decode μ.2.2.1 pc = .ok (.dup2, 1)) (h : dp2 st (fun v w r => K (pc + 1) L (v :: w :: v :: w :: r) M)) : PX G d μ Post pc L st M := by
  intro p e s m args below meth c H locs ls hx hb hml hr hk hown hts hW hP hS hl
  obtain ⟨v, w, r, rfl, hc, hc2, h1⟩ := dp2_inv h
  exact lv_dup2_11 hx hb hd (by rw [cv_cat]; exact hc) (by rw [cv_cat]; exact hc2) (hK _ _ _ _ h1 p e s m args below meth c H locs ls hx hb hml hr hk hown hts hW hP hS hl)
theorem x_ifCond {K : KK} (hK : HK G d μ Post K) {cc : ClassFile.Cond} {f : Int} {tg : List Nat} (hv : (pc : Int) + f = ((tg.getD 0 0 : Nat) : Int)) (hd : decode μ.2.2.1 pc = .ok (.ifCond cc f, 3)) (h : p1 st (fun a r => bz cc a (K (tg.getD 0 0) L r M) (K (pc + 3) L r M))) : PX G d μ Post pc L st M := by
  intro p e s m args below meth c H locs ls hx hb hml hr hk hown hts hW hP hS hl
  obtain ⟨a, r, rfl, h1⟩ := p1_inv h
  cases cc with
  | eq => exact lv_if_eq hx hb hd hv (fun q => hK _ _ _ _ (h1.1 q) p e s m args below meth c H locs ls hx hb hml hr hk hown hts hW hP hS hl) (fun q => hK _ _ _ _ (h1.2 q) p e s m args below meth c H locs ls hx hb hml hr hk hown hts hW hP hS hl)
  | ne => exact lv_if_ne hx hb hd hv (fun q => hK _ _ _ _ (h1.2 q) p e s m args below meth c H locs ls hx hb hml hr hk hown hts hW hP hS hl) (fun q => hK _ _ _ _ (h1.1 q) p e s m args below meth c H locs ls hx hb hml hr hk hown hts hW hP hS hl)
  | lt => exact lv_if_lt hx hb hd hv (fun q => hK _ _ _ _ (h1.1 q) p e s m args below meth c H locs ls hx hb hml hr hk hown hts hW hP hS hl) (fun q => hK _ _ _ _ (h1.2 q) p e s m args below meth c H locs ls hx hb hml hr hk hown hts hW hP hS hl)
  | ge => exact lv_if_ge hx hb hd hv (fun q => hK _ _ _ _ (h1.1 q) p e s m args below meth c H locs ls hx hb hml hr hk hown hts hW hP hS hl) (fun q => hK _ _ _ _ (h1.2 q) p e s m args below meth c H locs ls hx hb hml hr hk hown hts hW hP hS hl)
  | gt => exact lv_if_gt hx hb hd hv (fun q => hK _ _ _ _ (h1.1 q) p e s m args below meth c H locs ls hx hb hml hr hk hown hts hW hP hS hl) (fun q => hK _ _ _ _ (h1.2 q) p e s m args below meth c H locs ls hx hb hml hr hk hown hts hW hP hS hl)
  | le => exact lv_if_le hx hb hd hv (fun q => hK _ _ _ _ (h1.1 q) p e s m args below meth c H locs ls hx hb hml hr hk hown hts hW hP hS hl) (fun q => hK _ _ _ _ (h1.2 q) p e s m args below meth c H locs ls hx hb hml hr hk hown hts hW hP hS hl)

theorem x_if_icmp {K : KK} (hK : HK G d μ Post K) {cc : ClassFile.Cond} {f : Int} {tg : List Nat} (hv : (pc : Int) + f = ((tg.getD 0 0 : Nat) : Int)) (hd : decode μ.2.2.1 pc = .ok (.if_icmp cc f, 3)) (h : p2 st (fun a b r => bc cc a b (K (tg.getD 0 0) L r M) (K (pc + 3) L r M))) : PX G d μ Post pc L st M := by
  intro p e s m args below meth c H locs ls hx hb hml hr hk hown hts hW hP hS hl
  obtain ⟨a, b, r, rfl, h1⟩ := p2_inv h
  cases cc with
  | eq => exact lv_icmp_eq hx hb hd hv (fun q => hK _ _ _ _ (h1.1 q) p e s m args below meth c H locs ls hx hb hml hr hk hown hts hW hP hS hl) (fun q => hK _ _ _ _ (h1.2 q) p e s m args below meth c H locs ls hx hb hml hr hk hown hts hW hP hS hl)
  | ne => exact lv_icmp_ne hx hb hd hv (fun q => hK _ _ _ _ (h1.2 q) p e s m args below meth c H locs ls hx hb hml hr hk hown hts hW hP hS hl) (fun q => hK _ _ _ _ (h1.1 q) p e s m args below meth c H locs ls hx hb hml hr hk hown hts hW hP hS hl)
  | lt => exact lv_icmp_lt hx hb hd hv (fun q => hK _ _ _ _ (h1.1 q) p e s m args below meth c H locs ls hx hb hml hr hk hown hts hW hP hS hl) (fun q => hK _ _ _ _ (h1.2 q) p e s m args below meth c H locs ls hx hb hml hr hk hown hts hW hP hS hl)
  | ge => exact lv_icmp_ge hx hb hd hv (fun q => hK _ _ _ _ (h1.1 q) p e s m args below meth c H locs ls hx hb hml hr hk hown hts hW hP hS hl) (fun q => hK _ _ _ _ (h1.2 q) p e s m args below meth c H locs ls hx hb hml hr hk hown hts hW hP hS hl)
  | gt => exact lv_icmp_gt hx hb hd hv (fun q => hK _ _ _ _ (h1.1 q) p e s m args below meth c H locs ls hx hb hml hr hk hown hts hW hP hS hl) (fun q => hK _ _ _ _ (h1.2 q) p e s m args below meth c H locs ls hx hb hml hr hk hown hts hW hP hS hl)
  | le => exact lv_icmp_le hx hb hd hv (fun q => hK _ _ _ _ (h1.1 q) p e s m args below meth c H locs ls hx hb hml hr hk hown hts hW hP hS hl) (fun q => hK _ _ _ _ (h1.2 q) p e s m args below meth c H locs ls hx hb hml hr hk hown hts hW hP hS hl)

theorem x_goto {K : KK} (hK : HK G d μ Post K) {f : Int} {tg : List Nat} (hv : (pc : Int) + f = ((tg.getD 0 0 : Nat) : Int)) (hd : decode μ.2.2.1 pc = .ok (.goto f, 3)) (h : K (tg.getD 0 0) L st M) : PX G d μ Post pc L st M := by
  intro p e s m args below meth c H locs ls hx hb hml hr hk hown hts hW hP hS hl
  exact lv_goto hx hb hd hv (hK _ _ _ _ h p e s m args below meth c H locs ls hx hb hml hr hk hown hts hW hP hS hl)
end X1
end
section
theorem fb_asI' (x : Int32) : Int32.ofInt x.toInt = x := by simp
section X2
variable {G : GG} {d : Nat} {μ : Mth} {Post : Option Value → PM → Prop} {pc : Nat} {L : List (Option Value)} {st : List Value} {M : PM}
theorem swt_out {K : Nat → Prop} {a : Int32} {lo hi : Int} {dt : Nat} (ho : a.toInt < lo ∨ hi < a.toInt) : ∀ (n : Int) (ts : List Nat), swt K a lo hi dt n ts → K dt
  | _, [], h => h ho
  | n, _ :: ts, h => swt_out ho (n + 1) ts h.2
theorem swt_in {K : Nat → Prop} {a : Int32} {lo hi : Int} {dt : Nat} : ∀ (n : Int) (ts : List Nat) (j t : Nat), swt K a lo hi dt n ts → a.toInt = n + j → ts[j]? = some t → K t
  | n, t0 :: ts, 0, t, h, ha, ht => by
    cases ht
    refine h.1 ?_
    rw [show n = a.toInt by omega]
    exact (fb_asI' a).symm
  | n, t0 :: ts, j + 1, t, h, ha, ht => swt_in (n + 1) ts j t h.2 (by omega) ht
theorem x_tableswitch {K : KK} (hK : HK G d μ Post K) {df lo hi : Int} {os : Array Int} {ln : Nat} {tg : List Nat} (hv : tg.map (fun t : Nat => (t : Int) - (pc : Int)) = df :: os.toList) (hs : (os.size : Int) = hi - lo + 1) (hd : decode μ.2.2.1 pc = .ok (.tableswitch df lo hi os, ln)) (h : p1 st (fun a r => swt (fun t => K t L r M) a lo hi (tg.getD 0 0) lo tg.tail)) : PX G d μ Post pc L st M := by
  intro p e s m args below meth c H locs ls hx hb hml hr hk hown hts hW hP hS hl
  obtain ⟨a, r, rfl, h1⟩ := p1_inv h
  cases tg with
  | nil => cases hv
  | cons t0 ts =>
    simp only [List.map_cons, List.cons.injEq] at hv
    obtain ⟨e1, e2⟩ := hv
    by_cases ho : a.toInt < lo ∨ hi < a.toInt
    · exact lv_tableOut hx hb hd ho (tgt := t0) (by omega) (hK _ _ _ _ (swt_out ho lo ts h1) p e s m args below meth c H locs ls hx hb hml hr hk hown hts hW hP hS hl)
    · have hlo : ¬ a.toInt < lo := fun q => ho (Or.inl q)
      have hhi : ¬ hi < a.toInt := fun q => ho (Or.inr q)
      have hj : (a.toInt - lo).toNat < os.toList.length := by rw [Array.length_toList]; omega
      have hj2 : (a.toInt - lo).toNat < ts.length := by rw [← e2] at hj; simpa using hj
      have hk1 : ts[(a.toInt - lo).toNat]? = some ts[(a.toInt - lo).toNat] := List.getElem?_eq_getElem hj2
      have ho2 : os[(a.toInt - lo).toNat]? = some ((ts[(a.toInt - lo).toNat] : Int) - (pc : Int)) := by
        rw [← Array.getElem?_toList, ← e2, List.getElem?_map, hk1]; rfl
      exact lv_tableIn hx hb hd hlo hhi ho2 (tgt := ts[(a.toInt - lo).toNat]) (by omega) (hK _ _ _ _ (swt_in lo ts (a.toInt - lo).toNat _ h1 (by omega) hk1) p e s m args below meth c H locs ls hx hb hml hr hk hown hts hW hP hS hl)
theorem tysl_get (cA : Nat → ClassId) {t : Nat} (h : t ≤ 2) : (tysl cA)[t]? = some (cA t, if t = 0 then .int else if t = 1 then .boolean else .long) := by
  match t, h with
  | 0, _ => rfl
  | 1, _ => rfl
  | 2, _ => rfl
  | n + 3, h => omega
theorem fcl_get {ci : Nat} (h : ci < 10) : cls[ci]? = some ((fcl ci).1, (fcl ci).2.1, (fcl ci).2.2) := by
  match ci, h with
  | 0, _ => rfl
  | 1, _ => rfl
  | 2, _ => rfl
  | 3, _ => rfl
  | 4, _ => rfl
  | 5, _ => rfl
  | 6, _ => rfl
  | 7, _ => rfl
  | 8, _ => rfl
  | 9, _ => rfl
  | n + 10, h => omega
/-- slots' kinds and types go together -/
def kty (ci k : Nat) : FieldType := (tyc.getD ci ty0) k
theorem kty_nm : ∀ ci, ci < 10 → ∀ a, a < (fcl ci).2.2 → ∀ b, b < (fcl ci).2.2 → a ≠ b → ((fcl ci).2.1 a).2.1 ≠ ((fcl ci).2.1 b).2.1 := by
  intro ci h
  match ci, h with
  | 0, _ => exact nm0
  | 1, _ => exact nm1
  | 2, _ => exact nm2
  | 3, _ => exact nm3
  | 4, _ => exact nm4
  | 5, _ => exact nm5
  | 6, _ => exact nm6
  | 7, _ => exact nm7
  | 8, _ => exact nm8
  | 9, _ => exact nm9
  | n + 10, h => omega
theorem kty_ok : ∀ ci, ci < 10 → ∀ k, k < (fcl ci).2.2 → parseFieldDescriptor ((fcl ci).2.1 k).2.2.1 = some (kty ci k) := by
  intro ci h
  match ci, h with
  | 0, _ => exact tyok0
  | 1, _ => exact tyok1
  | 2, _ => exact tyok2
  | 3, _ => exact tyok3
  | 4, _ => exact tyok4
  | 5, _ => exact tyok5
  | 6, _ => exact tyok6
  | 7, _ => exact tyok7
  | 8, _ => exact tyok8
  | 9, _ => exact tyok9
  | n + 10, h => omega
def kfit (ci k kd : Nat) : Bool := match kd with
  | 0 => decide (kty ci k = .int)
  | 1 => decide (kty ci k = .long)
  | 3 => decide (kty ci k = .boolean)
  | _ => true
theorem shp_fit : shp.all (fun sh => match sh with | .inl q => decide (q.1 ≤ 2) | .inr q => q.2.zipIdx.all (fun z => kfit q.1 z.2 z.1.1)) = true := by decide +kernel
theorem shp_kd {a ci k kd rp : Nat} {ks : List (Nat × Nat)} (h : shp[a]? = some (.inr (ci, ks))) (hk : ks[k]? = some (kd, rp)) : kfit ci k kd = true := by
  have h1 := List.all_eq_true.mp shp_fit _ (List.mem_of_getElem? h)
  have h2 := List.all_eq_true.mp h1 ((kd, rp), k) (List.mem_of_getElem? (i := k) (by simp [List.getElem?_zipIdx, hk]))
  exact h2
theorem shp_ty {a t n : Nat} (h : shp[a]? = some (.inl (t, n))) : t ≤ 2 := by
  have h1 := List.all_eq_true.mp shp_fit _ (List.mem_of_getElem? h)
  simpa using h1
theorem pfs_get {ad : Nat → Nat} {a k kd rp : Nat} {ks : List (Nat × Nat)} (hk : ks[k]? = some (kd, rp)) : (ks.zipIdx.map (fun p => pfv ad M a p.2 p.1))[k]? = some (pfv ad M a k (kd, rp)) := by
  rw [List.getElem?_map, List.getElem?_zipIdx, hk]
  simp
theorem x_getfield {K : KK} (hK : HK G d μ Post K) {idx : Nat} (hd : decode μ.2.2.1 pc = .ok (.getfield idx, 3)) (h : r1 st (fun a r => match fld μ.1 idx a with | some (_, k, kd, rp) => K (pc + 3) L (pfv pid M a k (kd, rp) :: r) M | none => (match sfl μ.1 idx a with | some v => K (pc + 3) L (v :: r) M | none => False))) (hm : mok μ) : PX G d μ Post pc L st M := by
  intro p e s m args below meth c H locs ls hx hb hml hr hk hown hts hW hP hS hl
  obtain ⟨a, r, rfl, h1⟩ := r1_inv h
  cases hf : fld μ.1 idx a with
  | none =>
    rw [hf] at h1
    cases hz : sfl μ.1 idx a with
    | none => rw [hz] at h1; exact h1.elim
    | some v =>
      rw [hz] at h1
      dsimp only at h1
      have hq : μ.1 = 13 ∧ 210 ≤ a ∧ a ≤ 212 ∧ ((idx = 9 ∧ v = .ref (a + 10)) ∨ (idx = 15 ∧ v = .int 0)) := by
        unfold sfl at hz
        cases hb1 : (Nat.beq μ.1 13 && Nat.ble 210 a && Nat.ble a 212) with
        | false => rw [hb1] at hz; cases hz
        | true =>
          rw [hb1] at hz
          simp only [Bool.and_eq_true] at hb1
          refine ⟨Nat.eq_of_beq_eq_true hb1.1.1, Nat.le_of_ble_eq_true hb1.1.2, Nat.le_of_ble_eq_true hb1.2, ?_⟩
          cases hb2 : Nat.beq idx 9 with
          | true => rw [hb2] at hz; cases hz; exact Or.inl ⟨Nat.eq_of_beq_eq_true hb2, rfl⟩
          | false =>
            rw [hb2] at hz
            cases hb3 : Nat.beq idx 15 with
            | true => rw [hb3] at hz; cases hz; exact Or.inr ⟨Nat.eq_of_beq_eq_true hb3, rfl⟩
            | false => rw [hb3] at hz; cases hz
      obtain ⟨e1, e2, e3, e4⟩ := hq
      have hS7 := hW.2.2.1.2.2.2.2.2.2
      have h3 := (hS7.1 (a - 210) (by omega))
      have z1 : 210 + (a - 210) = a := by omega
      have z2 : 220 + (a - 210) = a + 10 := by omega
      simp only [z1, z2] at h3
      rw [e1] at hown
      rcases e4 with ⟨rfl, rfl⟩ | ⟨rfl, rfl⟩
      · exact vk_getf hx hb h3.2.2.1 hS hown (hts _ sfl_13_9) (fun _ z => z) hd (hK _ _ _ _ (h1) p e s m args below meth c H locs ls hx hb hml hr hk (by rw [e1]; exact hown) hts hW hP hS hl)
      · exact vk_getf hx hb h3.2.1 hS hown (hts _ sfl_13_15) (fun _ z => z) hd (hK _ _ _ _ (h1) p e s m args below meth c H locs ls hx hb hml hr hk (by rw [e1]; exact hown) hts hW hP hS hl)
  | some q =>
    obtain ⟨ci, k, kd, rp⟩ := q
    rw [hf] at h1
    dsimp only at h1
    obtain ⟨ks, hfl, hs, hkk⟩ := fld_inv hf
    have h2 := hK _ _ _ _ h1 p e s m args below meth c H locs ls hx hb hml hr hk hown hts hW hP hS hl
    rw [List.map_cons, cv_pfv] at h2
    exact va_get (D := G.2.1) (ci := ci) (v := pfv G.2.2.2 M a k (kd, rp)) (C := (fcl ci).1) (T := (fcl ci).2.1) (N := (fcl ci).2.2) hx hb hts (lay_ok ci hfl.2.1) hown hW.1 hP a (pws_get hs) (fcl_get hfl.2.1) k hfl.2.2 (hts _ hfl.1) (fun _ z => z) (pfs_get hkk) hd h2
theorem x_putI {K : KK} (hK : HK G d μ Post K) {idx : Nat} {v : Int32} {a ci k kd rp : Nat} {r : List Value} (hd : decode μ.2.2.1 pc = .ok (.putfield idx, 3)) (hf : fld μ.1 idx a = some (ci, k, kd, rp)) (hn : ((fcl ci).2.1 k).2.2.2 = false) (hkd : kd = 0 ∨ (kd = 3 ∧ (v = 0 ∨ v = 1))) (h : K (pc + 3) L r (wI M a k v)) : PX G d μ Post pc L (.int v :: .ref a :: r) M := by
  intro p e s m args below meth c H locs ls hx hb hml hr hk hown hts hW hP hS hl
  obtain ⟨ks, hfl, hs, hkk⟩ := fld_inv hf
  have hfit := shp_kd hs hkk
  have hlen : k < ks.length := (List.getElem?_eq_some_iff.mp hkk).1
  have hnf : narrow (kty ci k) (.int v) = .int v ∧ fits (kty ci k) (.int v) = true := by
    rcases hkd with rfl | ⟨rfl, h01⟩
    · have e0 : kty ci k = .int := by simpa [kfit] using hfit
      rw [e0]; exact ⟨rfl, rfl⟩
    · have e0 : kty ci k = .boolean := by simpa [kfit] using hfit
      rw [e0]
      rcases h01 with rfl | rfl
      · exact ⟨by decide, by decide⟩
      · exact ⟨by decide, by decide⟩
  refine va_put (D := G.2.1) (ci := ci) (v := .int v) (ty := kty ci k) (C := (fcl ci).1) (T := (fcl ci).2.1) (N := (fcl ci).2.2) hx hb hts (lay_ok ci hfl.2.1) (kty ci) (kty_ok ci hfl.2.1) (kty_nm ci hfl.2.1) hown hW.1 hP (pws_D hW.2.1) hS a (pws_get hs) (fcl_get hfl.2.1) k hfl.2.2 (hts _ hfl.1) (fun _ z => z) hn (kty_ok ci hfl.2.1 k hfl.2.2) hnf.1 hnf.2 (by simpa using hlen) hd (fun H1 locs1 hP1 hD1 hS1 => ?_)
  rw [pws_set hs (M' := wI M a k v) wI_ne] at hP1
  · exact hK _ _ _ _ h p e s m args below meth c H1 locs1 ls hx hb hml hr hk hown hts hW hP1 hS1 hl
  · simp only [pce]
    congr 2
    apply List.ext_getElem?
    intro j
    rw [List.getElem?_set, List.getElem?_map, List.getElem?_map, List.getElem?_zipIdx]
    by_cases hj : k = j
    · subst hj
      rw [if_pos rfl, if_pos (by simpa using hlen), hkk]
      rcases hkd with rfl | ⟨rfl, h01⟩ <;> simp [pfv, wI, va_up, upd]
    · rw [if_neg hj]
      cases ks[j]? with
      | none => rfl
      | some z =>
        have hj2 : ¬ j = k := fun q => hj q.symm
        simp [pfv, wI, va_up, upd, hj2]
theorem x_putL {K : KK} (hK : HK G d μ Post K) {idx : Nat} {v : Int64} {a ci k rp : Nat} {r : List Value} (hd : decode μ.2.2.1 pc = .ok (.putfield idx, 3)) (hf : fld μ.1 idx a = some (ci, k, 1, rp)) (hn : ((fcl ci).2.1 k).2.2.2 = false) (h : K (pc + 3) L r (wL M a k v)) : PX G d μ Post pc L (.long v :: .ref a :: r) M := by
  intro p e s m args below meth c H locs ls hx hb hml hr hk hown hts hW hP hS hl
  obtain ⟨ks, hfl, hs, hkk⟩ := fld_inv hf
  have hfit := shp_kd hs hkk
  have hlen : k < ks.length := (List.getElem?_eq_some_iff.mp hkk).1
  have e0 : kty ci k = .long := by simpa [kfit] using hfit
  refine va_put (D := G.2.1) (ci := ci) (v := .long v) (ty := kty ci k) (C := (fcl ci).1) (T := (fcl ci).2.1) (N := (fcl ci).2.2) hx hb hts (lay_ok ci hfl.2.1) (kty ci) (kty_ok ci hfl.2.1) (kty_nm ci hfl.2.1) hown hW.1 hP (pws_D hW.2.1) hS a (pws_get hs) (fcl_get hfl.2.1) k hfl.2.2 (hts _ hfl.1) (fun _ z => z) hn (kty_ok ci hfl.2.1 k hfl.2.2) (by rw [e0]; rfl) (by rw [e0]; rfl) (by simpa using hlen) hd (fun H1 locs1 hP1 hD1 hS1 => ?_)
  rw [pws_set hs (M' := wL M a k v) wL_ne] at hP1
  · exact hK _ _ _ _ h p e s m args below meth c H1 locs1 ls hx hb hml hr hk hown hts hW hP1 hS1 hl
  · simp only [pce]
    congr 2
    apply List.ext_getElem?
    intro j
    rw [List.getElem?_set, List.getElem?_map, List.getElem?_map, List.getElem?_zipIdx]
    by_cases hj : k = j
    · subst hj
      rw [if_pos rfl, if_pos (by simpa using hlen), hkk]
      simp [pfv, wL, va_up, vp_updL]
    · rw [if_neg hj]
      cases ks[j]? with
      | none => rfl
      | some z =>
        have hj2 : ¬ j = k := fun q => hj q.symm
        simp [pfv, wL, va_up, vp_updL, hj2]
end X2
end
section
section X3
variable {G : GG} {d : Nat} {μ : Mth} {Post : Option Value → PM → Prop} {pc : Nat} {L : List (Option Value)} {st : List Value} {M : PM}
theorem allv_mem {f : Value → Prop} : ∀ {vs : List Value}, allv f vs → ∀ v ∈ vs, f v
  | [], _, v, hv => by cases hv
  | [w], h, v, hv => by rw [List.mem_singleton.mp hv]; exact h
  | w :: x :: r, h, v, hv => by
    rcases List.mem_cons.mp hv with rfl | hv
    · exact h.1
    · exact allv_mem h.2 v hv
theorem x_getstatic {K : KK} (hK : HK G d μ Post K) {idx : Nat} (hd : decode μ.2.2.1 pc = .ok (.getstatic idx, 3)) (h : match gst μ.1 idx with | some vs => allv (fun v => K (pc + 3) L (v :: st) M) vs | none => False) : PX G d μ Post pc L st M := by
  intro p e s m args below meth c H locs ls hx hb hml hr hk hown hts hW hP hS hl
  cases hg : gst μ.1 idx with
  | none => rw [hg] at h; exact h.elim
  | some vs =>
    rw [hg] at h
    have h := allv_mem h
    have hZ := hW.2.2.1
    unfold gst at hg
    cases h8 : Nat.beq μ.1 8 with
    | true =>
      rw [h8] at hg
      have e8 := Nat.eq_of_beq_eq_true h8
      have hown2 := hown
      rw [e8] at hown2
      cases h1 : Nat.beq idx 322 with
      | true =>
        rw [h1] at hg; cases hg
        have e1 := Nat.eq_of_beq_eq_true h1
        subst e1
        exact va_gets hx hb hZ.2.2.1 hS hown2 (hts _ sfl_8_322) (fun _ z => z) hd (hK _ _ _ _ (h (.ref 201) (by simp)) p e s m args below meth c H locs ls hx hb hml hr hk hown hts hW hP hS hl)
      | false =>
        rw [h1] at hg
        cases h2 : Nat.beq idx 325 with
        | true =>
          rw [h2] at hg; cases hg
          have e1 := Nat.eq_of_beq_eq_true h2
          subst e1
          exact va_gets hx hb hZ.1 hS hown2 (hts _ sfl_8_325) (fun _ z => z) hd (hK _ _ _ _ (h (.ref 200) (by simp)) p e s m args below meth c H locs ls hx hb hml hr hk hown hts hW hP hS hl)
        | false => rw [h2] at hg; cases hg
    | false =>
      rw [h8] at hg
      cases h13 : Nat.beq μ.1 13 with
      | false => rw [h13] at hg; cases hg
      | true =>
        rw [h13] at hg
        have e13 := Nat.eq_of_beq_eq_true h13
        have hown2 := hown
        rw [e13] at hown2
        cases h1 : Nat.beq idx 38 with
        | true =>
          rw [h1] at hg; cases hg
          have e1 := Nat.eq_of_beq_eq_true h1
          subst e1
          exact va_gets hx hb hZ.2.2.2.2.1 hS hown2 (hts _ sfl_13_38) (fun _ z => z) hd (hK _ _ _ _ (h (.int 1) (by simp)) p e s m args below meth c H locs ls hx hb hml hr hk hown hts hW hP hS hl)
        | false =>
          rw [h1] at hg
          cases h2 : Nat.beq idx 1053 with
          | true =>
            rw [h2] at hg; cases hg
            have e1 := Nat.eq_of_beq_eq_true h2
            subst e1
            rcases hZ.2.2.2.2.2.1 with z | z
            · exact va_gets hx hb z hS hown2 (hts _ sfl_13_1053) (fun _ z => z) hd (hK _ _ _ _ (h .null (by simp)) p e s m args below meth c H locs ls hx hb hml hr hk hown hts hW hP hS hl)
            · exact va_gets hx hb z hS hown2 (hts _ sfl_13_1053) (fun _ z => z) hd (hK _ _ _ _ (h (.ref 230) (by simp)) p e s m args below meth c H locs ls hx hb hml hr hk hown hts hW hP hS hl)
          | false => rw [h2] at hg; cases hg
theorem pws_arr {ad : Nat → Nat} {cA : Nat → ClassId} {a t n : Nat} (h : shp[a]? = some (.inl (t, n))) (ht : ¬ t = 2) : (pws ad cA M)[a]? = some (ad a, .inl (cA t, n, .inl (M.1 a))) := by
  rw [pws_get h]; simp [pce, ht]
theorem pws_arrL {ad : Nat → Nat} {cA : Nat → ClassId} {a n : Nat} (h : shp[a]? = some (.inl (2, n))) : (pws ad cA M)[a]? = some (ad a, .inl (cA 2, n, .inr (.inl (M.2 a)))) := by
  rw [pws_get h]; rfl
theorem x_iaload {K : KK} (hK : HK G d μ Post K) (hd : decode μ.2.2.1 pc = .ok (.iaload, 1)) (h : p1 st (fun i st1 => r1 st1 (fun a r => match shp[a]? with
    | some (.inl (t, n)) => gd (Nat.beq t 0) (vp_in i n ∧ K (pc + 1) L (.int (M.1 a i.toNatClampNeg) :: r) M)
    | _ => (match cti a with | some l => vp_in i 6 ∧ K (pc + 1) L (.int (l.getD i.toNatClampNeg 0) :: r) M | none => False)))) : PX G d μ Post pc L st M := by
  intro p e s m args below meth c H locs ls hx hb hml hr hk hown hts hW hP hS hl
  obtain ⟨i, st1, rfl, hA⟩ := p1_inv h
  obtain ⟨a, r, rfl, hB⟩ := r1_inv hA
  have key : ∀ (l : List Int32), cti a = some l → vp_in i 6 ∧ K (pc + 1) L (.int (l.getD i.toNatClampNeg 0) :: r) M → W p G.1 e (rmd (d + 1)) s m args below meth c H locs 0 0 (MQ below (Qp G Post) args s 0 0 (AA G.2.2.2)) (F0 m pc ls ((.int i :: .ref a :: r).map (cv G.2.2.2))) := by
    intro l hc ⟨h1, h2⟩
    have hZ := hW.2.2.1
    unfold cti at hc
    cases e1 : Nat.beq a 200 with
    | true =>
      rw [e1] at hc; cases hc
      have e2 := Nat.eq_of_beq_eq_true e1
      subst e2
      exact va_ti hx hb hZ.2.1 hS h1 rfl hd (hK _ _ _ _ (h2) p e s m args below meth c H locs ls hx hb hml hr hk hown hts hW hP hS hl)
    | false =>
      rw [e1] at hc
      cases e3 : Nat.beq a 201 with
      | true =>
        rw [e3] at hc; cases hc
        have e2 := Nat.eq_of_beq_eq_true e3
        subst e2
        exact va_ti hx hb hZ.2.2.2.1 hS h1 rfl hd (hK _ _ _ _ (h2) p e s m args below meth c H locs ls hx hb hml hr hk hown hts hW hP hS hl)
      | false => rw [e3] at hc; cases hc
  cases hs : shp[a]? with
  | none =>
    rw [hs] at hB
    cases hc : cti a with
    | none => rw [hc] at hB; exact hB.elim
    | some l => rw [hc] at hB; exact key l hc hB
  | some sh =>
    cases sh with
    | inr z =>
      rw [hs] at hB
      cases hc : cti a with
      | none => rw [hc] at hB; exact hB.elim
      | some l => rw [hc] at hB; exact key l hc hB
    | inl z =>
      obtain ⟨t, n⟩ := z
      rw [hs] at hB
      obtain ⟨e0, h1, h2⟩ := gd_inv hB
      have e0 := Nat.eq_of_beq_eq_true e0
      subst e0
      exact va_iald hx hb hW.1 hP a 0 (pws_arr hs (by decide)) rfl h1 hd (hK _ _ _ _ (h2) p e s m args below meth c H locs ls hx hb hml hr hk hown hts hW hP hS hl)
theorem x_baload {K : KK} (hK : HK G d μ Post K) (hd : decode μ.2.2.1 pc = .ok (.baload, 1)) (h : p1 st (fun i st1 => r1 st1 (fun a r => match shp[a]? with
    | some (.inl (t, n)) => gd (Nat.beq t 1) (vp_in i n ∧ K (pc + 1) L (.int (M.1 a i.toNatClampNeg) :: r) M)
    | _ => gd (Nat.ble 220 a && Nat.ble a 222) (vp_in i 5 ∧ K (pc + 1) L (.int ((ctB.getD (a - 220) []).getD i.toNatClampNeg 0) :: r) M)))) : PX G d μ Post pc L st M := by
  intro p e s m args below meth c H locs ls hx hb hml hr hk hown hts hW hP hS hl
  obtain ⟨i, st1, rfl, hA⟩ := p1_inv h
  obtain ⟨a, r, rfl, hB⟩ := r1_inv hA
  have key : gd (Nat.ble 220 a && Nat.ble a 222) (vp_in i 5 ∧ K (pc + 1) L (.int ((ctB.getD (a - 220) []).getD i.toNatClampNeg 0) :: r) M) → W p G.1 e (rmd (d + 1)) s m args below meth c H locs 0 0 (MQ below (Qp G Post) args s 0 0 (AA G.2.2.2)) (F0 m pc ls ((.int i :: .ref a :: r).map (cv G.2.2.2))) := by
    intro h
    obtain ⟨h0, h1, h2⟩ := gd_inv h
    simp only [Bool.and_eq_true] at h0
    have a1 := Nat.le_of_ble_eq_true h0.1
    have a2 := Nat.le_of_ble_eq_true h0.2
    have hS7 := hW.2.2.1.2.2.2.2.2.2
    have h3 := (hS7.1 (a - 220) (by omega)).2.2.2
    have z2 : 220 + (a - 220) = a := by omega
    have z3 : ([5, 5, 5] : List Nat).getD (a - 220) 0 = 5 := by
      have : a - 220 = 0 ∨ a - 220 = 1 ∨ a - 220 = 2 := by omega
      rcases this with q | q | q <;> rw [q] <;> rfl
    simp only [z2, z3] at h3
    exact va_tb hx hb h3 hS h1 rfl hd (hK _ _ _ _ (h2) p e s m args below meth c H locs ls hx hb hml hr hk hown hts hW hP hS hl)
  cases hs : shp[a]? with
  | none => rw [hs] at hB; exact key hB
  | some sh =>
    cases sh with
    | inr z => rw [hs] at hB; exact key hB
    | inl z =>
      obtain ⟨t, n⟩ := z
      rw [hs] at hB
      obtain ⟨e0, h1, h2⟩ := gd_inv hB
      have e0 := Nat.eq_of_beq_eq_true e0
      subst e0
      exact va_zald hx hb hW.1 hP a 1 (pws_arr hs (by decide)) rfl h1 hd (hK _ _ _ _ (h2) p e s m args below meth c H locs ls hx hb hml hr hk hown hts hW hP hS hl)
theorem x_laload {K : KK} (hK : HK G d μ Post K) (hd : decode μ.2.2.1 pc = .ok (.laload, 1)) (h : p1 st (fun i st1 => r1 st1 (fun a r => match shp[a]? with
    | some (.inl (t, n)) => gd (Nat.beq t 2) (vp_in i n ∧ K (pc + 1) L (.long (M.2 a i.toNatClampNeg) :: r) M)
    | _ => False))) : PX G d μ Post pc L st M := by
  intro p e s m args below meth c H locs ls hx hb hml hr hk hown hts hW hP hS hl
  obtain ⟨i, st1, rfl, hA⟩ := p1_inv h
  obtain ⟨a, r, rfl, hB⟩ := r1_inv hA
  cases hs : shp[a]? with
  | none => rw [hs] at hB; exact hB.elim
  | some sh =>
    cases sh with
    | inr z => rw [hs] at hB; exact hB.elim
    | inl z =>
      obtain ⟨t, n⟩ := z
      rw [hs] at hB
      obtain ⟨e0, h1, h2⟩ := gd_inv hB
      have e0 := Nat.eq_of_beq_eq_true e0
      subst e0
      exact va_lald hx hb hW.1 hP a 2 (pws_arrL hs) rfl h1 hd (hK _ _ _ _ (h2) p e s m args below meth c H locs ls hx hb hml hr hk hown hts hW hP hS hl)
theorem x_iastore {K : KK} (hK : HK G d μ Post K) (hd : decode μ.2.2.1 pc = .ok (.iastore, 1)) (h : p2 st (fun i v st1 => r1 st1 (fun a r => match shp[a]? with
    | some (.inl (t, n)) => gd (Nat.beq t 0) (vp_in i n ∧ K (pc + 1) L r (wI M a i.toNatClampNeg v))
    | _ => False))) : PX G d μ Post pc L st M := by
  intro p e s m args below meth c H locs ls hx hb hml hr hk hown hts hW hP hS hl
  obtain ⟨i, v, st1, rfl, hA⟩ := p2_inv h
  obtain ⟨a, r, rfl, hB⟩ := r1_inv hA
  cases hs : shp[a]? with
  | none => rw [hs] at hB; exact hB.elim
  | some sh =>
    cases sh with
    | inr z => rw [hs] at hB; exact hB.elim
    | inl z =>
      obtain ⟨t, n⟩ := z
      rw [hs] at hB
      obtain ⟨e0, h1, h2⟩ := gd_inv hB
      have e0 := Nat.eq_of_beq_eq_true e0
      subst e0
      refine va_iast hx hb hW.1 hP (pws_D hW.2.1) hS a 0 (pws_arr hs (by decide)) rfl h1 hd (fun H1 locs1 hP1 hD1 hS1 => ?_)
      rw [pws_set hs (M' := wI M a i.toNatClampNeg v) wI_ne (by simp [pce, wI, va_up])] at hP1
      exact hK _ _ _ _ h2 p e s m args below meth c H1 locs1 ls hx hb hml hr hk hown hts hW hP1 hS1 hl
theorem x_bastore {K : KK} (hK : HK G d μ Post K) (hd : decode μ.2.2.1 pc = .ok (.bastore, 1)) (h : p2 st (fun i v st1 => r1 st1 (fun a r => match shp[a]? with
    | some (.inl (t, n)) => gd (Nat.beq t 1) (vp_in i n ∧ (v = 0 ∨ v = 1) ∧ K (pc + 1) L r (wI M a i.toNatClampNeg v))
    | _ => False))) : PX G d μ Post pc L st M := by
  intro p e s m args below meth c H locs ls hx hb hml hr hk hown hts hW hP hS hl
  obtain ⟨i, v, st1, rfl, hA⟩ := p2_inv h
  obtain ⟨a, r, rfl, hB⟩ := r1_inv hA
  cases hs : shp[a]? with
  | none => rw [hs] at hB; exact hB.elim
  | some sh =>
    cases sh with
    | inr z => rw [hs] at hB; exact hB.elim
    | inl z =>
      obtain ⟨t, n⟩ := z
      rw [hs] at hB
      obtain ⟨e0, h1, h3, h2⟩ := gd_inv hB
      have e0 := Nat.eq_of_beq_eq_true e0
      subst e0
      refine va_zast hx hb hW.1 hP (pws_D hW.2.1) hS a 1 (pws_arr hs (by decide)) rfl h1 hd (fun H1 locs1 hP1 hD1 hS1 => ?_)
      have hv : vp_nar .boolean v = v := by rcases h3 with rfl | rfl <;> decide
      rw [hv, pws_set hs (M' := wI M a i.toNatClampNeg v) wI_ne (by simp [pce, wI, va_up])] at hP1
      exact hK _ _ _ _ h2 p e s m args below meth c H1 locs1 ls hx hb hml hr hk hown hts hW hP1 hS1 hl
theorem x_lastore {K : KK} (hK : HK G d μ Post K) (hd : decode μ.2.2.1 pc = .ok (.lastore, 1)) (h : q1 st (fun v st0 => p1 st0 (fun i st1 => r1 st1 (fun a r => match shp[a]? with
    | some (.inl (t, n)) => gd (Nat.beq t 2) (vp_in i n ∧ K (pc + 1) L r (wL M a i.toNatClampNeg v))
    | _ => False)))) : PX G d μ Post pc L st M := by
  intro p e s m args below meth c H locs ls hx hb hml hr hk hown hts hW hP hS hl
  obtain ⟨v, st0, rfl, hA⟩ := q1_inv h
  obtain ⟨i, st1, rfl, hB⟩ := p1_inv hA
  obtain ⟨a, r, rfl, hC⟩ := r1_inv hB
  cases hs : shp[a]? with
  | none => rw [hs] at hC; exact hC.elim
  | some sh =>
    cases sh with
    | inr z => rw [hs] at hC; exact hC.elim
    | inl z =>
      obtain ⟨t, n⟩ := z
      rw [hs] at hC
      obtain ⟨e0, h1, h2⟩ := gd_inv hC
      have e0 := Nat.eq_of_beq_eq_true e0
      subst e0
      refine va_last hx hb hW.1 hP (pws_D hW.2.1) hS a 2 (pws_arrL hs) rfl h1 hd (fun H1 locs1 hP1 hD1 hS1 => ?_)
      rw [pws_set hs (M' := wL M a i.toNatClampNeg v) wL_ne (by simp [pce, wL, va_up])] at hP1
      exact hK _ _ _ _ h2 p e s m args below meth c H1 locs1 ls hx hb hml hr hk hown hts hW hP1 hS1 hl
theorem x_arraylength {K : KK} (hK : HK G d μ Post K) (hd : decode μ.2.2.1 pc = .ok (.arraylength, 1)) (h : r1 st (fun a r => match shp[a]? with
    | some (.inl (t, n)) => gd (Nat.ble t 2) (K (pc + 1) L (.int (Int32.ofNat n) :: r) M)
    | _ => gd (Nat.ble 220 a && Nat.ble a 222) (K (pc + 1) L (.int 5 :: r) M))) : PX G d μ Post pc L st M := by
  intro p e s m args below meth c H locs ls hx hb hml hr hk hown hts hW hP hS hl
  obtain ⟨a, r, rfl, hA⟩ := r1_inv h
  have key : gd (Nat.ble 220 a && Nat.ble a 222) (K (pc + 1) L (.int 5 :: r) M) → W p G.1 e (rmd (d + 1)) s m args below meth c H locs 0 0 (MQ below (Qp G Post) args s 0 0 (AA G.2.2.2)) (F0 m pc ls ((.ref a :: r).map (cv G.2.2.2))) := by
    intro h
    obtain ⟨h0, h2⟩ := gd_inv h
    simp only [Bool.and_eq_true] at h0
    have a1 := Nat.le_of_ble_eq_true h0.1
    have a2 := Nat.le_of_ble_eq_true h0.2
    have hS7 := hW.2.2.1.2.2.2.2.2.2
    have h3 := (hS7.1 (a - 220) (by omega)).2.2.2
    have z2 : 220 + (a - 220) = a := by omega
    have z3 : ([5, 5, 5] : List Nat).getD (a - 220) 0 = 5 := by
      have : a - 220 = 0 ∨ a - 220 = 1 ∨ a - 220 = 2 := by omega
      rcases this with q | q | q <;> rw [q] <;> rfl
    simp only [z2, z3] at h3
    exact va_tlen hx hb h3 hS rfl hd (hK _ _ _ _ (h2) p e s m args below meth c H locs ls hx hb hml hr hk hown hts hW hP hS hl)
  cases hs : shp[a]? with
  | none => rw [hs] at hA; exact key hA
  | some sh =>
    cases sh with
    | inr z => rw [hs] at hA; exact key hA
    | inl z =>
      obtain ⟨t, n⟩ := z
      rw [hs] at hA
      obtain ⟨e0, h2⟩ := gd_inv hA
      have e0 := Nat.le_of_ble_eq_true e0
      have h4 := hK _ _ _ _ h2 p e s m args below meth c H locs ls hx hb hml hr hk hown hts hW hP hS hl
      by_cases ht : t = 2
      · subst ht
        exact va_alen hx hb hW.1 hP a 2 (pws_arrL hs) (tysl_get G.2.2.1 (by decide)) rfl hd h4
      · exact va_alen hx hb hW.1 hP a t (pws_arr hs ht) (tysl_get G.2.2.1 e0) rfl hd h4
theorem x_ldc {K : KK} (hK : HK G d μ Post K) {idx : Nat} (hd : decode μ.2.2.1 pc = .ok (.ldc idx, 2)) (h : match kci μ.1 idx with
    | some v => K (pc + 2) L (.int v :: st) M
    | none => gd (Nat.beq μ.1 6) (bif Nat.beq idx 98 then K (pc + 2) L (.ref 210 :: st) M else bif Nat.beq idx 104 then K (pc + 2) L (.ref 211 :: st) M else bif Nat.beq idx 106 then K (pc + 2) L (.ref 212 :: st) M else False)) : PX G d μ Post pc L st M := by
  intro p e s m args below meth c H locs ls hx hb hml hr hk hown hts hW hP hS hl
  cases hc : kci μ.1 idx with
  | some v =>
    rw [hc] at h
    exact lv_ldc hx hb hown (hts _ (kci_ok hc)) hd (hK _ _ _ _ (h) p e s m args below meth c H locs ls hx hb hml hr hk hown hts hW hP hS hl)
  | none =>
    rw [hc] at h
    obtain ⟨e6, hA⟩ := gd_inv h
    have e6 := Nat.eq_of_beq_eq_true e6
    have hown2 := hown
    rw [e6] at hown2
    have hV := hW.2.2.2
    cases h1 : Nat.beq idx 98 with
    | true =>
      rw [h1] at hA
      have e1 := Nat.eq_of_beq_eq_true h1
      subst e1
      exact va_ldcS hx hb hown2 hV.1 hd (hK _ _ _ _ (hA) p e s m args below meth c H locs ls hx hb hml hr hk hown hts hW hP hS hl)
    | false =>
      rw [h1] at hA
      cases h2 : Nat.beq idx 104 with
      | true =>
        rw [h2] at hA
        have e1 := Nat.eq_of_beq_eq_true h2
        subst e1
        exact va_ldcS hx hb hown2 hV.2.1 hd (hK _ _ _ _ (hA) p e s m args below meth c H locs ls hx hb hml hr hk hown hts hW hP hS hl)
      | false =>
        rw [h2] at hA
        cases h3 : Nat.beq idx 106 with
        | true =>
          rw [h3] at hA
          have e1 := Nat.eq_of_beq_eq_true h3
          subst e1
          exact va_ldcS hx hb hown2 hV.2.2.1 hd (hK _ _ _ _ (hA) p e s m args below meth c H locs ls hx hb hml hr hk hown hts hW hP hS hl)
        | false => rw [h3] at hA; exact hA.elim
theorem x_ldc_w {K : KK} (hK : HK G d μ Post K) {idx : Nat} (hd : decode μ.2.2.1 pc = .ok (.ldc_w idx, 3)) (h : match kci μ.1 idx with | some v => K (pc + 3) L (.int v :: st) M | none => False) : PX G d μ Post pc L st M := by
  intro p e s m args below meth c H locs ls hx hb hml hr hk hown hts hW hP hS hl
  cases hc : kci μ.1 idx with
  | some v =>
    rw [hc] at h
    exact lv_ldcw hx hb hown (hts _ (kci_ok hc)) hd (hK _ _ _ _ (h) p e s m args below meth c H locs ls hx hb hml hr hk hown hts hW hP hS hl)
  | none => rw [hc] at h; exact h.elim
theorem x_ldc2_w {K : KK} (hK : HK G d μ Post K) {idx : Nat} (hd : decode μ.2.2.1 pc = .ok (.ldc2_w idx, 3)) (h : match kcl μ.1 idx with | some v => K (pc + 3) L (.long v :: st) M | none => False) : PX G d μ Post pc L st M := by
  intro p e s m args below meth c H locs ls hx hb hml hr hk hown hts hW hP hS hl
  cases hc : kcl μ.1 idx with
  | some v =>
    rw [hc] at h
    exact lv_ldc2 hx hb hown (hts _ (kcl_ok hc)) hd (hK _ _ _ _ (h) p e s m args below meth c H locs ls hx hb hml hr hk hown hts hW hP hS hl)
  | none => rw [hc] at h; exact h.elim
/-- an answer -/
theorem Qp.ret {G : GG} {Post : Option Value → PM → Prop} {as : Array Value} {s t : State} {H : Heap} {locs : List Loc} {v : Option Value} {M : PM} (hp : Post v M) (hP : va_P G.2.1 cls (pws G.2.2.2 G.2.2.1 M) H) (hS : va_S (AA G.2.2.2) s.heap H locs) (ht : t.heap = H) : Qp G Post as s (.returned (v.map (cv G.2.2.2))) t :=
  ⟨⟨v, M, rfl, hp, by rw [ht]; exact hP⟩, hS.F ht⟩
theorem x_ireturn (hd : decode μ.2.2.1 pc = .ok (.ireturn, 1)) (h : match st with | [.int v] => ret1 μ.2.2.2.2.1 v (Post (some (.int v)) M) | _ => False) : PX G d μ Post pc L st M := by
  intro p e s m args below meth c H locs ls hx hb hml hr hk hown hts hW hP hS hl
  split at h
  · rename_i v
    cases hq : μ.2.2.2.2.1 with
    | none => rw [hq] at h; exact h.elim
    | some ty =>
      rw [hq] at h hr
      have h1 : narrow ty (.int v) = .int v ∧ Post (some (.int v)) M := by
        cases ty with
        | int => exact ⟨rfl, h⟩
        | boolean => refine ⟨?_, h.2⟩; rcases h.1 with rfl | rfl <;> decide
        | byte => exact h
        | char => exact h
        | double => exact h
        | float => exact h
        | long => exact h
        | short => exact h
        | object _ => exact h
        | array _ => exact h
      exact W.zret hx hb hr h1.1 (fun t ht hw => Qp.ret h1.2 hP hS ht) hS.2.2 hd (hlocks := hk)
  · exact h.elim
theorem x_lreturn (hd : decode μ.2.2.1 pc = .ok (.lreturn, 1)) (h : match st with | [.long v] => gd (decide (μ.2.2.2.2.1 = some .long)) (Post (some (.long v)) M) | _ => False) : PX G d μ Post pc L st M := by
  intro p e s m args below meth c H locs ls hx hb hml hr hk hown hts hW hP hS hl
  split at h
  · rename_i v
    obtain ⟨h0, h1⟩ := gd_inv h
    rw [of_decide_eq_true h0] at hr
    exact W.lret hx hb hr (fun t ht hw => Qp.ret h1 hP hS ht) hS.2.2 hd (hlocks := hk)
  · exact h.elim
theorem x_areturn (hd : decode μ.2.2.1 pc = .ok (.areturn, 1)) (h : match st with | [.ref v] => (match μ.2.2.2.2.1 with | some (.object _) => Post (some (.ref v)) M | _ => False) | _ => False) : PX G d μ Post pc L st M := by
  intro p e s m args below meth c H locs ls hx hb hml hr hk hown hts hW hP hS hl
  split at h
  · rename_i v
    split at h
    · rename_i nm hq
      rw [hq] at hr
      exact W.aret hx hb hr (Or.inl ⟨_, rfl⟩) (Or.inr ⟨_, rfl⟩) (fun t ht hw => Qp.ret h hP hS ht) hS.2.2 hd (hlocks := hk)
    · exact h.elim
  · exact h.elim
theorem x_return (hd : decode μ.2.2.1 pc = .ok (.return_, 1)) (h : match st with | [] => (match μ.2.2.2.2.1 with | none => Post none M | _ => False) | _ => False) : PX G d μ Post pc L st M := by
  intro p e s m args below meth c H locs ls hx hb hml hr hk hown hts hW hP hS hl
  split at h
  · split at h
    · rename_i hq
      rw [hq] at hr
      exact W.vret hx hb hr (fun t ht hw => Qp.ret (v := none) h hP hS ht) hS.2.2 hd (hlocks := hk)
    · exact h.elim
  · exact h.elim
end X3
end
section
theorem shp_ci : shp.all (fun sh => match sh with | .inl _ => true | .inr q => decide (q.1 < 10)) = true := by decide +kernel
theorem nmo_fcl {ci : Nat} (h : ci < 10) : nmo ci = (fcl ci).1 := by
  match ci, h with
  | 0, _ => rfl
  | 1, _ => rfl
  | 2, _ => rfl
  | 3, _ => rfl
  | 4, _ => rfl
  | 5, _ => rfl
  | 6, _ => rfl
  | 7, _ => rfl
  | 8, _ => rfl
  | 9, _ => rfl
  | n + 10, h => omega
section X4
variable {G : GG} {d : Nat} {μ : Mth} {Post : Option Value → PM → Prop} {pc : Nat} {L : List (Option Value)} {st : List Value} {M : PM}
/-- behind a call over the table's world -/
theorem x_back {p : Program} {e : Env} {s : State} {m : MethodId} {args : Array Value} {below : List Frame} {meth : Method} {c : Code} {H : Heap} {locs : List Loc} {ls : Array Slot} {a : Array Value} {st0 rest : List Value} {Q : State → Prop} {P2 : Option Value → PM → Prop}
    (hr : va_Run p G.1 e (rmd (d + 1)) s m args below meth c H locs 0 0 0 0 (F0 m pc ls st0) rest (Qp G P2 a) (AA G.2.2.2)) (hS : va_S (AA G.2.2.2) s.heap H locs)
    (kk : ∀ (v : Option Value) (M2 : PM) (H1 : Heap) (locs1 : List Loc), P2 v M2 → va_P G.2.1 cls (pws G.2.2.2 G.2.2.1 M2) H1 → va_S (AA G.2.2.2) s.heap H1 locs1 → W p G.1 e (rmd (d + 1)) s m args below meth c H1 locs1 0 0 Q (F0 m (pc + 3) ls ((v.map (cv G.2.2.2)).toList ++ rest))) :
    W p G.1 e (rmd (d + 1)) s m args below meth c H locs 0 0 Q (F0 m pc ls st0) := by
  intro T hT X
  obtain ⟨v, st₀, t, T', L, h0, X', hL, e1, e2, ⟨⟨r, M2, hv, hp, hP2⟩, hz, hk⟩, stp⟩ := hr T hT X
  rw [h0] at hz hk
  cases hv
  rw [← e1] at hP2 hz hk
  obtain ⟨t2, a1, b1⟩ := kk r M2 T'.heap (locs ++ L) hp hP2 ⟨Nat.le_trans hS.1 hz, fun q h1 h2 => by rw [hk q (Nat.lt_of_lt_of_le h1 hS.1) h2]; exact hS.2.1 q h1 h2, fun q hq => by
      rcases List.mem_append.mp hq with h | h
      · exact hS.2.2 q h
      · exact hL q h⟩ T' rfl X'
  exact ⟨t2, stp t2 a1, b1⟩
theorem gw_good {w : Cond} (h : w ∈ gw) : (w.onTables && w.keeps) = true ∨ ∃ ty, w = .arrayClass ty := good_of_word (List.mem_filter.mp h).2
theorem gw_in {μ2 : Mth} (hm : mok μ2) : GoodIn gw (mcode μ2 :: gw) := by
  intro w hw
  rcases List.mem_cons.mp hw with rfl | hw
  · exact ⟨hm.1, gw_good hm.1⟩
  · exact ⟨hw, gw_good hw⟩
theorem x_pre {p : Program} {s : State} {H : Heap} {locs : List Loc} {av : List Value} (hW : WK G s) (hP : va_P G.2.1 cls (pws G.2.2.2 G.2.2.1 M) H) (hS : va_S (AA G.2.2.2) s.heap H locs) :
    FrameBlind (va_Pc (av.map (cv G.2.2.2)) (fun U => WK G U ∧ va_P G.2.1 cls (pws G.2.2.2 G.2.2.1 M) U.heap)) ∧ ∀ U : State, U.heap = H → s.WarmedH U.vm → va_Pc (av.map (cv G.2.2.2)) (fun U => WK G U ∧ va_P G.2.1 cls (pws G.2.2.2 G.2.2.1 M) U.heap) (av.map (cv G.2.2.2)).toArray U := by
  refine ⟨fun a U g mk h => ⟨h.1, h.2.1.blind, h.2.2⟩, fun U hU hw => ⟨rfl, hW.move hw (fun a h1 h2 => by rw [hU]; exact hS.2.1 a h1 h2), by rw [hU]; exact hP⟩⟩
theorem csum_cv (ad : Nat → Nat) : ∀ st : List Value, ((st.map (cv ad)).map fun v => v.category).sum = csum st
  | [] => rfl
  | v :: r => by
    have := csum_cv ad r
    simp only [csum, List.map_cons, List.sum_cons, cv_cat] at this ⊢
    omega
theorem x_calledB {p : Program} {s : State} {args : Array Value} {own : String} {idx : Nat} {μ2 : Mth} (hts : ∀ w ∈ gw, w.before args s = true) (hm : mok μ2) (hl : (Cond.methodLink own idx μ2.2.1).before args s = true) : CallB (rmd (d + 1)) s args own idx μ2.2.1 μ2.2.2.1 μ2.2.2.2.1 μ2.2.2.2.2.1 (mcode μ2 :: gw) (rmd d) 0 0 μ2.2.2.2.2.2.2 :=
  callB_of μ2.2.2.2.2.2.2 hts (gw_in hm) rfl rfl rfl (hts _ hm.2.1) hl hm.2.2.2.1 ⟨Nat.le_refl _, by have := hm.2.2.2.2.1; show 8 + (μ2.2.2.2.1 + 11) + 64 * d ≤ 64 * (d + 1); omega⟩
theorem x_invokevirtual {K : KK} (hK : HK G d μ Post K) {idx : Nat} (hd : decode μ.2.2.1 pc = .ok (.invokevirtual idx, 3)) (h : match callee μ.1 idx with
    | some (μ2, kd) => gd (Nat.beq kd 0) (gd (!μ2.2.2.2.2.2.1) (r1 (st.drop μ2.2.2.2.2.2.2) (fun a r => gd (Nat.ble (csum r) 8 && recv a μ2.1) (PC G d μ2 (.ref a :: (st.take μ2.2.2.2.2.2.2).reverse) M (rk μ2.2.2.2.2.1 K (pc + 3) L r)))))
    | none => False) : PX G d μ Post pc L st M := by
  intro p e s m args below meth c H locs ls hx hb hml hr hk hown hts hW hP hS hl
  cases hc : callee μ.1 idx with
  | none => rw [hc] at h; exact h.elim
  | some q =>
    obtain ⟨μ2, kd⟩ := q
    rw [hc] at h
    obtain ⟨e0, h1⟩ := gd_inv h
    have e0 := Nat.eq_of_beq_eq_true e0
    subst e0
    obtain ⟨hst, h2⟩ := gd_inv h1
    obtain ⟨a, r, hdr, h3⟩ := r1_inv h2
    obtain ⟨hb8, hm, hM⟩ := gd_inv h3
    simp only [Bool.and_eq_true] at hb8
    have hlink : Cond.methodLink (nmo μ.1) idx μ2.2.1 ∈ gw := callee_ok hc
    have hstat : μ2.2.2.2.2.2.1 = false := by simpa using hst
    have hlast := hm.2.2.2.2.2.2
    rw [if_neg (by rw [hstat]; decide)] at hlast
    have hsplit : st = (st.take μ2.2.2.2.2.2.2) ++ .ref a :: r := by rw [← hdr]; exact (List.take_append_drop _ _).symm
    have hlen : (st.take μ2.2.2.2.2.2.2).length = μ2.2.2.2.2.2.2 := by
      have : (st.drop μ2.2.2.2.2.2.2).length = r.length + 1 := by rw [hdr]; rfl
      rw [List.length_drop] at this
      rw [List.length_take]; omega
    have hrecv : ∃ cellB : Cell, H[G.2.2.2 a]? = some cellB ∧ cellB.vm.isStatics = false ∧ s.vm.findClass μ2.2.1.cls = some cellB.cls := by
      have h4 := hb8.2
      have str : (Nat.beq μ2.1 13 && Nat.ble 210 a && Nat.ble a 212) = true → ∃ cellB : Cell, H[G.2.2.2 a]? = some cellB ∧ cellB.vm.isStatics = false ∧ s.vm.findClass μ2.2.1.cls = some cellB.cls := by
        intro h5
        simp only [Bool.and_eq_true] at h5
        have e13 := Nat.eq_of_beq_eq_true h5.1.1
        have a1 := Nat.le_of_ble_eq_true h5.1.2
        have a2 := Nat.le_of_ble_eq_true h5.2
        have h6 := vk_recv (i := a - 210) hW.2.2.1.2.2.2.2.2.2 (by omega) hS
        have z1 : 210 + (a - 210) = a := by omega
        simp only [z1] at h6
        rw [← hm.2.2.1, e13]
        exact h6
      unfold recv at h4
      cases hs : shp[a]? with
      | none => rw [hs] at h4; exact str h4
      | some sh =>
        cases sh with
        | inl z => rw [hs] at h4; exact str h4
        | inr z =>
          obtain ⟨ci, ks⟩ := z
          rw [hs] at h4
          have e5 : ci = μ2.1 := Nat.eq_of_beq_eq_true h4
          subst e5
          have hci : μ2.1 < 10 := by
            have h7 := List.all_eq_true.mp shp_ci _ (List.mem_of_getElem? hs)
            simpa using h7
          have h8 := va_recv hW.1 hP (fcl_get hci) (pws_get hs)
          rw [← hm.2.2.1, show nmo μ2.1 = (fcl μ2.1).1 from nmo_fcl hci]
          exact h8
    have hpre := x_pre (p := p) (av := .ref a :: (st.take μ2.2.2.2.2.2.2).reverse) hW hP hS
    refine x_back (va_runV (As := ((st.take μ2.2.2.2.2.2.2).reverse).map (cv G.2.2.2)) (rest := r.map (cv G.2.2.2)) (b := G.2.2.2 a) (C := μ2.2.1.cls) (bytes := μ2.2.2.1) (maxL := μ2.2.2.2.1) (ret := μ2.2.2.2.2.1) (n := μ2.2.2.2.2.2.2) (own := nmo μ.1) ⟨hx, hb, hml, hown, hts⟩ hM ⟨x_calledB (p := p) hts hm (hts _ hlink), hts _ hlast.1, hts _ hlast.2⟩ ⟨hpre.1, hrecv, hpre.2⟩ rfl (by rw [List.length_map, List.length_reverse]; exact hlen) hl.1 ?_ ?_ hd ⟨Nat.le_refl _, Nat.le_refl _⟩) hS ?_
    · show st.map (cv G.2.2.2) = _
      rw [← List.map_reverse, List.reverse_reverse]
      conv => lhs; rw [hsplit]
      rw [List.map_append]; rfl
    · show 2 * 0 + _ ≤ 8
      have := Nat.le_of_ble_eq_true hb8.1
      rw [csum_cv]; omega
    · intro v M2 H1 locs1 hp hP1 hS1
      have h9 := hK _ _ _ _ (rk_inv hp) p e s m args below meth c H1 locs1 ls hx hb hml hr hk hown hts hW hP1 hS1 hl
      rw [List.map_append] at h9
      cases v <;> exact h9
theorem x_invokestatic {K : KK} (hK : HK G d μ Post K) {idx : Nat} (hd : decode μ.2.2.1 pc = .ok (.invokestatic idx, 3)) (h : match callee μ.1 idx with
    | some (μ2, kd) => (match kd with
      | 3 => ac5 st (fun a b sp dp n r => gd (Nat.ble (csum r) 8) (ar2 a b (fun n0 n1 => (¬ sp < 0 ∧ ¬ dp < 0 ∧ ¬ n < 0 ∧ sp.toNatClampNeg + n.toNatClampNeg ≤ n0 ∧ dp.toNatClampNeg + n.toNatClampNeg ≤ n1) ∧ K (pc + 3) L r (cpI M b a sp.toNatClampNeg dp.toNatClampNeg n.toNatClampNeg))))
      | 4 => p1 st (fun x r => gd (Nat.ble (csum r) 8) (K (pc + 3) L (.int (if 0 ≤ x then x else 0 - x) :: r) M))
      | 5 => p2 st (fun x y r => gd (Nat.ble (csum r) 8) (K (pc + 3) L (.int (if x < y then y else x) :: r) M))
      | 6 => p2 st (fun x y r => gd (Nat.ble (csum r) 8) (K (pc + 3) L (.int (if y < x then y else x) :: r) M))
      | 0 => False
      | _ => gd (μ2.2.2.2.2.2.1 && Nat.ble μ2.2.2.2.2.2.2 st.length && Nat.ble (csum (st.drop μ2.2.2.2.2.2.2)) 8) (PC G d μ2 ((st.take μ2.2.2.2.2.2.2).reverse) M (rk μ2.2.2.2.2.1 K (pc + 3) L (st.drop μ2.2.2.2.2.2.2))))
    | none => False) (hnest : ∀ μ2, callee μ.1 idx = some (μ2, 2) → (μ.1 = 0 ∧ idx = 45 ∨ μ.1 = 1 ∧ idx = 27) ∧ μ2.2.1 = y_seat) (hkd : ∀ q, callee μ.1 idx = some q → q.2 ≤ 6) : PX G d μ Post pc L st M := by
  intro p e s m args below meth c H locs ls hx hb hml hr hk hown hts hW hP hS hl
  cases hc : callee μ.1 idx with
  | none => rw [hc] at h; exact h.elim
  | some q =>
    obtain ⟨μ2, kd⟩ := q
    rw [hc] at h
    have hok := callee_ok hc
    have hini : Cond.initialized "java/lang/Math" ∈ gw := ini_11
    have plain : ∀ (cw : gd (μ2.2.2.2.2.2.1 && Nat.ble μ2.2.2.2.2.2.2 st.length && Nat.ble (csum (st.drop μ2.2.2.2.2.2.2)) 8) (PC G d μ2 ((st.take μ2.2.2.2.2.2.2).reverse) M (rk μ2.2.2.2.2.1 K (pc + 3) L (st.drop μ2.2.2.2.2.2.2)))), (kd = 1 ∨ kd = 2) → W p G.1 e (rmd (d + 1)) s m args below meth c H locs 0 0 (MQ below (Qp G Post) args s 0 0 (AA G.2.2.2)) (F0 m pc ls (st.map (cv G.2.2.2))) := by
      intro cw h12
      obtain ⟨hb8, hm, hM⟩ := gd_inv cw
      simp only [Bool.and_eq_true] at hb8
      have hlast := hm.2.2.2.2.2.2
      rw [if_pos hb8.1.1] at hlast
      have hlen : (st.take μ2.2.2.2.2.2.2).length = μ2.2.2.2.2.2.2 := by
        have := Nat.le_of_ble_eq_true hb8.1.2
        rw [List.length_take]; omega
      have hpre := x_pre (p := p) (av := (st.take μ2.2.2.2.2.2.2).reverse) hW hP hS
      have hrest : 2 * (F0 m pc ls (st.map (cv G.2.2.2))).monitorRoom + (((st.drop μ2.2.2.2.2.2.2).map (cv G.2.2.2)).map fun v => v.category).sum ≤ 8 := by
        show 2 * 0 + _ ≤ 8
        have := Nat.le_of_ble_eq_true hb8.2
        rw [csum_cv]; omega
      have hstk : st.map (cv G.2.2.2) = (((st.take μ2.2.2.2.2.2.2).reverse).map (cv G.2.2.2)).reverse ++ (st.drop μ2.2.2.2.2.2.2).map (cv G.2.2.2) := by
        rw [← List.map_reverse, List.reverse_reverse, ← List.map_append, List.take_append_drop]
      have fin : ∀ (v : Option Value) (M2 : PM) (H1 : Heap) (locs1 : List Loc), rk μ2.2.2.2.2.1 K (pc + 3) L (st.drop μ2.2.2.2.2.2.2) v M2 → va_P G.2.1 cls (pws G.2.2.2 G.2.2.1 M2) H1 → va_S (AA G.2.2.2) s.heap H1 locs1 → W p G.1 e (rmd (d + 1)) s m args below meth c H1 locs1 0 0 (MQ below (Qp G Post) args s 0 0 (AA G.2.2.2)) (F0 m (pc + 3) ls ((v.map (cv G.2.2.2)).toList ++ (st.drop μ2.2.2.2.2.2.2).map (cv G.2.2.2))) := by
        intro v M2 H1 locs1 hp hP1 hS1
        have h9 := hK _ _ _ _ (rk_inv hp) p e s m args below meth c H1 locs1 ls hx hb hml hr hk hown hts hW hP1 hS1 hl
        rw [List.map_append] at h9
        cases v <;> exact h9
      rcases h12 with rfl | rfl
      · exact x_back (va_runS (As := ((st.take μ2.2.2.2.2.2.2).reverse).map (cv G.2.2.2)) (rest := (st.drop μ2.2.2.2.2.2.2).map (cv G.2.2.2)) (bytes := μ2.2.2.1) (maxL := μ2.2.2.2.1) (ret := μ2.2.2.2.2.1) (n := μ2.2.2.2.2.2.2) (own := nmo μ.1) ⟨hx, hb, hml, hown, hts⟩ hM ⟨x_calledB (p := p) hts hm (hts _ hok), hts _ hlast⟩ hpre rfl (by rw [List.length_map, List.length_reverse]; exact hlen) hl.1 hstk hrest hd ⟨Nat.le_refl _, Nat.le_refl _⟩) hS fin
      · obtain ⟨hn1, hn2⟩ := hnest μ2 hc
        have hnw : va_Nw (.methodLinkNest (nmo μ.1) idx μ2.2.1 "SeesawPark") s := by
          rcases hn1 with ⟨z1, z2⟩ | ⟨z1, z2⟩
          · rw [z1, z2, hn2]; exact hW.2.2.2.2.2.2.2
          · rw [z1, z2, hn2]; exact hW.2.2.2.2.2.2.1
        have cw := va_cnB (R := rmd (d + 1)) (own := nmo μ.1) (host := "SeesawPark") (index := idx) (maxL := μ2.2.2.2.1) (mc := 0) (ms := 0) (y := μ2.2.1) (bytes := μ2.2.2.1) (ret := μ2.2.2.2.2.1) (ws := mcode μ2 :: gw) (rm := rmd d) μ2.2.2.2.2.2.2 hts (gw_in hm) rfl rfl rfl hnw (hts _ hm.2.1) hm.2.2.2.1 ⟨Nat.le_refl _, by have := hm.2.2.2.2.1; show 8 + (μ2.2.2.2.1 + 11) + 64 * d ≤ 64 * (d + 1); omega⟩
        exact x_back (va_runSN (As := ((st.take μ2.2.2.2.2.2.2).reverse).map (cv G.2.2.2)) (rest := (st.drop μ2.2.2.2.2.2.2).map (cv G.2.2.2)) (bytes := μ2.2.2.1) (maxL := μ2.2.2.2.1) (ret := μ2.2.2.2.2.1) (n := μ2.2.2.2.2.2.2) (own := nmo μ.1) ⟨hx, hb, hml, hown, hts⟩ hM ⟨cw, hts _ hlast, trivial⟩ hpre rfl (by rw [List.length_map, List.length_reverse]; exact hlen) hl.1 hstk hrest hd ⟨Nat.le_refl _, Nat.le_refl _⟩) hS fin
    have hcat : ∀ r : List Value, Nat.ble (csum r) 8 = true → ((r.map (cv G.2.2.2)).map fun v => v.category).sum + 13 ≤ (rmd (d + 1)).locals := by
      intro r h8
      have := Nat.le_of_ble_eq_true h8
      rw [csum_cv]
      show _ ≤ 64 * (d + 1)
      omega
    have hml2 : c.maxLocals = ls.size := hml.trans hl.1.symm
    match kd, hok, h, plain, hkd _ hc with
    | 0, _, h, _, _ => exact h.elim
    | 1, _, h, plain, _ => exact plain h (Or.inl rfl)
    | 2, _, h, plain, _ => exact plain h (Or.inr rfl)
    | 3, hok, h, _, _ =>
      obtain ⟨a, b, sp, dp, n, r, rfl, h0⟩ := ac5_inv h
      obtain ⟨h8, h1⟩ := gd_inv h0
      obtain ⟨n0, n1, hs1, hs2, ⟨k1, k2, k3, k4, k5⟩, h4⟩ := ar2_inv h1
      refine va_copyi hx hb hml2 hown (hts _ hok.1) (hts _ hok.2.1) (hts _ hok.2.2.1) (hts _ hok.2.2.2) hW.1 hP (pws_D hW.2.1) hS a b 0 0 (pws_arr hs1 (by decide)) (pws_arr hs2 (by decide)) rfl rfl rfl k1 k2 k3 k4 k5 (fun _ _ => rfl) (by show 1 ≤ d + 1; omega) (by have := Nat.le_of_ble_eq_true h8; rw [csum_cv]; show csum r + 18 ≤ 64 * (d + 1); omega) hd (fun H1 locs1 hP1 hD1 hS1 => ?_)
      rw [pws_set (M := M) (ad := G.2.2.2) (cA := G.2.2.1) hs2 (M' := cpI M b a sp.toNatClampNeg dp.toNatClampNeg n.toNatClampNeg) (fun q hq => ⟨by simp [cpI, va_up, hq], rfl⟩) (by simp [pce, cpI, va_up])] at hP1
      exact hK _ _ _ _ h4 p e s m args below meth c H1 locs1 ls hx hb hml hr hk hown hts hW hP1 hS1 hl
    | 4, hok, h, _, _ =>
      obtain ⟨x, r, rfl, h1⟩ := p1_inv h
      obtain ⟨h8, h2⟩ := gd_inv h1
      exact va_mabs hx hb hml2 hown (hts _ hok) (hts _ mt_abs_s) (hts _ hini) (hts _ mt_abs_c) (by show 1 ≤ d + 1; omega) (hcat r h8) (Nat.le_refl _) (Nat.le_refl _) hd (hK _ _ _ _ (h2) p e s m args below meth c H locs ls hx hb hml hr hk hown hts hW hP hS hl)
    | 5, hok, h, _, _ =>
      obtain ⟨x, y, r, rfl, h1⟩ := p2_inv h
      obtain ⟨h8, h2⟩ := gd_inv h1
      exact va_mmax hx hb hml2 hown (hts _ hok) (hts _ mt_max_s) (hts _ hini) (hts _ mt_max_c) (by show 1 ≤ d + 1; omega) (hcat r h8) (Nat.le_refl _) (Nat.le_refl _) hd (hK _ _ _ _ (h2) p e s m args below meth c H locs ls hx hb hml hr hk hown hts hW hP hS hl)
    | 6, hok, h, _, _ =>
      obtain ⟨x, y, r, rfl, h1⟩ := p2_inv h
      obtain ⟨h8, h2⟩ := gd_inv h1
      exact va_mmin hx hb hml2 hown (hts _ hok) (hts _ mt_min_s) (hts _ hini) (hts _ mt_min_c) (by show 1 ≤ d + 1; omega) (hcat r h8) (Nat.le_refl _) (Nat.le_refl _) hd (hK _ _ _ _ (h2) p e s m args below meth c H locs ls hx hb hml hr hk hown hts hW hP hS hl)
    | n + 7, _, _, _, h7 => exact absurd h7 (by show ¬ n + 7 ≤ 6; omega)
end X4
end
section
def rchk (own pc : Nat) (i : Instr) (ln : Nat) (tg : List Nat) (kv : Int32) : Bool := match i with
  | .iconst n => Nat.beq ln 1 && decide (Int32.ofInt n = kv)
  | .bipush n => Nat.beq ln 2 && decide ((Int8.ofInt n).toInt32 = kv)
  | .sipush n => Nat.beq ln 3 && decide ((Int16.ofInt n).toInt32 = kv)
  | .iinc _ n => Nat.beq ln 3 && decide (Int32.ofInt n = kv)
  | .ifCond _ f => Nat.beq ln 3 && decide ((pc : Int) + f = ((tg.getD 0 0 : Nat) : Int))
  | .if_icmp _ f => Nat.beq ln 3 && decide ((pc : Int) + f = ((tg.getD 0 0 : Nat) : Int))
  | .goto f => Nat.beq ln 3 && decide ((pc : Int) + f = ((tg.getD 0 0 : Nat) : Int))
  | .tableswitch df lo hi os => decide (tg.map (fun t : Nat => (t : Int) - (pc : Int)) = df :: os.toList) && decide ((os.size : Int) = hi - lo + 1)
  | .invokestatic idx => Nat.beq ln 3 && (match callee own idx with | some (μ2, kd) => Nat.ble kd 6 && (!(Nat.beq kd 2) || decide ((own = 0 ∧ idx = 45 ∨ own = 1 ∧ idx = 27) ∧ μ2.2.1 = y_seat)) | none => true)
  | .iload _ => Nat.beq ln 2
  | .lload _ => Nat.beq ln 2
  | .istore _ => Nat.beq ln 2
  | .lstore _ => Nat.beq ln 2
  | .ldc _ => Nat.beq ln 2
  | .getfield _ => Nat.beq ln 3
  | .putfield _ => Nat.beq ln 3
  | .getstatic _ => Nat.beq ln 3
  | .ldc_w _ => Nat.beq ln 3
  | .ldc2_w _ => Nat.beq ln 3
  | .invokevirtual _ => Nat.beq ln 3
  | _ => Nat.beq ln 1
theorem st1_ok {G : GG} {d : Nat} {μ : Mth} {Post : Option Value → PM → Prop} {K : KK} (hK : HK G d μ Post K) (hm : mok μ) {pc : Nat} {L : List (Option Value)} {st : List Value} {M : PM} {i : Instr} {ln : Nat} {tg : List Nat} {kv : Int32} (hd : decode μ.2.2.1 pc = .ok (i, ln)) (hc : rchk μ.1 pc i ln tg kv = true) (h : st1 G d μ Post i tg kv pc L st M K) : PX G d μ Post pc L st M := by
  cases i with
  | lload_n k => have e1 := Nat.eq_of_beq_eq_true hc; subst e1; exact x_lload_n hK hd h
  | iload_n k => have e1 := Nat.eq_of_beq_eq_true hc; subst e1; exact x_iload_n hK hd h
  | aload_n k => have e1 := Nat.eq_of_beq_eq_true hc; subst e1; exact x_aload_n hK hd h
  | istore_n k => have e1 := Nat.eq_of_beq_eq_true hc; subst e1; exact x_istore_n hK hd h
  | astore_n k => have e1 := Nat.eq_of_beq_eq_true hc; subst e1; exact x_astore_n hK hd h
  | lstore_n k => have e1 := Nat.eq_of_beq_eq_true hc; subst e1; exact x_lstore_n hK hd h
  | lconst k => have e1 := Nat.eq_of_beq_eq_true hc; subst e1; exact x_lconst hK hd h
  | iadd => have e1 := Nat.eq_of_beq_eq_true hc; subst e1; exact x_iadd hK hd h
  | isub => have e1 := Nat.eq_of_beq_eq_true hc; subst e1; exact x_isub hK hd h
  | imul => have e1 := Nat.eq_of_beq_eq_true hc; subst e1; exact x_imul hK hd h
  | ishl => have e1 := Nat.eq_of_beq_eq_true hc; subst e1; exact x_ishl hK hd h
  | ishr => have e1 := Nat.eq_of_beq_eq_true hc; subst e1; exact x_ishr hK hd h
  | iand => have e1 := Nat.eq_of_beq_eq_true hc; subst e1; exact x_iand hK hd h
  | ior => have e1 := Nat.eq_of_beq_eq_true hc; subst e1; exact x_ior hK hd h
  | ixor => have e1 := Nat.eq_of_beq_eq_true hc; subst e1; exact x_ixor hK hd h
  | idiv => have e1 := Nat.eq_of_beq_eq_true hc; subst e1; exact x_idiv hK hd h
  | irem => have e1 := Nat.eq_of_beq_eq_true hc; subst e1; exact x_irem hK hd h
  | iushr => have e1 := Nat.eq_of_beq_eq_true hc; subst e1; exact x_iushr hK hd h
  | ineg => have e1 := Nat.eq_of_beq_eq_true hc; subst e1; exact x_ineg hK hd h
  | i2c => have e1 := Nat.eq_of_beq_eq_true hc; subst e1; exact x_i2c hK hd h
  | i2l => have e1 := Nat.eq_of_beq_eq_true hc; subst e1; exact x_i2l hK hd h
  | l2i => have e1 := Nat.eq_of_beq_eq_true hc; subst e1; exact x_l2i hK hd h
  | ladd => have e1 := Nat.eq_of_beq_eq_true hc; subst e1; exact x_ladd hK hd h
  | lmul => have e1 := Nat.eq_of_beq_eq_true hc; subst e1; exact x_lmul hK hd h
  | land => have e1 := Nat.eq_of_beq_eq_true hc; subst e1; exact x_land hK hd h
  | lor => have e1 := Nat.eq_of_beq_eq_true hc; subst e1; exact x_lor hK hd h
  | lshl => have e1 := Nat.eq_of_beq_eq_true hc; subst e1; exact x_lshl hK hd h
  | lshr => have e1 := Nat.eq_of_beq_eq_true hc; subst e1; exact x_lshr hK hd h
  | lushr => have e1 := Nat.eq_of_beq_eq_true hc; subst e1; exact x_lushr hK hd h
  | lcmp => have e1 := Nat.eq_of_beq_eq_true hc; subst e1; exact x_lcmp hK hd h
  | dup => have e1 := Nat.eq_of_beq_eq_true hc; subst e1; exact x_dup hK hd h
  | pop => have e1 := Nat.eq_of_beq_eq_true hc; subst e1; exact x_pop hK hd h
  | dup2 => have e1 := Nat.eq_of_beq_eq_true hc; subst e1; exact x_dup2 hK hd h
  | iaload => have e1 := Nat.eq_of_beq_eq_true hc; subst e1; exact x_iaload hK hd h
  | baload => have e1 := Nat.eq_of_beq_eq_true hc; subst e1; exact x_baload hK hd h
  | laload => have e1 := Nat.eq_of_beq_eq_true hc; subst e1; exact x_laload hK hd h
  | iastore => have e1 := Nat.eq_of_beq_eq_true hc; subst e1; exact x_iastore hK hd h
  | bastore => have e1 := Nat.eq_of_beq_eq_true hc; subst e1; exact x_bastore hK hd h
  | lastore => have e1 := Nat.eq_of_beq_eq_true hc; subst e1; exact x_lastore hK hd h
  | arraylength => have e1 := Nat.eq_of_beq_eq_true hc; subst e1; exact x_arraylength hK hd h
  | iload k => have e1 := Nat.eq_of_beq_eq_true hc; subst e1; exact x_iload hK hd h
  | lload k => have e1 := Nat.eq_of_beq_eq_true hc; subst e1; exact x_lload hK hd h
  | istore k => have e1 := Nat.eq_of_beq_eq_true hc; subst e1; exact x_istore hK hd h
  | lstore k => have e1 := Nat.eq_of_beq_eq_true hc; subst e1; exact x_lstore hK hd h
  | ldc k => have e1 := Nat.eq_of_beq_eq_true hc; subst e1; exact x_ldc hK hd h
  | getstatic k => have e1 := Nat.eq_of_beq_eq_true hc; subst e1; exact x_getstatic hK hd h
  | ldc_w k => have e1 := Nat.eq_of_beq_eq_true hc; subst e1; exact x_ldc_w hK hd h
  | ldc2_w k => have e1 := Nat.eq_of_beq_eq_true hc; subst e1; exact x_ldc2_w hK hd h
  | invokevirtual k => have e1 := Nat.eq_of_beq_eq_true hc; subst e1; exact x_invokevirtual hK hd h
  | iconst n => simp only [rchk, Bool.and_eq_true, decide_eq_true_eq] at hc; have e1 := Nat.eq_of_beq_eq_true hc.1; subst e1; exact x_iconst hK hc.2 hd h
  | bipush n => simp only [rchk, Bool.and_eq_true, decide_eq_true_eq] at hc; have e1 := Nat.eq_of_beq_eq_true hc.1; subst e1; exact x_bipush hK hc.2 hd h
  | sipush n => simp only [rchk, Bool.and_eq_true, decide_eq_true_eq] at hc; have e1 := Nat.eq_of_beq_eq_true hc.1; subst e1; exact x_sipush hK hc.2 hd h
  | iinc k n => simp only [rchk, Bool.and_eq_true, decide_eq_true_eq] at hc; have e1 := Nat.eq_of_beq_eq_true hc.1; subst e1; exact x_iinc hK hc.2 hd h
  | ifCond cc f => simp only [rchk, Bool.and_eq_true, decide_eq_true_eq] at hc; have e1 := Nat.eq_of_beq_eq_true hc.1; subst e1; exact x_ifCond hK hc.2 hd h
  | if_icmp cc f => simp only [rchk, Bool.and_eq_true, decide_eq_true_eq] at hc; have e1 := Nat.eq_of_beq_eq_true hc.1; subst e1; exact x_if_icmp hK hc.2 hd h
  | goto f => simp only [rchk, Bool.and_eq_true, decide_eq_true_eq] at hc; have e1 := Nat.eq_of_beq_eq_true hc.1; subst e1; exact x_goto hK hc.2 hd h
  | tableswitch df lo hi os => simp only [rchk, Bool.and_eq_true, decide_eq_true_eq] at hc; exact x_tableswitch hK hc.1 hc.2 hd h
  | getfield k => have e1 := Nat.eq_of_beq_eq_true hc; subst e1; exact x_getfield hK hd h hm
  | ireturn => have e1 := Nat.eq_of_beq_eq_true hc; subst e1; exact x_ireturn hd h
  | lreturn => have e1 := Nat.eq_of_beq_eq_true hc; subst e1; exact x_lreturn hd h
  | areturn => have e1 := Nat.eq_of_beq_eq_true hc; subst e1; exact x_areturn hd h
  | return_ => have e1 := Nat.eq_of_beq_eq_true hc; subst e1; exact x_return hd h
  | putfield idx =>
    have e1 := Nat.eq_of_beq_eq_true hc; subst e1
    simp only [st1] at h
    split at h
    · rename_i v a r
      cases hf : fld μ.1 idx a with
      | none => rw [hf] at h; exact h.elim
      | some q =>
        obtain ⟨ci, k, kd, rp⟩ := q
        rw [hf] at h
        obtain ⟨h1, h2⟩ := gd_inv h
        have h1 : ((fcl ci).2.1 k).2.2.2 = false := by simpa using h1
        match kd, hf, h2 with
        | 0, hf, h2 => exact x_putI hK hd hf h1 (Or.inl rfl) h2
        | 3, hf, h2 => exact x_putI hK hd hf h1 (Or.inr ⟨rfl, h2.1⟩) h2.2
        | 1, _, h2 => exact h2.elim
        | 2, _, h2 => exact h2.elim
        | n + 4, _, h2 => exact h2.elim
    · rename_i v a r
      cases hf : fld μ.1 idx a with
      | none => rw [hf] at h; exact h.elim
      | some q =>
        obtain ⟨ci, k, kd, rp⟩ := q
        rw [hf] at h
        obtain ⟨h1, h2⟩ := gd_inv h
        have h1 : ((fcl ci).2.1 k).2.2.2 = false := by simpa using h1
        match kd, hf, h2 with
        | 1, hf, h2 => exact x_putL hK hd hf h1 h2
        | 0, _, h2 => exact h2.elim
        | 2, _, h2 => exact h2.elim
        | n + 3, _, h2 => exact h2.elim
    · exact h.elim
  | invokestatic idx =>
    simp only [rchk, Bool.and_eq_true] at hc
    have e1 := Nat.eq_of_beq_eq_true hc.1; subst e1
    refine x_invokestatic hK hd h (fun μ2 hq => ?_) (fun q hq => ?_)
    · have h2 := hc.2
      rw [hq] at h2
      simp at h2
      exact h2
    · have h2 := hc.2
      obtain ⟨μ2, kd⟩ := q
      rw [hq] at h2
      simp only [Bool.and_eq_true] at h2
      exact Nat.le_of_ble_eq_true h2.1
  | _ => exact h.elim
abbrev Row : Type := Nat × Instr × Nat × List Nat × Int32
def tbok (μ : Mth) (tb : List Row) : Bool := tb.all fun q => decide (decode μ.2.2.1 q.1 = .ok (q.2.1, q.2.2.1)) && rchk μ.1 q.1 q.2.1 q.2.2.1 q.2.2.2.1 q.2.2.2.2
/-- fewer locals known -/
def msk : List Bool → List (Option Value) → List (Option Value)
  | _, [] => []
  | [], r => r
  | b :: bs, o :: r => (bif b then o else none) :: msk bs r
theorem lg_msk : ∀ {bs : List Bool} {L : List (Option Value)} {i : Nat} {v : Value}, lg (msk bs L) i = some v → lg L i = some v
  | [], [], _, _, h => h
  | _ :: _, [], _, _, h => h
  | [], _ :: _, _, _, h => h
  | true :: bs, o :: r, 0, v, h => h
  | false :: bs, o :: r, 0, v, h => by cases h
  | b :: bs, o :: r, i + 1, v, h => lg_msk (bs := bs) (L := r) h
theorem PX.weak {G : GG} {d : Nat} {μ : Mth} {Post : Option Value → PM → Prop} {pc : Nat} {L L2 : List (Option Value)} {st : List Value} {M : PM} (hw : ∀ i v, lg L i = some v → lg L2 i = some v) (h : PX G d μ Post pc L st M) : PX G d μ Post pc L2 st M :=
  fun p e s m args below meth c H locs ls hx hb hml hr hk hown hts hW hP hS hl => h p e s m args below meth c H locs ls hx hb hml hr hk hown hts hW hP hS ⟨hl.1, hl.2.1, fun i v hv => hl.2.2 i v (hw i v hv)⟩
/-- all the steps up to a cut, as one precondition; a cut names the locals that live there -/
def wp (G : GG) (d : Nat) (μ : Mth) (Post : Option Value → PM → Prop) (tb : List Row) (cuts : List (Nat × List Bool)) (K : KK) : Nat → KK
  | 0 => K
  | n + 1 => fun pc L st M => match lkp tb pc with
    | none => False
    | some (i, _, tg, kv) => st1 G d μ Post i tg kv pc L st M (fun pc2 L2 st2 M2 => match lkp cuts pc2 with
      | some ms => K pc2 (msk ms L2) st2 M2
      | none => wp G d μ Post tb cuts K n pc2 L2 st2 M2)
theorem wp_ok {G : GG} {d : Nat} {μ : Mth} {Post : Option Value → PM → Prop} {tb : List Row} (cuts : List (Nat × List Bool)) (hm : mok μ) (ht : tbok μ tb = true) : ∀ (n pc : Nat) (L : List (Option Value)) (st : List Value) (M : PM), wp G d μ Post tb cuts (PX G d μ Post) n pc L st M → PX G d μ Post pc L st M
  | 0, _, _, _, _, h => h
  | n + 1, pc, L, st, M, h => by
    unfold wp at h
    cases hl : lkp tb pc with
    | none => rw [hl] at h; exact h.elim
    | some q =>
      obtain ⟨i, ln, tg, kv⟩ := q
      rw [hl] at h
      have h1 := List.all_eq_true.mp ht _ (lkp_mem hl)
      simp only [Bool.and_eq_true, decide_eq_true_eq] at h1
      refine st1_ok (fun pc2 L2 st2 M2 h2 => ?_) hm h1.1 h1.2 h
      cases hq : lkp cuts pc2 with
      | some ms => rw [hq] at h2; exact PX.weak (fun _ _ => lg_msk) h2
      | none => rw [hq] at h2; exact wp_ok cuts hm ht n pc2 L2 st2 M2 h2
end
section
def tb_X0_begin : List Row := [(0, .aload_n 0, 1, [], 0), (1, .aload_n 1, 1, [], 0), (2, .getfield 18, 3, [], 0), (5, .putfield 24, 3, [], 0), (8, .aload_n 1, 1, [], 0), (9, .getfield 25, 3, [], 0), (12, .iconst 0, 1, [], 0), (13, .aload_n 0, 1, [], 0), (14, .getfield 9, 3, [], 0), (17, .iconst 0, 1, [], 0), (18, .bipush 8, 2, [], 8), (20, .invokestatic 28, 3, [], 0), (23, .aload_n 0, 1, [], 0), (24, .aload_n 1, 1, [], 0), (25, .getfield 34, 3, [], 0), (28, .iload_n 3, 1, [], 0), (29, .iaload, 1, [], 0), (30, .putfield 37, 3, [], 0), (33, .aload_n 0, 1, [], 0), (34, .iconst 0, 1, [], 0), (35, .putfield 39, 3, [], 0), (38, .aload_n 1, 1, [], 0), (39, .getfield 42, 3, [], 0), (42, .iload_n 3, 1, [], 0), (43, .iaload, 1, [], 0), (44, .istore 4, 2, [], 0), (46, .iconst 0, 1, [], 0), (47, .istore 5, 2, [], 0), (49, .iload 5, 2, [], 0), (51, .iconst 2, 1, [], 2), (52, .iload 4, 2, [], 0), (54, .imul, 1, [], 0), (55, .if_icmp .ge 49, 3, [104], 0), (58, .iload 5, 2, [], 0), (60, .iload 4, 2, [], 0), (62, .invokestatic 45, 3, [], 0), (65, .istore 6, 2, [], 0), (67, .aload_n 2, 1, [], 0), (68, .iload_n 3, 1, [], 0), (69, .iload 6, 2, [], 0), (71, .invokevirtual 49, 3, [], 0), (74, .ifCond .ne 24, 3, [98], 0), (77, .aload_n 0, 1, [], 0), (78, .getfield 15, 3, [], 0), (81, .aload_n 0, 1, [], 0), (82, .getfield 39, 3, [], 0), (85, .iload 6, 2, [], 0), (87, .iastore, 1, [], 0), (88, .aload_n 0, 1, [], 0), (89, .dup, 1, [], 0), (90, .getfield 39, 3, [], 0), (93, .iconst 1, 1, [], 1), (94, .iadd, 1, [], 0), (95, .putfield 39, 3, [], 0), (98, .iinc 5 1, 3, [], 1), (101, .goto (-52), 3, [49], 0), (104, .return_, 1, [], 0)]
theorem tk_X0_begin : tbok m_X0_begin tb_X0_begin = true := by decide +kernel
def tb_X0_winningMove : List Row := [(0, .aload_n 0, 1, [], 0), (1, .iload_n 1, 1, [], 0), (2, .iconst 0, 1, [], 0), (3, .iload_n 2, 1, [], 0), (4, .iconst 0, 1, [], 0), (5, .invokevirtual 55, 3, [], 0), (8, .ireturn, 1, [], 0)]
theorem tk_X0_winningMove : tbok m_X0_winningMove tb_X0_winningMove = true := by decide +kernel
def tb_X0_moveFrom : List Row := [(0, .iload 4, 2, [], 0), (2, .iconst 4, 1, [], 4), (3, .if_icmp .le 5, 3, [8], 0), (6, .iconst (-1), 1, [], -1), (7, .ireturn, 1, [], 0), (8, .iconst 0, 1, [], 0), (9, .istore 5, 2, [], 0), (11, .iload 5, 2, [], 0), (13, .aload_n 0, 1, [], 0), (14, .getfield 24, 3, [], 0), (17, .if_icmp .ge 121, 3, [138], 0), (20, .iload_n 1, 1, [], 0), (21, .iconst 1, 1, [], 1), (22, .iload 5, 2, [], 0), (24, .ishl, 1, [], 0), (25, .iand, 1, [], 0), (26, .ifCond .ne 6, 3, [32], 0), (29, .goto 103, 3, [132], 0), (32, .iconst 0, 1, [], 0), (33, .istore 6, 2, [], 0), (35, .iload 6, 2, [], 0), (37, .aload_n 0, 1, [], 0), (38, .getfield 39, 3, [], 0), (41, .if_icmp .ge 91, 3, [132], 0), (44, .iload_n 3, 1, [], 0), (45, .aload_n 0, 1, [], 0), (46, .getfield 9, 3, [], 0), (49, .iload 5, 2, [], 0), (51, .iaload, 1, [], 0), (52, .aload_n 0, 1, [], 0), (53, .getfield 15, 3, [], 0), (56, .iload 6, 2, [], 0), (58, .iaload, 1, [], 0), (59, .imul, 1, [], 0), (60, .iadd, 1, [], 0), (61, .istore 7, 2, [], 0), (63, .iload_n 2, 1, [], 0), (64, .iconst 1, 1, [], 1), (65, .iload 6, 2, [], 0), (67, .ishl, 1, [], 0), (68, .iand, 1, [], 0), (69, .ifCond .ne 57, 3, [126], 0), (72, .iload 7, 2, [], 0), (74, .invokestatic 59, 3, [], 0), (77, .aload_n 0, 1, [], 0), (78, .getfield 37, 3, [], 0), (81, .if_icmp .gt 45, 3, [126], 0), (84, .aload_n 0, 1, [], 0), (85, .iload_n 1, 1, [], 0), (86, .iconst 1, 1, [], 1), (87, .iload 5, 2, [], 0), (89, .ishl, 1, [], 0), (90, .ixor, 1, [], 0), (91, .iload_n 2, 1, [], 0), (92, .iconst 1, 1, [], 1), (93, .iload 6, 2, [], 0), (95, .ishl, 1, [], 0), (96, .ior, 1, [], 0), (97, .iload 7, 2, [], 0), (99, .iload 4, 2, [], 0), (101, .iconst 1, 1, [], 1), (102, .iadd, 1, [], 0), (103, .invokevirtual 55, 3, [], 0), (106, .iconst (-1), 1, [], -1), (107, .if_icmp .ne 19, 3, [126], 0), (110, .bipush 100, 2, [], 100), (112, .iload 5, 2, [], 0), (114, .imul, 1, [], 0), (115, .aload_n 0, 1, [], 0), (116, .getfield 15, 3, [], 0), (119, .iload 6, 2, [], 0), (121, .iaload, 1, [], 0), (122, .iadd, 1, [], 0), (123, .iconst 4, 1, [], 4), (124, .iadd, 1, [], 0), (125, .ireturn, 1, [], 0), (126, .iinc 6 1, 3, [], 1), (129, .goto (-94), 3, [35], 0), (132, .iinc 5 1, 3, [], 1), (135, .goto (-124), 3, [11], 0), (138, .iconst (-1), 1, [], -1), (139, .ireturn, 1, [], 0)]
theorem tk_X0_moveFrom : tbok m_X0_moveFrom tb_X0_moveFrom = true := by decide +kernel
def tb_X1_spread : List Row := [(0, .iconst 1, 1, [], 1), (1, .aload_n 1, 1, [], 0), (2, .getfield 15, 3, [], 0), (5, .ishl, 1, [], 0), (6, .istore_n 3, 1, [], 0), (7, .iconst 0, 1, [], 0), (8, .istore 4, 2, [], 0), (10, .iload 4, 2, [], 0), (12, .iload_n 3, 1, [], 0), (13, .bipush 19, 2, [], 19), (15, .imul, 1, [], 0), (16, .if_icmp .ge 17, 3, [33], 0), (19, .aload_n 0, 1, [], 0), (20, .getfield 11, 3, [], 0), (23, .iload 4, 2, [], 0), (25, .lconst 0, 1, [], 0), (26, .lastore, 1, [], 0), (27, .iinc 4 1, 3, [], 1), (30, .goto (-20), 3, [10], 0), (33, .aload_n 0, 1, [], 0), (34, .getfield 11, 3, [], 0), (37, .bipush 9, 2, [], 9), (39, .ldc2_w 21, 3, [], 0), (42, .lastore, 1, [], 0), (43, .aload_n 1, 1, [], 0), (44, .getfield 23, 3, [], 0), (47, .iload_n 2, 1, [], 0), (48, .iaload, 1, [], 0), (49, .istore 4, 2, [], 0), (51, .iconst 0, 1, [], 0), (52, .istore 5, 2, [], 0), (54, .iload 5, 2, [], 0), (56, .iconst 2, 1, [], 2), (57, .iload 4, 2, [], 0), (59, .imul, 1, [], 0), (60, .if_icmp .ge 43, 3, [103], 0), (63, .iload 5, 2, [], 0), (65, .iload 4, 2, [], 0), (67, .invokestatic 27, 3, [], 0), (70, .istore 6, 2, [], 0), (72, .iload_n 3, 1, [], 0), (73, .iconst 1, 1, [], 1), (74, .isub, 1, [], 0), (75, .istore 7, 2, [], 0), (77, .iload 7, 2, [], 0), (79, .ifCond .le 18, 3, [97], 0), (82, .aload_n 0, 1, [], 0), (83, .aload_n 1, 1, [], 0), (84, .iload 7, 2, [], 0), (86, .iload 6, 2, [], 0), (88, .invokevirtual 31, 3, [], 0), (91, .iinc 7 (-1), 3, [], -1), (94, .goto (-17), 3, [77], 0), (97, .iinc 5 1, 3, [], 1), (100, .goto (-46), 3, [54], 0), (103, .return_, 1, [], 0)]
theorem tk_X1_spread : tbok m_X1_spread tb_X1_spread = true := by decide +kernel
def tb_X1_addSeatOf : List Row := [(0, .iconst 0, 1, [], 0), (1, .istore 4, 2, [], 0), (3, .iload 4, 2, [], 0), (5, .aload_n 1, 1, [], 0), (6, .getfield 15, 3, [], 0), (9, .if_icmp .ge 38, 3, [47], 0), (12, .iload_n 2, 1, [], 0), (13, .iconst 1, 1, [], 1), (14, .iload 4, 2, [], 0), (16, .ishl, 1, [], 0), (17, .iand, 1, [], 0), (18, .ifCond .eq 23, 3, [41], 0), (21, .aload_n 0, 1, [], 0), (22, .iload_n 2, 1, [], 0), (23, .iload_n 2, 1, [], 0), (24, .iconst 1, 1, [], 1), (25, .iload 4, 2, [], 0), (27, .ishl, 1, [], 0), (28, .ixor, 1, [], 0), (29, .aload_n 1, 1, [], 0), (30, .getfield 35, 3, [], 0), (33, .iload 4, 2, [], 0), (35, .iaload, 1, [], 0), (36, .iload_n 3, 1, [], 0), (37, .imul, 1, [], 0), (38, .invokevirtual 38, 3, [], 0), (41, .iinc 4 1, 3, [], 1), (44, .goto (-41), 3, [3], 0), (47, .return_, 1, [], 0)]
theorem tk_X1_addSeatOf : tbok m_X1_addSeatOf tb_X1_addSeatOf = true := by decide +kernel
def tb_X1_mergeShifted : List Row := [(0, .iload_n 3, 1, [], 0), (1, .bipush 6, 2, [], 6), (3, .ishr, 1, [], 0), (4, .istore 4, 2, [], 0), (6, .iload_n 3, 1, [], 0), (7, .bipush 63, 2, [], 63), (9, .iand, 1, [], 0), (10, .istore 5, 2, [], 0), (12, .iconst 0, 1, [], 0), (13, .istore 6, 2, [], 0), (15, .iload 6, 2, [], 0), (17, .bipush 19, 2, [], 19), (19, .if_icmp .ge 69, 3, [88], 0), (22, .aload_n 0, 1, [], 0), (23, .iload_n 2, 1, [], 0), (24, .iload 6, 2, [], 0), (26, .iload 4, 2, [], 0), (28, .isub, 1, [], 0), (29, .invokevirtual 42, 3, [], 0), (32, .iload 5, 2, [], 0), (34, .lshl, 1, [], 0), (35, .lstore 7, 2, [], 0), (37, .iload 5, 2, [], 0), (39, .ifCond .eq 26, 3, [65], 0), (42, .lload 7, 2, [], 0), (44, .aload_n 0, 1, [], 0), (45, .iload_n 2, 1, [], 0), (46, .iload 6, 2, [], 0), (48, .iload 4, 2, [], 0), (50, .isub, 1, [], 0), (51, .iconst 1, 1, [], 1), (52, .isub, 1, [], 0), (53, .invokevirtual 42, 3, [], 0), (56, .bipush 64, 2, [], 64), (58, .iload 5, 2, [], 0), (60, .isub, 1, [], 0), (61, .lushr, 1, [], 0), (62, .lor, 1, [], 0), (63, .lstore 7, 2, [], 0), (65, .aload_n 0, 1, [], 0), (66, .getfield 11, 3, [], 0), (69, .iload_n 1, 1, [], 0), (70, .bipush 19, 2, [], 19), (72, .imul, 1, [], 0), (73, .iload 6, 2, [], 0), (75, .iadd, 1, [], 0), (76, .dup2, 1, [], 0), (77, .laload, 1, [], 0), (78, .lload 7, 2, [], 0), (80, .lor, 1, [], 0), (81, .lastore, 1, [], 0), (82, .iinc 6 1, 3, [], 1), (85, .goto (-70), 3, [15], 0), (88, .return_, 1, [], 0)]
theorem tk_X1_mergeShifted : tbok m_X1_mergeShifted tb_X1_mergeShifted = true := by decide +kernel
def tb_X1_wordAt : List Row := [(0, .iload_n 2, 1, [], 0), (1, .ifCond .lt 23, 3, [24], 0), (4, .iload_n 2, 1, [], 0), (5, .bipush 19, 2, [], 19), (7, .if_icmp .ge 17, 3, [24], 0), (10, .aload_n 0, 1, [], 0), (11, .getfield 11, 3, [], 0), (14, .iload_n 1, 1, [], 0), (15, .bipush 19, 2, [], 19), (17, .imul, 1, [], 0), (18, .iload_n 2, 1, [], 0), (19, .iadd, 1, [], 0), (20, .laload, 1, [], 0), (21, .goto 4, 3, [25], 0), (24, .lconst 0, 1, [], 0), (25, .lreturn, 1, [], 0)]
theorem tk_X1_wordAt : tbok m_X1_wordAt tb_X1_wordAt = true := by decide +kernel
def tb_X1_largestLevel : List Row := [(0, .iload_n 1, 1, [], 0), (1, .istore 4, 2, [], 0), (3, .iload 4, 2, [], 0), (5, .ifCond .lt 50, 3, [55], 0), (8, .iconst 0, 1, [], 0), (9, .istore 5, 2, [], 0), (11, .iload 5, 2, [], 0), (13, .iconst 1, 1, [], 1), (14, .iload_n 1, 1, [], 0), (15, .ishl, 1, [], 0), (16, .if_icmp .ge 33, 3, [49], 0), (19, .iload 5, 2, [], 0), (21, .invokestatic 46, 3, [], 0), (24, .iload 4, 2, [], 0), (26, .if_icmp .ne 17, 3, [43], 0), (29, .aload_n 0, 1, [], 0), (30, .iload 5, 2, [], 0), (32, .iload_n 2, 1, [], 0), (33, .iload_n 3, 1, [], 0), (34, .invokevirtual 52, 3, [], 0), (37, .ifCond .eq 6, 3, [43], 0), (40, .iload 5, 2, [], 0), (42, .ireturn, 1, [], 0), (43, .iinc 5 1, 3, [], 1), (46, .goto (-35), 3, [11], 0), (49, .iinc 4 (-1), 3, [], -1), (52, .goto (-49), 3, [3], 0), (55, .iconst (-1), 1, [], -1), (56, .ireturn, 1, [], 0)]
theorem tk_X1_largestLevel : tbok m_X1_largestLevel tb_X1_largestLevel = true := by decide +kernel
def tb_X1_canLevel : List Row := [(0, .iload_n 2, 1, [], 0), (1, .ineg, 1, [], 0), (2, .iload_n 3, 1, [], 0), (3, .isub, 1, [], 0), (4, .istore 4, 2, [], 0), (6, .iload 4, 2, [], 0), (8, .iload_n 3, 1, [], 0), (9, .iload_n 2, 1, [], 0), (10, .isub, 1, [], 0), (11, .if_icmp .gt 42, 3, [53], 0), (14, .iload 4, 2, [], 0), (16, .sipush 600, 3, [], 600), (19, .iadd, 1, [], 0), (20, .istore 5, 2, [], 0), (22, .aload_n 0, 1, [], 0), (23, .iload_n 1, 1, [], 0), (24, .iload 5, 2, [], 0), (26, .bipush 6, 2, [], 6), (28, .ishr, 1, [], 0), (29, .invokevirtual 42, 3, [], 0), (32, .iload 5, 2, [], 0), (34, .bipush 63, 2, [], 63), (36, .iand, 1, [], 0), (37, .lushr, 1, [], 0), (38, .lconst 1, 1, [], 0), (39, .land, 1, [], 0), (40, .lconst 0, 1, [], 0), (41, .lcmp, 1, [], 0), (42, .ifCond .eq 5, 3, [47], 0), (45, .iconst 1, 1, [], 1), (46, .ireturn, 1, [], 0), (47, .iinc 4 1, 3, [], 1), (50, .goto (-44), 3, [6], 0), (53, .iconst 0, 1, [], 0), (54, .ireturn, 1, [], 0)]
theorem tk_X1_canLevel : tbok m_X1_canLevel tb_X1_canLevel = true := by decide +kernel
def tb_X2_run : List Row := [(0, .aload_n 0, 1, [], 0), (1, .iconst 0, 1, [], 0), (2, .putfield 28, 3, [], 0), (5, .iconst 0, 1, [], 0), (6, .istore_n 2, 1, [], 0), (7, .iload_n 2, 1, [], 0), (8, .aload_n 0, 1, [], 0), (9, .getfield 24, 3, [], 0), (12, .getfield 32, 3, [], 0), (15, .if_icmp .ge 21, 3, [36], 0), (18, .aload_n 0, 1, [], 0), (19, .getfield 9, 3, [], 0), (22, .iload_n 2, 1, [], 0), (23, .iconst 0, 1, [], 0), (24, .iastore, 1, [], 0), (25, .aload_n 0, 1, [], 0), (26, .iload_n 2, 1, [], 0), (27, .invokevirtual 37, 3, [], 0), (30, .iinc 2 1, 3, [], 1), (33, .goto (-26), 3, [7], 0), (36, .iconst 0, 1, [], 0), (37, .istore_n 2, 1, [], 0), (38, .iload_n 2, 1, [], 0), (39, .aload_n 0, 1, [], 0), (40, .getfield 24, 3, [], 0), (43, .getfield 41, 3, [], 0), (46, .if_icmp .ge 23, 3, [69], 0), (49, .aload_n 0, 1, [], 0), (50, .getfield 18, 3, [], 0), (53, .iload_n 2, 1, [], 0), (54, .iconst (-1), 1, [], -1), (55, .iastore, 1, [], 0), (56, .aload_n 0, 1, [], 0), (57, .getfield 21, 3, [], 0), (60, .iload_n 2, 1, [], 0), (61, .iconst (-1), 1, [], -1), (62, .iastore, 1, [], 0), (63, .iinc 2 1, 3, [], 1), (66, .goto (-28), 3, [38], 0), (69, .iconst 0, 1, [], 0), (70, .istore_n 2, 1, [], 0), (71, .iload_n 2, 1, [], 0), (72, .iload_n 1, 1, [], 0), (73, .if_icmp .ge 42, 3, [115], 0), (76, .iconst 0, 1, [], 0), (77, .istore_n 3, 1, [], 0), (78, .iload_n 3, 1, [], 0), (79, .aload_n 0, 1, [], 0), (80, .getfield 24, 3, [], 0), (83, .getfield 41, 3, [], 0), (86, .if_icmp .ge 19, 3, [105], 0), (89, .aload_n 0, 1, [], 0), (90, .iload_n 3, 1, [], 0), (91, .invokevirtual 44, 3, [], 0), (94, .aload_n 0, 1, [], 0), (95, .iload_n 3, 1, [], 0), (96, .invokevirtual 47, 3, [], 0), (99, .iinc 3 1, 3, [], 1), (102, .goto (-24), 3, [78], 0), (105, .aload_n 0, 1, [], 0), (106, .invokevirtual 50, 3, [], 0), (109, .iinc 2 1, 3, [], 1), (112, .goto (-41), 3, [71], 0), (115, .return_, 1, [], 0)]
theorem tk_X2_run : tbok m_X2_run tb_X2_run = true := by decide +kernel
def tb_X2_letOff : List Row := [(0, .aload_n 0, 1, [], 0), (1, .getfield 18, 3, [], 0), (4, .iload_n 1, 1, [], 0), (5, .iaload, 1, [], 0), (6, .istore_n 2, 1, [], 0), (7, .aload_n 0, 1, [], 0), (8, .getfield 21, 3, [], 0), (11, .iload_n 1, 1, [], 0), (12, .iaload, 1, [], 0), (13, .istore_n 3, 1, [], 0), (14, .iload_n 2, 1, [], 0), (15, .iconst (-1), 1, [], -1), (16, .if_icmp .eq 24, 3, [40], 0), (19, .iload_n 3, 1, [], 0), (20, .iconst (-1), 1, [], -1), (21, .if_icmp .eq 19, 3, [40], 0), (24, .aload_n 0, 1, [], 0), (25, .iload_n 2, 1, [], 0), (26, .invokevirtual 53, 3, [], 0), (29, .ifCond .eq 12, 3, [41], 0), (32, .aload_n 0, 1, [], 0), (33, .iload_n 3, 1, [], 0), (34, .invokevirtual 53, 3, [], 0), (37, .ifCond .eq 4, 3, [41], 0), (40, .return_, 1, [], 0), (41, .aload_n 0, 1, [], 0), (42, .getfield 18, 3, [], 0), (45, .iload_n 1, 1, [], 0), (46, .iconst (-1), 1, [], -1), (47, .iastore, 1, [], 0), (48, .aload_n 0, 1, [], 0), (49, .getfield 21, 3, [], 0), (52, .iload_n 1, 1, [], 0), (53, .iconst (-1), 1, [], -1), (54, .iastore, 1, [], 0), (55, .aload_n 0, 1, [], 0), (56, .iload_n 2, 1, [], 0), (57, .invokevirtual 53, 3, [], 0), (60, .ifCond .eq 8, 3, [68], 0), (63, .aload_n 0, 1, [], 0), (64, .iload_n 2, 1, [], 0), (65, .invokevirtual 37, 3, [], 0), (68, .aload_n 0, 1, [], 0), (69, .iload_n 3, 1, [], 0), (70, .invokevirtual 53, 3, [], 0), (73, .ifCond .eq 8, 3, [81], 0), (76, .aload_n 0, 1, [], 0), (77, .iload_n 3, 1, [], 0), (78, .invokevirtual 37, 3, [], 0), (81, .return_, 1, [], 0)]
theorem tk_X2_letOff : tbok m_X2_letOff tb_X2_letOff = true := by decide +kernel
def tb_X2_wantsMore : List Row := [(0, .aload_n 0, 1, [], 0), (1, .getfield 9, 3, [], 0), (4, .iload_n 1, 1, [], 0), (5, .iaload, 1, [], 0), (6, .aload_n 0, 1, [], 0), (7, .getfield 24, 3, [], 0), (10, .getfield 57, 3, [], 0), (13, .iload_n 1, 1, [], 0), (14, .iaload, 1, [], 0), (15, .if_icmp .ge 7, 3, [22], 0), (18, .iconst 1, 1, [], 1), (19, .goto 4, 3, [23], 0), (22, .iconst 0, 1, [], 0), (23, .ireturn, 1, [], 0)]
theorem tk_X2_wantsMore : tbok m_X2_wantsMore tb_X2_wantsMore = true := by decide +kernel
def tb_X2_letOn : List Row := [(0, .aload_n 0, 1, [], 0), (1, .getfield 18, 3, [], 0), (4, .iload_n 1, 1, [], 0), (5, .iaload, 1, [], 0), (6, .iconst (-1), 1, [], -1), (7, .if_icmp .eq 4, 3, [11], 0), (10, .return_, 1, [], 0), (11, .iconst 0, 1, [], 0), (12, .istore_n 2, 1, [], 0), (13, .iload_n 2, 1, [], 0), (14, .aload_n 0, 1, [], 0), (15, .getfield 28, 3, [], 0), (18, .if_icmp .ge 85, 3, [103], 0), (21, .iload_n 2, 1, [], 0), (22, .iconst 1, 1, [], 1), (23, .iadd, 1, [], 0), (24, .istore_n 3, 1, [], 0), (25, .iload_n 3, 1, [], 0), (26, .aload_n 0, 1, [], 0), (27, .getfield 28, 3, [], 0), (30, .if_icmp .ge 67, 3, [97], 0), (33, .aload_n 0, 1, [], 0), (34, .getfield 24, 3, [], 0), (37, .iload_n 1, 1, [], 0), (38, .aload_n 0, 1, [], 0), (39, .getfield 15, 3, [], 0), (42, .iload_n 2, 1, [], 0), (43, .iaload, 1, [], 0), (44, .aload_n 0, 1, [], 0), (45, .getfield 15, 3, [], 0), (48, .iload_n 3, 1, [], 0), (49, .iaload, 1, [], 0), (50, .invokevirtual 60, 3, [], 0), (53, .ifCond .eq 38, 3, [91], 0), (56, .aload_n 0, 1, [], 0), (57, .getfield 18, 3, [], 0), (60, .iload_n 1, 1, [], 0), (61, .aload_n 0, 1, [], 0), (62, .getfield 15, 3, [], 0), (65, .iload_n 2, 1, [], 0), (66, .iaload, 1, [], 0), (67, .iastore, 1, [], 0), (68, .aload_n 0, 1, [], 0), (69, .getfield 21, 3, [], 0), (72, .iload_n 1, 1, [], 0), (73, .aload_n 0, 1, [], 0), (74, .getfield 15, 3, [], 0), (77, .iload_n 3, 1, [], 0), (78, .iaload, 1, [], 0), (79, .iastore, 1, [], 0), (80, .aload_n 0, 1, [], 0), (81, .iload_n 3, 1, [], 0), (82, .invokevirtual 64, 3, [], 0), (85, .aload_n 0, 1, [], 0), (86, .iload_n 2, 1, [], 0), (87, .invokevirtual 64, 3, [], 0), (90, .return_, 1, [], 0), (91, .iinc 3 1, 3, [], 1), (94, .goto (-69), 3, [25], 0), (97, .iinc 2 1, 3, [], 1), (100, .goto (-87), 3, [13], 0), (103, .return_, 1, [], 0)]
theorem tk_X2_letOn : tbok m_X2_letOn tb_X2_letOn = true := by decide +kernel
def tb_X2_rideOn : List Row := [(0, .iconst 0, 1, [], 0), (1, .istore_n 1, 1, [], 0), (2, .iload_n 1, 1, [], 0), (3, .aload_n 0, 1, [], 0), (4, .getfield 24, 3, [], 0), (7, .getfield 41, 3, [], 0), (10, .if_icmp .ge 59, 3, [69], 0), (13, .aload_n 0, 1, [], 0), (14, .getfield 18, 3, [], 0), (17, .iload_n 1, 1, [], 0), (18, .iaload, 1, [], 0), (19, .iconst (-1), 1, [], -1), (20, .if_icmp .eq 43, 3, [63], 0), (23, .aload_n 0, 1, [], 0), (24, .getfield 21, 3, [], 0), (27, .iload_n 1, 1, [], 0), (28, .iaload, 1, [], 0), (29, .iconst (-1), 1, [], -1), (30, .if_icmp .eq 33, 3, [63], 0), (33, .aload_n 0, 1, [], 0), (34, .getfield 9, 3, [], 0), (37, .aload_n 0, 1, [], 0), (38, .getfield 18, 3, [], 0), (41, .iload_n 1, 1, [], 0), (42, .iaload, 1, [], 0), (43, .dup2, 1, [], 0), (44, .iaload, 1, [], 0), (45, .iconst 1, 1, [], 1), (46, .iadd, 1, [], 0), (47, .iastore, 1, [], 0), (48, .aload_n 0, 1, [], 0), (49, .getfield 9, 3, [], 0), (52, .aload_n 0, 1, [], 0), (53, .getfield 21, 3, [], 0), (56, .iload_n 1, 1, [], 0), (57, .iaload, 1, [], 0), (58, .dup2, 1, [], 0), (59, .iaload, 1, [], 0), (60, .iconst 1, 1, [], 1), (61, .iadd, 1, [], 0), (62, .iastore, 1, [], 0), (63, .iinc 1 1, 3, [], 1), (66, .goto (-64), 3, [2], 0), (69, .return_, 1, [], 0)]
theorem tk_X2_rideOn : tbok m_X2_rideOn tb_X2_rideOn = true := by decide +kernel
def tb_X2_joinRow : List Row := [(0, .aload_n 0, 1, [], 0), (1, .getfield 28, 3, [], 0), (4, .bipush 8, 2, [], 8), (6, .if_icmp .ge 23, 3, [29], 0), (9, .aload_n 0, 1, [], 0), (10, .getfield 15, 3, [], 0), (13, .aload_n 0, 1, [], 0), (14, .getfield 28, 3, [], 0), (17, .iload_n 1, 1, [], 0), (18, .iastore, 1, [], 0), (19, .aload_n 0, 1, [], 0), (20, .dup, 1, [], 0), (21, .getfield 28, 3, [], 0), (24, .iconst 1, 1, [], 1), (25, .iadd, 1, [], 0), (26, .putfield 28, 3, [], 0), (29, .return_, 1, [], 0)]
theorem tk_X2_joinRow : tbok m_X2_joinRow tb_X2_joinRow = true := by decide +kernel
def tb_X2_leaveRow : List Row := [(0, .aload_n 0, 1, [], 0), (1, .dup, 1, [], 0), (2, .getfield 28, 3, [], 0), (5, .iconst 1, 1, [], 1), (6, .isub, 1, [], 0), (7, .putfield 28, 3, [], 0), (10, .iload_n 1, 1, [], 0), (11, .istore_n 2, 1, [], 0), (12, .iload_n 2, 1, [], 0), (13, .aload_n 0, 1, [], 0), (14, .getfield 28, 3, [], 0), (17, .if_icmp .ge 23, 3, [40], 0), (20, .aload_n 0, 1, [], 0), (21, .getfield 15, 3, [], 0), (24, .iload_n 2, 1, [], 0), (25, .aload_n 0, 1, [], 0), (26, .getfield 15, 3, [], 0), (29, .iload_n 2, 1, [], 0), (30, .iconst 1, 1, [], 1), (31, .iadd, 1, [], 0), (32, .iaload, 1, [], 0), (33, .iastore, 1, [], 0), (34, .iinc 2 1, 3, [], 1), (37, .goto (-25), 3, [12], 0), (40, .return_, 1, [], 0)]
theorem tk_X2_leaveRow : tbok m_X2_leaveRow tb_X2_leaveRow = true := by decide +kernel
def tb_X3_forget : List Row := [(0, .aload_n 0, 1, [], 0), (1, .iconst 0, 1, [], 0), (2, .putfield 27, 3, [], 0), (5, .aload_n 0, 1, [], 0), (6, .iconst 0, 1, [], 0), (7, .putfield 31, 3, [], 0), (10, .aload_n 0, 1, [], 0), (11, .iconst 0, 1, [], 0), (12, .putfield 34, 3, [], 0), (15, .return_, 1, [], 0)]
theorem tk_X3_forget : tbok m_X3_forget tb_X3_forget = true := by decide +kernel
def tb_X3_copyFrom : List Row := [(0, .aload_n 1, 1, [], 0), (1, .getfield 9, 3, [], 0), (4, .iconst 0, 1, [], 0), (5, .aload_n 0, 1, [], 0), (6, .getfield 9, 3, [], 0), (9, .iconst 0, 1, [], 0), (10, .iconst 3, 1, [], 3), (11, .invokestatic 37, 3, [], 0), (14, .aload_n 1, 1, [], 0), (15, .getfield 15, 3, [], 0), (18, .iconst 0, 1, [], 0), (19, .aload_n 0, 1, [], 0), (20, .getfield 15, 3, [], 0), (23, .iconst 0, 1, [], 0), (24, .iconst 3, 1, [], 3), (25, .invokestatic 37, 3, [], 0), (28, .aload_n 1, 1, [], 0), (29, .getfield 18, 3, [], 0), (32, .iconst 0, 1, [], 0), (33, .aload_n 0, 1, [], 0), (34, .getfield 18, 3, [], 0), (37, .iconst 0, 1, [], 0), (38, .bipush 8, 2, [], 8), (40, .invokestatic 37, 3, [], 0), (43, .aload_n 1, 1, [], 0), (44, .getfield 21, 3, [], 0), (47, .iconst 0, 1, [], 0), (48, .aload_n 0, 1, [], 0), (49, .getfield 21, 3, [], 0), (52, .iconst 0, 1, [], 0), (53, .bipush 8, 2, [], 8), (55, .invokestatic 37, 3, [], 0), (58, .aload_n 1, 1, [], 0), (59, .getfield 24, 3, [], 0), (62, .iconst 0, 1, [], 0), (63, .aload_n 0, 1, [], 0), (64, .getfield 24, 3, [], 0), (67, .iconst 0, 1, [], 0), (68, .iconst 5, 1, [], 5), (69, .invokestatic 37, 3, [], 0), (72, .aload_n 0, 1, [], 0), (73, .aload_n 1, 1, [], 0), (74, .getfield 27, 3, [], 0), (77, .putfield 27, 3, [], 0), (80, .aload_n 0, 1, [], 0), (81, .aload_n 1, 1, [], 0), (82, .getfield 31, 3, [], 0), (85, .putfield 31, 3, [], 0), (88, .aload_n 0, 1, [], 0), (89, .aload_n 1, 1, [], 0), (90, .getfield 34, 3, [], 0), (93, .putfield 34, 3, [], 0), (96, .return_, 1, [], 0)]
theorem tk_X3_copyFrom : tbok m_X3_copyFrom tb_X3_copyFrom = true := by decide +kernel
def tb_X3_hasPlank : List Row := [(0, .iload_n 1, 1, [], 0), (1, .ifCond .lt 15, 3, [16], 0), (4, .iload_n 1, 1, [], 0), (5, .aload_n 0, 1, [], 0), (6, .getfield 27, 3, [], 0), (9, .if_icmp .ge 7, 3, [16], 0), (12, .iconst 1, 1, [], 1), (13, .goto 4, 3, [17], 0), (16, .iconst 0, 1, [], 0), (17, .ireturn, 1, [], 0)]
theorem tk_X3_hasPlank : tbok m_X3_hasPlank tb_X3_hasPlank = true := by decide +kernel
def tb_X3_hasChild : List Row := [(0, .iload_n 1, 1, [], 0), (1, .ifCond .lt 15, 3, [16], 0), (4, .iload_n 1, 1, [], 0), (5, .aload_n 0, 1, [], 0), (6, .getfield 31, 3, [], 0), (9, .if_icmp .ge 7, 3, [16], 0), (12, .iconst 1, 1, [], 1), (13, .goto 4, 3, [17], 0), (16, .iconst 0, 1, [], 0), (17, .ireturn, 1, [], 0)]
theorem tk_X3_hasChild : tbok m_X3_hasChild tb_X3_hasChild = true := by decide +kernel
def tb_X3_hasStone : List Row := [(0, .iload_n 1, 1, [], 0), (1, .ifCond .lt 15, 3, [16], 0), (4, .iload_n 1, 1, [], 0), (5, .aload_n 0, 1, [], 0), (6, .getfield 34, 3, [], 0), (9, .if_icmp .ge 7, 3, [16], 0), (12, .iconst 1, 1, [], 1), (13, .goto 4, 3, [17], 0), (16, .iconst 0, 1, [], 0), (17, .ireturn, 1, [], 0)]
theorem tk_X3_hasStone : tbok m_X3_hasStone tb_X3_hasStone = true := by decide +kernel
def tb_X3_hasSeat : List Row := [(0, .aload_n 0, 1, [], 0), (1, .iload_n 1, 1, [], 0), (2, .invokevirtual 43, 3, [], 0), (5, .ifCond .eq 32, 3, [37], 0), (8, .iload_n 2, 1, [], 0), (9, .ifCond .eq 28, 3, [37], 0), (12, .iload_n 2, 1, [], 0), (13, .aload_n 0, 1, [], 0), (14, .getfield 9, 3, [], 0), (17, .iload_n 1, 1, [], 0), (18, .iaload, 1, [], 0), (19, .ineg, 1, [], 0), (20, .if_icmp .lt 17, 3, [37], 0), (23, .iload_n 2, 1, [], 0), (24, .aload_n 0, 1, [], 0), (25, .getfield 9, 3, [], 0), (28, .iload_n 1, 1, [], 0), (29, .iaload, 1, [], 0), (30, .if_icmp .gt 7, 3, [37], 0), (33, .iconst 1, 1, [], 1), (34, .goto 4, 3, [38], 0), (37, .iconst 0, 1, [], 0), (38, .ireturn, 1, [], 0)]
theorem tk_X3_hasSeat : tbok m_X3_hasSeat tb_X3_hasSeat = true := by decide +kernel
def tb_X3_allChildren : List Row := [(0, .iconst 1, 1, [], 1), (1, .aload_n 0, 1, [], 0), (2, .getfield 31, 3, [], 0), (5, .ishl, 1, [], 0), (6, .iconst 1, 1, [], 1), (7, .isub, 1, [], 0), (8, .ireturn, 1, [], 0)]
theorem tk_X3_allChildren : tbok m_X3_allChildren tb_X3_allChildren = true := by decide +kernel
def tb_X3_fits : List Row := [(0, .aload_n 0, 1, [], 0), (1, .getfield 18, 3, [], 0), (4, .iload_n 2, 1, [], 0), (5, .iaload, 1, [], 0), (6, .aload_n 0, 1, [], 0), (7, .getfield 18, 3, [], 0), (10, .iload_n 3, 1, [], 0), (11, .iaload, 1, [], 0), (12, .isub, 1, [], 0), (13, .invokestatic 47, 3, [], 0), (16, .aload_n 0, 1, [], 0), (17, .getfield 15, 3, [], 0), (20, .iload_n 1, 1, [], 0), (21, .iaload, 1, [], 0), (22, .if_icmp .gt 7, 3, [29], 0), (25, .iconst 1, 1, [], 1), (26, .goto 4, 3, [30], 0), (29, .iconst 0, 1, [], 0), (30, .ireturn, 1, [], 0)]
theorem tk_X3_fits : tbok m_X3_fits tb_X3_fits = true := by decide +kernel
def tb_X4_reset : List Row := [(0, .iconst 0, 1, [], 0), (1, .istore_n 1, 1, [], 0), (2, .iload_n 1, 1, [], 0), (3, .bipush 8, 2, [], 8), (5, .if_icmp .ge 30, 3, [35], 0), (8, .aload_n 0, 1, [], 0), (9, .getfield 9, 3, [], 0), (12, .iload_n 1, 1, [], 0), (13, .iconst 0, 1, [], 0), (14, .iastore, 1, [], 0), (15, .aload_n 0, 1, [], 0), (16, .getfield 15, 3, [], 0), (19, .iload_n 1, 1, [], 0), (20, .iconst 0, 1, [], 0), (21, .iastore, 1, [], 0), (22, .aload_n 0, 1, [], 0), (23, .getfield 18, 3, [], 0), (26, .iload_n 1, 1, [], 0), (27, .iconst 0, 1, [], 0), (28, .iastore, 1, [], 0), (29, .iinc 1 1, 3, [], 1), (32, .goto (-30), 3, [2], 0), (35, .iconst 0, 1, [], 0), (36, .istore_n 1, 1, [], 0), (37, .iload_n 1, 1, [], 0), (38, .iconst 5, 1, [], 5), (39, .if_icmp .ge 23, 3, [62], 0), (42, .aload_n 0, 1, [], 0), (43, .getfield 21, 3, [], 0), (46, .iload_n 1, 1, [], 0), (47, .iconst 0, 1, [], 0), (48, .iastore, 1, [], 0), (49, .aload_n 0, 1, [], 0), (50, .getfield 24, 3, [], 0), (53, .iload_n 1, 1, [], 0), (54, .iconst 0, 1, [], 0), (55, .iastore, 1, [], 0), (56, .iinc 1 1, 3, [], 1), (59, .goto (-22), 3, [37], 0), (62, .return_, 1, [], 0)]
theorem tk_X4_reset : tbok m_X4_reset tb_X4_reset = true := by decide +kernel
def tb_X4_copyFrom : List Row := [(0, .aload_n 1, 1, [], 0), (1, .getfield 9, 3, [], 0), (4, .iconst 0, 1, [], 0), (5, .aload_n 0, 1, [], 0), (6, .getfield 9, 3, [], 0), (9, .iconst 0, 1, [], 0), (10, .bipush 8, 2, [], 8), (12, .invokestatic 31, 3, [], 0), (15, .aload_n 1, 1, [], 0), (16, .getfield 15, 3, [], 0), (19, .iconst 0, 1, [], 0), (20, .aload_n 0, 1, [], 0), (21, .getfield 15, 3, [], 0), (24, .iconst 0, 1, [], 0), (25, .bipush 8, 2, [], 8), (27, .invokestatic 31, 3, [], 0), (30, .aload_n 1, 1, [], 0), (31, .getfield 18, 3, [], 0), (34, .iconst 0, 1, [], 0), (35, .aload_n 0, 1, [], 0), (36, .getfield 18, 3, [], 0), (39, .iconst 0, 1, [], 0), (40, .bipush 8, 2, [], 8), (42, .invokestatic 31, 3, [], 0), (45, .aload_n 1, 1, [], 0), (46, .getfield 21, 3, [], 0), (49, .iconst 0, 1, [], 0), (50, .aload_n 0, 1, [], 0), (51, .getfield 21, 3, [], 0), (54, .iconst 0, 1, [], 0), (55, .iconst 5, 1, [], 5), (56, .invokestatic 31, 3, [], 0), (59, .aload_n 1, 1, [], 0), (60, .getfield 24, 3, [], 0), (63, .iconst 0, 1, [], 0), (64, .aload_n 0, 1, [], 0), (65, .getfield 24, 3, [], 0), (68, .iconst 0, 1, [], 0), (69, .iconst 5, 1, [], 5), (70, .invokestatic 31, 3, [], 0), (73, .return_, 1, [], 0)]
theorem tk_X4_copyFrom : tbok m_X4_copyFrom tb_X4_copyFrom = true := by decide +kernel
def tb_X4_hasChildAt : List Row := [(0, .iconst 0, 1, [], 0), (1, .istore_n 3, 1, [], 0), (2, .iload_n 3, 1, [], 0), (3, .aload_n 0, 1, [], 0), (4, .getfield 27, 3, [], 0), (7, .getfield 37, 3, [], 0), (10, .if_icmp .ge 31, 3, [41], 0), (13, .aload_n 0, 1, [], 0), (14, .getfield 15, 3, [], 0), (17, .iload_n 3, 1, [], 0), (18, .iaload, 1, [], 0), (19, .iload_n 2, 1, [], 0), (20, .if_icmp .ne 15, 3, [35], 0), (23, .aload_n 0, 1, [], 0), (24, .getfield 9, 3, [], 0), (27, .iload_n 3, 1, [], 0), (28, .iaload, 1, [], 0), (29, .iload_n 1, 1, [], 0), (30, .if_icmp .ne 5, 3, [35], 0), (33, .iconst 1, 1, [], 1), (34, .ireturn, 1, [], 0), (35, .iinc 3 1, 3, [], 1), (38, .goto (-36), 3, [2], 0), (41, .iconst 0, 1, [], 0), (42, .ireturn, 1, [], 0)]
theorem tk_X4_hasChildAt : tbok m_X4_hasChildAt tb_X4_hasChildAt = true := by decide +kernel
def tb_X4_hasStoneAt : List Row := [(0, .iconst 0, 1, [], 0), (1, .istore_n 3, 1, [], 0), (2, .iload_n 3, 1, [], 0), (3, .aload_n 0, 1, [], 0), (4, .getfield 27, 3, [], 0), (7, .getfield 43, 3, [], 0), (10, .if_icmp .ge 31, 3, [41], 0), (13, .aload_n 0, 1, [], 0), (14, .getfield 24, 3, [], 0), (17, .iload_n 3, 1, [], 0), (18, .iaload, 1, [], 0), (19, .iload_n 2, 1, [], 0), (20, .if_icmp .ne 15, 3, [35], 0), (23, .aload_n 0, 1, [], 0), (24, .getfield 21, 3, [], 0), (27, .iload_n 3, 1, [], 0), (28, .iaload, 1, [], 0), (29, .iload_n 1, 1, [], 0), (30, .if_icmp .ne 5, 3, [35], 0), (33, .iconst 1, 1, [], 1), (34, .ireturn, 1, [], 0), (35, .iinc 3 1, 3, [], 1), (38, .goto (-36), 3, [2], 0), (41, .iconst 0, 1, [], 0), (42, .ireturn, 1, [], 0)]
theorem tk_X4_hasStoneAt : tbok m_X4_hasStoneAt tb_X4_hasStoneAt = true := by decide +kernel
def tb_X4_childrenOn : List Row := [(0, .iconst 0, 1, [], 0), (1, .istore_n 2, 1, [], 0), (2, .iconst 0, 1, [], 0), (3, .istore_n 3, 1, [], 0), (4, .iload_n 3, 1, [], 0), (5, .aload_n 0, 1, [], 0), (6, .getfield 27, 3, [], 0), (9, .getfield 37, 3, [], 0), (12, .if_icmp .ge 34, 3, [46], 0), (15, .aload_n 0, 1, [], 0), (16, .getfield 15, 3, [], 0), (19, .iload_n 3, 1, [], 0), (20, .iaload, 1, [], 0), (21, .ifCond .eq 19, 3, [40], 0), (24, .aload_n 0, 1, [], 0), (25, .getfield 9, 3, [], 0), (28, .iload_n 3, 1, [], 0), (29, .iaload, 1, [], 0), (30, .iload_n 1, 1, [], 0), (31, .if_icmp .ne 9, 3, [40], 0), (34, .iload_n 2, 1, [], 0), (35, .iconst 1, 1, [], 1), (36, .iload_n 3, 1, [], 0), (37, .ishl, 1, [], 0), (38, .ior, 1, [], 0), (39, .istore_n 2, 1, [], 0), (40, .iinc 3 1, 3, [], 1), (43, .goto (-39), 3, [4], 0), (46, .iload_n 2, 1, [], 0), (47, .ireturn, 1, [], 0)]
theorem tk_X4_childrenOn : tbok m_X4_childrenOn tb_X4_childrenOn = true := by decide +kernel
def tb_X4_idleChildren : List Row := [(0, .iconst 0, 1, [], 0), (1, .istore_n 1, 1, [], 0), (2, .iconst 0, 1, [], 0), (3, .istore_n 2, 1, [], 0), (4, .iload_n 2, 1, [], 0), (5, .aload_n 0, 1, [], 0), (6, .getfield 27, 3, [], 0), (9, .getfield 37, 3, [], 0), (12, .if_icmp .ge 24, 3, [36], 0), (15, .aload_n 0, 1, [], 0), (16, .getfield 15, 3, [], 0), (19, .iload_n 2, 1, [], 0), (20, .iaload, 1, [], 0), (21, .ifCond .ne 9, 3, [30], 0), (24, .iload_n 1, 1, [], 0), (25, .iconst 1, 1, [], 1), (26, .iload_n 2, 1, [], 0), (27, .ishl, 1, [], 0), (28, .ior, 1, [], 0), (29, .istore_n 1, 1, [], 0), (30, .iinc 2 1, 3, [], 1), (33, .goto (-29), 3, [4], 0), (36, .iload_n 1, 1, [], 0), (37, .ireturn, 1, [], 0)]
theorem tk_X4_idleChildren : tbok m_X4_idleChildren tb_X4_idleChildren = true := by decide +kernel
def tb_X4_idleStones : List Row := [(0, .iconst 0, 1, [], 0), (1, .istore_n 1, 1, [], 0), (2, .iconst 0, 1, [], 0), (3, .istore_n 2, 1, [], 0), (4, .iload_n 2, 1, [], 0), (5, .aload_n 0, 1, [], 0), (6, .getfield 27, 3, [], 0), (9, .getfield 43, 3, [], 0), (12, .if_icmp .ge 24, 3, [36], 0), (15, .aload_n 0, 1, [], 0), (16, .getfield 24, 3, [], 0), (19, .iload_n 2, 1, [], 0), (20, .iaload, 1, [], 0), (21, .ifCond .ne 9, 3, [30], 0), (24, .iload_n 1, 1, [], 0), (25, .iconst 1, 1, [], 1), (26, .iload_n 2, 1, [], 0), (27, .ishl, 1, [], 0), (28, .ior, 1, [], 0), (29, .istore_n 1, 1, [], 0), (30, .iinc 2 1, 3, [], 1), (33, .goto (-29), 3, [4], 0), (36, .iload_n 1, 1, [], 0), (37, .ireturn, 1, [], 0)]
theorem tk_X4_idleStones : tbok m_X4_idleStones tb_X4_idleStones = true := by decide +kernel
def tb_X4_seatedChildren : List Row := [(0, .aload_n 0, 1, [], 0), (1, .getfield 27, 3, [], 0), (4, .getfield 37, 3, [], 0), (7, .aload_n 0, 1, [], 0), (8, .invokevirtual 46, 3, [], 0), (11, .invokestatic 50, 3, [], 0), (14, .isub, 1, [], 0), (15, .ireturn, 1, [], 0)]
theorem tk_X4_seatedChildren : tbok m_X4_seatedChildren tb_X4_seatedChildren = true := by decide +kernel
def tb_X4_stoneMoment : List Row := [(0, .iconst 0, 1, [], 0), (1, .istore_n 2, 1, [], 0), (2, .iconst 0, 1, [], 0), (3, .istore_n 3, 1, [], 0), (4, .iload_n 3, 1, [], 0), (5, .aload_n 0, 1, [], 0), (6, .getfield 27, 3, [], 0), (9, .getfield 43, 3, [], 0), (12, .if_icmp .ge 38, 3, [50], 0), (15, .aload_n 0, 1, [], 0), (16, .getfield 21, 3, [], 0), (19, .iload_n 3, 1, [], 0), (20, .iaload, 1, [], 0), (21, .iload_n 1, 1, [], 0), (22, .if_icmp .ne 22, 3, [44], 0), (25, .iload_n 2, 1, [], 0), (26, .aload_n 0, 1, [], 0), (27, .getfield 27, 3, [], 0), (30, .getfield 56, 3, [], 0), (33, .iload_n 3, 1, [], 0), (34, .iaload, 1, [], 0), (35, .aload_n 0, 1, [], 0), (36, .getfield 24, 3, [], 0), (39, .iload_n 3, 1, [], 0), (40, .iaload, 1, [], 0), (41, .imul, 1, [], 0), (42, .iadd, 1, [], 0), (43, .istore_n 2, 1, [], 0), (44, .iinc 3 1, 3, [], 1), (47, .goto (-43), 3, [4], 0), (50, .iload_n 2, 1, [], 0), (51, .ireturn, 1, [], 0)]
theorem tk_X4_stoneMoment : tbok m_X4_stoneMoment tb_X4_stoneMoment = true := by decide +kernel
def tb_X4_moment : List Row := [(0, .aload_n 0, 1, [], 0), (1, .iload_n 1, 1, [], 0), (2, .invokevirtual 59, 3, [], 0), (5, .istore_n 2, 1, [], 0), (6, .iconst 0, 1, [], 0), (7, .istore_n 3, 1, [], 0), (8, .iload_n 3, 1, [], 0), (9, .aload_n 0, 1, [], 0), (10, .getfield 27, 3, [], 0), (13, .getfield 37, 3, [], 0), (16, .if_icmp .ge 38, 3, [54], 0), (19, .aload_n 0, 1, [], 0), (20, .getfield 9, 3, [], 0), (23, .iload_n 3, 1, [], 0), (24, .iaload, 1, [], 0), (25, .iload_n 1, 1, [], 0), (26, .if_icmp .ne 22, 3, [48], 0), (29, .iload_n 2, 1, [], 0), (30, .aload_n 0, 1, [], 0), (31, .getfield 27, 3, [], 0), (34, .getfield 62, 3, [], 0), (37, .iload_n 3, 1, [], 0), (38, .iaload, 1, [], 0), (39, .aload_n 0, 1, [], 0), (40, .getfield 15, 3, [], 0), (43, .iload_n 3, 1, [], 0), (44, .iaload, 1, [], 0), (45, .imul, 1, [], 0), (46, .iadd, 1, [], 0), (47, .istore_n 2, 1, [], 0), (48, .iinc 3 1, 3, [], 1), (51, .goto (-43), 3, [8], 0), (54, .iload_n 2, 1, [], 0), (55, .ireturn, 1, [], 0)]
theorem tk_X4_moment : tbok m_X4_moment tb_X4_moment = true := by decide +kernel
def tb_X4_tilt : List Row := [(0, .aload_n 0, 1, [], 0), (1, .iload_n 1, 1, [], 0), (2, .invokevirtual 65, 3, [], 0), (5, .istore_n 2, 1, [], 0), (6, .iload_n 2, 1, [], 0), (7, .invokestatic 68, 3, [], 0), (10, .aload_n 0, 1, [], 0), (11, .getfield 27, 3, [], 0), (14, .getfield 73, 3, [], 0), (17, .iload_n 1, 1, [], 0), (18, .iaload, 1, [], 0), (19, .if_icmp .gt 5, 3, [24], 0), (22, .iconst 0, 1, [], 0), (23, .ireturn, 1, [], 0), (24, .iload_n 2, 1, [], 0), (25, .ifCond .ge 7, 3, [32], 0), (28, .iconst (-1), 1, [], -1), (29, .goto 4, 3, [33], 0), (32, .iconst 1, 1, [], 1), (33, .ireturn, 1, [], 0)]
theorem tk_X4_tilt : tbok m_X4_tilt tb_X4_tilt = true := by decide +kernel
def tb_X4_seatChild : List Row := [(0, .aload_n 0, 1, [], 0), (1, .iload_n 2, 1, [], 0), (2, .invokevirtual 76, 3, [], 0), (5, .istore 4, 2, [], 0), (7, .aload_n 0, 1, [], 0), (8, .getfield 9, 3, [], 0), (11, .iload_n 1, 1, [], 0), (12, .iload_n 2, 1, [], 0), (13, .iastore, 1, [], 0), (14, .aload_n 0, 1, [], 0), (15, .getfield 15, 3, [], 0), (18, .iload_n 1, 1, [], 0), (19, .iload_n 3, 1, [], 0), (20, .iastore, 1, [], 0), (21, .aload_n 0, 1, [], 0), (22, .iload_n 2, 1, [], 0), (23, .iload 4, 2, [], 0), (25, .invokevirtual 79, 3, [], 0), (28, .ireturn, 1, [], 0)]
theorem tk_X4_seatChild : tbok m_X4_seatChild tb_X4_seatChild = true := by decide +kernel
def tb_X4_unseatChild : List Row := [(0, .aload_n 0, 1, [], 0), (1, .getfield 9, 3, [], 0), (4, .iload_n 1, 1, [], 0), (5, .iaload, 1, [], 0), (6, .istore_n 2, 1, [], 0), (7, .aload_n 0, 1, [], 0), (8, .iload_n 2, 1, [], 0), (9, .invokevirtual 76, 3, [], 0), (12, .istore_n 3, 1, [], 0), (13, .aload_n 0, 1, [], 0), (14, .getfield 15, 3, [], 0), (17, .iload_n 1, 1, [], 0), (18, .iconst 0, 1, [], 0), (19, .iastore, 1, [], 0), (20, .aload_n 0, 1, [], 0), (21, .iload_n 2, 1, [], 0), (22, .iload_n 3, 1, [], 0), (23, .invokevirtual 79, 3, [], 0), (26, .ireturn, 1, [], 0)]
theorem tk_X4_unseatChild : tbok m_X4_unseatChild tb_X4_unseatChild = true := by decide +kernel
def tb_X4_putStone : List Row := [(0, .aload_n 0, 1, [], 0), (1, .iload_n 2, 1, [], 0), (2, .invokevirtual 76, 3, [], 0), (5, .istore 4, 2, [], 0), (7, .aload_n 0, 1, [], 0), (8, .getfield 21, 3, [], 0), (11, .iload_n 1, 1, [], 0), (12, .iload_n 2, 1, [], 0), (13, .iastore, 1, [], 0), (14, .aload_n 0, 1, [], 0), (15, .getfield 24, 3, [], 0), (18, .iload_n 1, 1, [], 0), (19, .iload_n 3, 1, [], 0), (20, .iastore, 1, [], 0), (21, .aload_n 0, 1, [], 0), (22, .iload_n 2, 1, [], 0), (23, .iload 4, 2, [], 0), (25, .invokevirtual 79, 3, [], 0), (28, .ireturn, 1, [], 0)]
theorem tk_X4_putStone : tbok m_X4_putStone tb_X4_putStone = true := by decide +kernel
def tb_X4_liftStone : List Row := [(0, .aload_n 0, 1, [], 0), (1, .getfield 21, 3, [], 0), (4, .iload_n 1, 1, [], 0), (5, .iaload, 1, [], 0), (6, .istore_n 2, 1, [], 0), (7, .aload_n 0, 1, [], 0), (8, .iload_n 2, 1, [], 0), (9, .invokevirtual 76, 3, [], 0), (12, .istore_n 3, 1, [], 0), (13, .aload_n 0, 1, [], 0), (14, .getfield 24, 3, [], 0), (17, .iload_n 1, 1, [], 0), (18, .iconst 0, 1, [], 0), (19, .iastore, 1, [], 0), (20, .aload_n 0, 1, [], 0), (21, .iload_n 2, 1, [], 0), (22, .iload_n 3, 1, [], 0), (23, .invokevirtual 79, 3, [], 0), (26, .ireturn, 1, [], 0)]
theorem tk_X4_liftStone : tbok m_X4_liftStone tb_X4_liftStone = true := by decide +kernel
def tb_X4_settle : List Row := [(0, .aload_n 0, 1, [], 0), (1, .iload_n 1, 1, [], 0), (2, .invokevirtual 76, 3, [], 0), (5, .istore_n 3, 1, [], 0), (6, .iload_n 3, 1, [], 0), (7, .ifCond .eq 8, 3, [15], 0), (10, .iload_n 3, 1, [], 0), (11, .iload_n 2, 1, [], 0), (12, .if_icmp .ne 5, 3, [17], 0), (15, .iconst 0, 1, [], 0), (16, .ireturn, 1, [], 0), (17, .iconst 0, 1, [], 0), (18, .istore 4, 2, [], 0), (20, .iconst 0, 1, [], 0), (21, .istore 5, 2, [], 0), (23, .iload 5, 2, [], 0), (25, .aload_n 0, 1, [], 0), (26, .getfield 27, 3, [], 0), (29, .getfield 37, 3, [], 0), (32, .if_icmp .ge 48, 3, [80], 0), (35, .aload_n 0, 1, [], 0), (36, .getfield 9, 3, [], 0), (39, .iload 5, 2, [], 0), (41, .iaload, 1, [], 0), (42, .iload_n 1, 1, [], 0), (43, .if_icmp .ne 31, 3, [74], 0), (46, .aload_n 0, 1, [], 0), (47, .getfield 15, 3, [], 0), (50, .iload 5, 2, [], 0), (52, .iaload, 1, [], 0), (53, .invokestatic 83, 3, [], 0), (56, .iload_n 3, 1, [], 0), (57, .if_icmp .ne 17, 3, [74], 0), (60, .aload_n 0, 1, [], 0), (61, .getfield 18, 3, [], 0), (64, .iload 5, 2, [], 0), (66, .dup2, 1, [], 0), (67, .iaload, 1, [], 0), (68, .iconst 1, 1, [], 1), (69, .iadd, 1, [], 0), (70, .iastore, 1, [], 0), (71, .iinc 4 1, 3, [], 1), (74, .iinc 5 1, 3, [], 1), (77, .goto (-54), 3, [23], 0), (80, .iload 4, 2, [], 0), (82, .ireturn, 1, [], 0)]
theorem tk_X4_settle : tbok m_X4_settle tb_X4_settle = true := by decide +kernel
def tb_J6_bitCount_0f7a4 : List Row := [(0, .iload_n 0, 1, [], 0), (1, .iload_n 0, 1, [], 0), (2, .iconst 1, 1, [], 1), (3, .iushr, 1, [], 0), (4, .ldc_w 265, 3, [], 0), (7, .iand, 1, [], 0), (8, .isub, 1, [], 0), (9, .istore_n 0, 1, [], 0), (10, .iload_n 0, 1, [], 0), (11, .ldc_w 266, 3, [], 0), (14, .iand, 1, [], 0), (15, .iload_n 0, 1, [], 0), (16, .iconst 2, 1, [], 2), (17, .iushr, 1, [], 0), (18, .ldc_w 266, 3, [], 0), (21, .iand, 1, [], 0), (22, .iadd, 1, [], 0), (23, .istore_n 0, 1, [], 0), (24, .iload_n 0, 1, [], 0), (25, .iload_n 0, 1, [], 0), (26, .iconst 4, 1, [], 4), (27, .iushr, 1, [], 0), (28, .iadd, 1, [], 0), (29, .ldc_w 267, 3, [], 0), (32, .iand, 1, [], 0), (33, .istore_n 0, 1, [], 0), (34, .iload_n 0, 1, [], 0), (35, .iload_n 0, 1, [], 0), (36, .bipush 8, 2, [], 8), (38, .iushr, 1, [], 0), (39, .iadd, 1, [], 0), (40, .istore_n 0, 1, [], 0), (41, .iload_n 0, 1, [], 0), (42, .iload_n 0, 1, [], 0), (43, .bipush 16, 2, [], 16), (45, .iushr, 1, [], 0), (46, .iadd, 1, [], 0), (47, .istore_n 0, 1, [], 0), (48, .iload_n 0, 1, [], 0), (49, .bipush 63, 2, [], 63), (51, .iand, 1, [], 0), (52, .ireturn, 1, [], 0)]
theorem tk_J6_bitCount_0f7a4 : tbok m_J6_bitCount_0f7a4 tb_J6_bitCount_0f7a4 = true := by decide +kernel
def tb_J6_signum_0f7a4 : List Row := [(0, .iload_n 0, 1, [], 0), (1, .bipush 31, 2, [], 31), (3, .ishr, 1, [], 0), (4, .iload_n 0, 1, [], 0), (5, .ineg, 1, [], 0), (6, .bipush 31, 2, [], 31), (8, .iushr, 1, [], 0), (9, .ior, 1, [], 0), (10, .ireturn, 1, [], 0)]
theorem tk_J6_signum_0f7a4 : tbok m_J6_signum_0f7a4 tb_J6_signum_0f7a4 = true := by decide +kernel
def tb_J0_length_8abf5 : List Row := [(0, .aload_n 0, 1, [], 0), (1, .getfield 9, 3, [], 0), (4, .arraylength, 1, [], 0), (5, .aload_n 0, 1, [], 0), (6, .invokevirtual 335, 3, [], 0), (9, .ishr, 1, [], 0), (10, .ireturn, 1, [], 0)]
theorem tk_J0_length_8abf5 : tbok m_J0_length_8abf5 tb_J0_length_8abf5 = true := by decide +kernel
def tb_J0_charAt_5068e : List Row := [(0, .aload_n 0, 1, [], 0), (1, .invokevirtual 492, 3, [], 0), (4, .ifCond .eq 12, 3, [16], 0), (7, .aload_n 0, 1, [], 0), (8, .getfield 9, 3, [], 0), (11, .iload_n 1, 1, [], 0), (12, .invokestatic 495, 3, [], 0), (15, .ireturn, 1, [], 0), (16, .aload_n 0, 1, [], 0), (17, .getfield 9, 3, [], 0), (20, .iload_n 1, 1, [], 0), (21, .invokestatic 498, 3, [], 0), (24, .ireturn, 1, [], 0)]
theorem tk_J0_charAt_5068e : tbok m_J0_charAt_5068e tb_J0_charAt_5068e = true := by decide +kernel
def tb_J0_coder_7d493 : List Row := [(0, .getstatic 38, 3, [], 0), (3, .ifCond .eq 10, 3, [13], 0), (6, .aload_n 0, 1, [], 0), (7, .getfield 15, 3, [], 0), (10, .goto 4, 3, [14], 0), (13, .iconst 1, 1, [], 1), (14, .ireturn, 1, [], 0)]
theorem tk_J0_coder_7d493 : tbok m_J0_coder_7d493 tb_J0_coder_7d493 = true := by decide +kernel
def tb_J0_isLatin1_aae02 : List Row := [(0, .getstatic 38, 3, [], 0), (3, .ifCond .eq 14, 3, [17], 0), (6, .aload_n 0, 1, [], 0), (7, .getfield 15, 3, [], 0), (10, .ifCond .ne 7, 3, [17], 0), (13, .iconst 1, 1, [], 1), (14, .goto 4, 3, [18], 0), (17, .iconst 0, 1, [], 0), (18, .ireturn, 1, [], 0)]
theorem tk_J0_isLatin1_aae02 : tbok m_J0_isLatin1_aae02 tb_J0_isLatin1_aae02 = true := by decide +kernel
def tb_J0_checkIndex_df160 : List Row := [(0, .iload_n 0, 1, [], 0), (1, .iload_n 1, 1, [], 0), (2, .getstatic 1053, 3, [], 0), (5, .invokestatic 1059, 3, [], 0), (8, .pop, 1, [], 0), (9, .return_, 1, [], 0)]
theorem tk_J0_checkIndex_df160 : tbok m_J0_checkIndex_df160 tb_J0_checkIndex_df160 = true := by decide +kernel
def tb_J1_charAt_3b067 : List Row := [(0, .iload_n 1, 1, [], 0), (1, .aload_n 0, 1, [], 0), (2, .arraylength, 1, [], 0), (3, .invokestatic 9, 3, [], 0), (6, .aload_n 0, 1, [], 0), (7, .iload_n 1, 1, [], 0), (8, .baload, 1, [], 0), (9, .sipush 255, 3, [], 255), (12, .iand, 1, [], 0), (13, .i2c, 1, [], 0), (14, .ireturn, 1, [], 0)]
theorem tk_J1_charAt_3b067 : tbok m_J1_charAt_3b067 tb_J1_charAt_3b067 = true := by decide +kernel
def tb_J7_fill_53178 : List Row := [(0, .iconst 0, 1, [], 0), (1, .istore_n 2, 1, [], 0), (2, .aload_n 0, 1, [], 0), (3, .arraylength, 1, [], 0), (4, .istore_n 3, 1, [], 0), (5, .iload_n 2, 1, [], 0), (6, .iload_n 3, 1, [], 0), (7, .if_icmp .ge 13, 3, [20], 0), (10, .aload_n 0, 1, [], 0), (11, .iload_n 2, 1, [], 0), (12, .iload_n 1, 1, [], 0), (13, .iastore, 1, [], 0), (14, .iinc 2 1, 3, [], 1), (17, .goto (-12), 3, [5], 0), (20, .return_, 1, [], 0)]
theorem tk_J7_fill_53178 : tbok m_J7_fill_53178 tb_J7_fill_53178 = true := by decide +kernel
def tb_J3_checkIndex_8e157 : List Row := [(0, .iload_n 0, 1, [], 0), (1, .ifCond .lt 8, 3, [9], 0), (4, .iload_n 0, 1, [], 0), (5, .iload_n 1, 1, [], 0), (6, .if_icmp .lt 10, 3, [16], 0), (9, .aload_n 2, 1, [], 0), (10, .iload_n 0, 1, [], 0), (11, .iload_n 1, 1, [], 0), (12, .invokestatic 95, 3, [], 0), (15, .athrow, 1, [], 0), (16, .iload_n 0, 1, [], 0), (17, .ireturn, 1, [], 0)]
theorem tk_J3_checkIndex_8e157 : tbok m_J3_checkIndex_8e157 tb_J3_checkIndex_8e157 = true := by decide +kernel
end
section
def tb_X5_begin : List Row := [(0, .aload_n 0, 1, [], 0), (1, .iconst 0, 1, [], 0), (2, .putfield 27, 3, [], 0), (5, .aload_n 0, 1, [], 0), (6, .iconst 0, 1, [], 0), (7, .putfield 31, 3, [], 0), (10, .aload_n 0, 1, [], 0), (11, .iload_n 1, 1, [], 0), (12, .putfield 34, 3, [], 0), (15, .aload_n 0, 1, [], 0), (16, .iload_n 2, 1, [], 0), (17, .putfield 37, 3, [], 0), (20, .return_, 1, [], 0)]
theorem tk_X5_begin : tbok m_X5_begin tb_X5_begin = true := by decide +kernel
def tb_X5_addSeat : List Row := [(0, .aload_n 0, 1, [], 0), (1, .getfield 27, 3, [], 0), (4, .bipush 8, 2, [], 8), (6, .if_icmp .ge 23, 3, [29], 0), (9, .aload_n 0, 1, [], 0), (10, .getfield 9, 3, [], 0), (13, .aload_n 0, 1, [], 0), (14, .getfield 27, 3, [], 0), (17, .iload_n 1, 1, [], 0), (18, .iastore, 1, [], 0), (19, .aload_n 0, 1, [], 0), (20, .dup, 1, [], 0), (21, .getfield 27, 3, [], 0), (24, .iconst 1, 1, [], 1), (25, .iadd, 1, [], 0), (26, .putfield 27, 3, [], 0), (29, .return_, 1, [], 0)]
theorem tk_X5_addSeat : tbok m_X5_addSeat tb_X5_addSeat = true := by decide +kernel
def tb_X5_addBody : List Row := [(0, .aload_n 0, 1, [], 0), (1, .getfield 31, 3, [], 0), (4, .bipush 8, 2, [], 8), (6, .if_icmp .ge 33, 3, [39], 0), (9, .aload_n 0, 1, [], 0), (10, .getfield 15, 3, [], 0), (13, .aload_n 0, 1, [], 0), (14, .getfield 31, 3, [], 0), (17, .iload_n 1, 1, [], 0), (18, .iastore, 1, [], 0), (19, .aload_n 0, 1, [], 0), (20, .getfield 18, 3, [], 0), (23, .aload_n 0, 1, [], 0), (24, .getfield 31, 3, [], 0), (27, .iload_n 2, 1, [], 0), (28, .iastore, 1, [], 0), (29, .aload_n 0, 1, [], 0), (30, .dup, 1, [], 0), (31, .getfield 31, 3, [], 0), (34, .iconst 1, 1, [], 1), (35, .iadd, 1, [], 0), (36, .putfield 31, 3, [], 0), (39, .return_, 1, [], 0)]
theorem tk_X5_addBody : tbok m_X5_addBody tb_X5_addBody = true := by decide +kernel
def tb_X5_chosenStep : List Row := [(0, .iload_n 1, 1, [], 0), (1, .ifCond .lt 20, 3, [21], 0), (4, .iload_n 1, 1, [], 0), (5, .aload_n 0, 1, [], 0), (6, .getfield 31, 3, [], 0), (9, .if_icmp .ge 12, 3, [21], 0), (12, .aload_n 0, 1, [], 0), (13, .getfield 21, 3, [], 0), (16, .iload_n 1, 1, [], 0), (17, .iaload, 1, [], 0), (18, .goto 4, 3, [22], 0), (21, .iconst 0, 1, [], 0), (22, .ireturn, 1, [], 0)]
theorem tk_X5_chosenStep : tbok m_X5_chosenStep tb_X5_chosenStep = true := by decide +kernel
def tb_X5_countWays : List Row := [(0, .aload_n 0, 1, [], 0), (1, .invokevirtual 40, 3, [], 0), (4, .aload_n 0, 1, [], 0), (5, .iconst 0, 1, [], 0), (6, .iconst 0, 1, [], 0), (7, .aload_n 0, 1, [], 0), (8, .getfield 34, 3, [], 0), (11, .invokevirtual 43, 3, [], 0), (14, .ireturn, 1, [], 0)]
theorem tk_X5_countWays : tbok m_X5_countWays tb_X5_countWays = true := by decide +kernel
def tb_X5_findFirst : List Row := [(0, .aload_n 0, 1, [], 0), (1, .invokevirtual 40, 3, [], 0), (4, .aload_n 0, 1, [], 0), (5, .iconst 0, 1, [], 0), (6, .iconst 0, 1, [], 0), (7, .aload_n 0, 1, [], 0), (8, .getfield 34, 3, [], 0), (11, .invokevirtual 47, 3, [], 0), (14, .ireturn, 1, [], 0)]
theorem tk_X5_findFirst : tbok m_X5_findFirst tb_X5_findFirst = true := by decide +kernel
def tb_X5_fewestChanges : List Row := [(0, .aload_n 0, 1, [], 0), (1, .invokevirtual 40, 3, [], 0), (4, .aload_n 0, 1, [], 0), (5, .aload_n 0, 1, [], 0), (6, .getfield 31, 3, [], 0), (9, .iconst 1, 1, [], 1), (10, .iadd, 1, [], 0), (11, .putfield 51, 3, [], 0), (14, .aload_n 0, 1, [], 0), (15, .iconst 0, 1, [], 0), (16, .iconst 0, 1, [], 0), (17, .aload_n 0, 1, [], 0), (18, .getfield 34, 3, [], 0), (21, .iconst 0, 1, [], 0), (22, .invokevirtual 54, 3, [], 0), (25, .aload_n 0, 1, [], 0), (26, .getfield 51, 3, [], 0), (29, .aload_n 0, 1, [], 0), (30, .getfield 31, 3, [], 0), (33, .if_icmp .le 7, 3, [40], 0), (36, .iconst (-1), 1, [], -1), (37, .goto 7, 3, [44], 0), (40, .aload_n 0, 1, [], 0), (41, .getfield 51, 3, [], 0), (44, .ireturn, 1, [], 0)]
theorem tk_X5_fewestChanges : tbok m_X5_fewestChanges tb_X5_fewestChanges = true := by decide +kernel
def tb_X5_measureReach : List Row := [(0, .aload_n 0, 1, [], 0), (1, .getfield 24, 3, [], 0), (4, .aload_n 0, 1, [], 0), (5, .getfield 31, 3, [], 0), (8, .iconst 0, 1, [], 0), (9, .iastore, 1, [], 0), (10, .aload_n 0, 1, [], 0), (11, .getfield 31, 3, [], 0), (14, .iconst 1, 1, [], 1), (15, .isub, 1, [], 0), (16, .istore_n 1, 1, [], 0), (17, .iload_n 1, 1, [], 0), (18, .ifCond .lt 32, 3, [50], 0), (21, .aload_n 0, 1, [], 0), (22, .getfield 24, 3, [], 0), (25, .iload_n 1, 1, [], 0), (26, .aload_n 0, 1, [], 0), (27, .getfield 24, 3, [], 0), (30, .iload_n 1, 1, [], 0), (31, .iconst 1, 1, [], 1), (32, .iadd, 1, [], 0), (33, .iaload, 1, [], 0), (34, .iconst 4, 1, [], 4), (35, .aload_n 0, 1, [], 0), (36, .getfield 15, 3, [], 0), (39, .iload_n 1, 1, [], 0), (40, .iaload, 1, [], 0), (41, .imul, 1, [], 0), (42, .iadd, 1, [], 0), (43, .iastore, 1, [], 0), (44, .iinc 1 (-1), 3, [], -1), (47, .goto (-30), 3, [17], 0), (50, .return_, 1, [], 0)]
theorem tk_X5_measureReach : tbok m_X5_measureReach tb_X5_measureReach = true := by decide +kernel
def tb_X5_isHopeless : List Row := [(0, .iload_n 2, 1, [], 0), (1, .invokestatic 58, 3, [], 0), (4, .aload_n 0, 1, [], 0), (5, .getfield 37, 3, [], 0), (8, .aload_n 0, 1, [], 0), (9, .getfield 24, 3, [], 0), (12, .iload_n 1, 1, [], 0), (13, .iaload, 1, [], 0), (14, .iadd, 1, [], 0), (15, .if_icmp .le 7, 3, [22], 0), (18, .iconst 1, 1, [], 1), (19, .goto 4, 3, [23], 0), (22, .iconst 0, 1, [], 0), (23, .ireturn, 1, [], 0)]
theorem tk_X5_isHopeless : tbok m_X5_isHopeless tb_X5_isHopeless = true := by decide +kernel
def tb_X5_countFrom : List Row := [(0, .aload_n 0, 1, [], 0), (1, .iload_n 1, 1, [], 0), (2, .iload_n 3, 1, [], 0), (3, .invokevirtual 64, 3, [], 0), (6, .ifCond .eq 5, 3, [11], 0), (9, .iconst 0, 1, [], 0), (10, .ireturn, 1, [], 0), (11, .iload_n 1, 1, [], 0), (12, .aload_n 0, 1, [], 0), (13, .getfield 31, 3, [], 0), (16, .if_icmp .lt 5, 3, [21], 0), (19, .iconst 1, 1, [], 1), (20, .ireturn, 1, [], 0), (21, .iconst 0, 1, [], 0), (22, .istore 4, 2, [], 0), (24, .iconst 0, 1, [], 0), (25, .istore 5, 2, [], 0), (27, .iload 5, 2, [], 0), (29, .aload_n 0, 1, [], 0), (30, .getfield 27, 3, [], 0), (33, .if_icmp .ge 52, 3, [85], 0), (36, .iload_n 2, 1, [], 0), (37, .iconst 1, 1, [], 1), (38, .iload 5, 2, [], 0), (40, .ishl, 1, [], 0), (41, .iand, 1, [], 0), (42, .ifCond .ne 37, 3, [79], 0), (45, .iload 4, 2, [], 0), (47, .aload_n 0, 1, [], 0), (48, .iload_n 1, 1, [], 0), (49, .iconst 1, 1, [], 1), (50, .iadd, 1, [], 0), (51, .iload_n 2, 1, [], 0), (52, .iconst 1, 1, [], 1), (53, .iload 5, 2, [], 0), (55, .ishl, 1, [], 0), (56, .ior, 1, [], 0), (57, .iload_n 3, 1, [], 0), (58, .aload_n 0, 1, [], 0), (59, .getfield 15, 3, [], 0), (62, .iload_n 1, 1, [], 0), (63, .iaload, 1, [], 0), (64, .aload_n 0, 1, [], 0), (65, .getfield 9, 3, [], 0), (68, .iload 5, 2, [], 0), (70, .iaload, 1, [], 0), (71, .imul, 1, [], 0), (72, .iadd, 1, [], 0), (73, .invokevirtual 43, 3, [], 0), (76, .iadd, 1, [], 0), (77, .istore 4, 2, [], 0), (79, .iinc 5 1, 3, [], 1), (82, .goto (-55), 3, [27], 0), (85, .iload 4, 2, [], 0), (87, .ireturn, 1, [], 0)]
theorem tk_X5_countFrom : tbok m_X5_countFrom tb_X5_countFrom = true := by decide +kernel
def tb_X5_findFrom : List Row := [(0, .aload_n 0, 1, [], 0), (1, .iload_n 1, 1, [], 0), (2, .iload_n 3, 1, [], 0), (3, .invokevirtual 64, 3, [], 0), (6, .ifCond .eq 5, 3, [11], 0), (9, .iconst 0, 1, [], 0), (10, .ireturn, 1, [], 0), (11, .iload_n 1, 1, [], 0), (12, .aload_n 0, 1, [], 0), (13, .getfield 31, 3, [], 0), (16, .if_icmp .lt 5, 3, [21], 0), (19, .iconst 1, 1, [], 1), (20, .ireturn, 1, [], 0), (21, .iconst 0, 1, [], 0), (22, .istore 4, 2, [], 0), (24, .iload 4, 2, [], 0), (26, .aload_n 0, 1, [], 0), (27, .getfield 27, 3, [], 0), (30, .if_icmp .ge 65, 3, [95], 0), (33, .iload_n 2, 1, [], 0), (34, .iconst 1, 1, [], 1), (35, .iload 4, 2, [], 0), (37, .ishl, 1, [], 0), (38, .iand, 1, [], 0), (39, .ifCond .ne 50, 3, [89], 0), (42, .aload_n 0, 1, [], 0), (43, .getfield 21, 3, [], 0), (46, .iload_n 1, 1, [], 0), (47, .aload_n 0, 1, [], 0), (48, .getfield 9, 3, [], 0), (51, .iload 4, 2, [], 0), (53, .iaload, 1, [], 0), (54, .iastore, 1, [], 0), (55, .aload_n 0, 1, [], 0), (56, .iload_n 1, 1, [], 0), (57, .iconst 1, 1, [], 1), (58, .iadd, 1, [], 0), (59, .iload_n 2, 1, [], 0), (60, .iconst 1, 1, [], 1), (61, .iload 4, 2, [], 0), (63, .ishl, 1, [], 0), (64, .ior, 1, [], 0), (65, .iload_n 3, 1, [], 0), (66, .aload_n 0, 1, [], 0), (67, .getfield 15, 3, [], 0), (70, .iload_n 1, 1, [], 0), (71, .iaload, 1, [], 0), (72, .aload_n 0, 1, [], 0), (73, .getfield 9, 3, [], 0), (76, .iload 4, 2, [], 0), (78, .iaload, 1, [], 0), (79, .imul, 1, [], 0), (80, .iadd, 1, [], 0), (81, .invokevirtual 47, 3, [], 0), (84, .ifCond .eq 5, 3, [89], 0), (87, .iconst 1, 1, [], 1), (88, .ireturn, 1, [], 0), (89, .iinc 4 1, 3, [], 1), (92, .goto (-68), 3, [24], 0), (95, .iconst 0, 1, [], 0), (96, .ireturn, 1, [], 0)]
theorem tk_X5_findFrom : tbok m_X5_findFrom tb_X5_findFrom = true := by decide +kernel
def tb_X5_changeFrom : List Row := [(0, .iload 4, 2, [], 0), (2, .aload_n 0, 1, [], 0), (3, .getfield 51, 3, [], 0), (6, .if_icmp .ge 12, 3, [18], 0), (9, .aload_n 0, 1, [], 0), (10, .iload_n 1, 1, [], 0), (11, .iload_n 3, 1, [], 0), (12, .invokevirtual 64, 3, [], 0), (15, .ifCond .eq 4, 3, [19], 0), (18, .return_, 1, [], 0), (19, .iload_n 1, 1, [], 0), (20, .aload_n 0, 1, [], 0), (21, .getfield 31, 3, [], 0), (24, .if_icmp .lt 10, 3, [34], 0), (27, .aload_n 0, 1, [], 0), (28, .iload 4, 2, [], 0), (30, .putfield 51, 3, [], 0), (33, .return_, 1, [], 0), (34, .iconst 0, 1, [], 0), (35, .istore 5, 2, [], 0), (37, .iload 5, 2, [], 0), (39, .aload_n 0, 1, [], 0), (40, .getfield 27, 3, [], 0), (43, .if_icmp .ge 75, 3, [118], 0), (46, .iload_n 2, 1, [], 0), (47, .iconst 1, 1, [], 1), (48, .iload 5, 2, [], 0), (50, .ishl, 1, [], 0), (51, .iand, 1, [], 0), (52, .ifCond .ne 60, 3, [112], 0), (55, .aload_n 0, 1, [], 0), (56, .getfield 9, 3, [], 0), (59, .iload 5, 2, [], 0), (61, .iaload, 1, [], 0), (62, .aload_n 0, 1, [], 0), (63, .getfield 18, 3, [], 0), (66, .iload_n 1, 1, [], 0), (67, .iaload, 1, [], 0), (68, .if_icmp .ne 7, 3, [75], 0), (71, .iconst 0, 1, [], 0), (72, .goto 4, 3, [76], 0), (75, .iconst 1, 1, [], 1), (76, .istore 6, 2, [], 0), (78, .aload_n 0, 1, [], 0), (79, .iload_n 1, 1, [], 0), (80, .iconst 1, 1, [], 1), (81, .iadd, 1, [], 0), (82, .iload_n 2, 1, [], 0), (83, .iconst 1, 1, [], 1), (84, .iload 5, 2, [], 0), (86, .ishl, 1, [], 0), (87, .ior, 1, [], 0), (88, .iload_n 3, 1, [], 0), (89, .aload_n 0, 1, [], 0), (90, .getfield 15, 3, [], 0), (93, .iload_n 1, 1, [], 0), (94, .iaload, 1, [], 0), (95, .aload_n 0, 1, [], 0), (96, .getfield 9, 3, [], 0), (99, .iload 5, 2, [], 0), (101, .iaload, 1, [], 0), (102, .imul, 1, [], 0), (103, .iadd, 1, [], 0), (104, .iload 4, 2, [], 0), (106, .iload 6, 2, [], 0), (108, .iadd, 1, [], 0), (109, .invokevirtual 54, 3, [], 0), (112, .iinc 5 1, 3, [], 1), (115, .goto (-78), 3, [37], 0), (118, .return_, 1, [], 0)]
theorem tk_X5_changeFrom : tbok m_X5_changeFrom tb_X5_changeFrom = true := by decide +kernel
def tb_X6_append : List Row := [(0, .aload_n 0, 1, [], 0), (1, .getfield 22, 3, [], 0), (4, .sipush 300, 3, [], 300), (7, .if_icmp .ge 23, 3, [30], 0), (10, .aload_n 0, 1, [], 0), (11, .getfield 18, 3, [], 0), (14, .aload_n 0, 1, [], 0), (15, .getfield 22, 3, [], 0), (18, .iload_n 1, 1, [], 0), (19, .iastore, 1, [], 0), (20, .aload_n 0, 1, [], 0), (21, .dup, 1, [], 0), (22, .getfield 22, 3, [], 0), (25, .iconst 1, 1, [], 1), (26, .iadd, 1, [], 0), (27, .putfield 22, 3, [], 0), (30, .return_, 1, [], 0)]
theorem tk_X6_append : tbok m_X6_append tb_X6_append = true := by decide +kernel
def tb_X6_readAll : List Row := [(0, .aload_n 0, 1, [], 0), (1, .getfield 12, 3, [], 0), (4, .invokevirtual 26, 3, [], 0), (7, .aload_n 0, 1, [], 0), (8, .iconst 0, 1, [], 0), (9, .putfield 29, 3, [], 0), (12, .iconst 0, 1, [], 0), (13, .istore_n 1, 1, [], 0), (14, .iload_n 1, 1, [], 0), (15, .sipush 300, 3, [], 300), (18, .if_icmp .gt 79, 3, [97], 0), (21, .aload_n 0, 1, [], 0), (22, .invokevirtual 32, 3, [], 0), (25, .aload_n 0, 1, [], 0), (26, .getfield 35, 3, [], 0), (29, .ifCond .ne 5, 3, [34], 0), (32, .iload_n 1, 1, [], 0), (33, .ireturn, 1, [], 0), (34, .aload_n 0, 1, [], 0), (35, .getfield 35, 3, [], 0), (38, .iconst 1, 1, [], 1), (39, .if_icmp .ne 10, 3, [49], 0), (42, .aload_n 0, 1, [], 0), (43, .invokevirtual 38, 3, [], 0), (46, .goto 38, 3, [84], 0), (49, .aload_n 0, 1, [], 0), (50, .getfield 35, 3, [], 0), (53, .iconst 2, 1, [], 2), (54, .if_icmp .ne 10, 3, [64], 0), (57, .aload_n 0, 1, [], 0), (58, .invokevirtual 42, 3, [], 0), (61, .goto 23, 3, [84], 0), (64, .aload_n 0, 1, [], 0), (65, .getfield 35, 3, [], 0), (68, .iconst 3, 1, [], 3), (69, .if_icmp .ne 14, 3, [83], 0), (72, .aload_n 0, 1, [], 0), (73, .invokevirtual 45, 3, [], 0), (76, .ifCond .eq 7, 3, [83], 0), (79, .iconst 1, 1, [], 1), (80, .goto 4, 3, [84], 0), (83, .iconst 0, 1, [], 0), (84, .istore_n 2, 1, [], 0), (85, .iload_n 2, 1, [], 0), (86, .ifCond .ne 5, 3, [91], 0), (89, .iconst (-1), 1, [], -1), (90, .ireturn, 1, [], 0), (91, .iinc 1 1, 3, [], 1), (94, .goto (-80), 3, [14], 0), (97, .iconst (-1), 1, [], -1), (98, .ireturn, 1, [], 0)]
theorem tk_X6_readAll : tbok m_X6_readAll tb_X6_readAll = true := by decide +kernel
def tb_X6_readPlank : List Row := [(0, .aload_n 0, 1, [], 0), (1, .getfield 12, 3, [], 0), (4, .getfield 48, 3, [], 0), (7, .istore_n 1, 1, [], 0), (8, .iload_n 1, 1, [], 0), (9, .iconst 3, 1, [], 3), (10, .if_icmp .ge 12, 3, [22], 0), (13, .aload_n 0, 1, [], 0), (14, .iconst 1, 1, [], 1), (15, .iconst 4, 1, [], 4), (16, .invokevirtual 51, 3, [], 0), (19, .ifCond .ne 5, 3, [24], 0), (22, .iconst 0, 1, [], 0), (23, .ireturn, 1, [], 0), (24, .aload_n 0, 1, [], 0), (25, .getfield 12, 3, [], 0), (28, .getfield 55, 3, [], 0), (31, .iload_n 1, 1, [], 0), (32, .aload_n 0, 1, [], 0), (33, .getfield 58, 3, [], 0), (36, .iastore, 1, [], 0), (37, .aload_n 0, 1, [], 0), (38, .iconst 0, 1, [], 0), (39, .bipush 20, 2, [], 20), (41, .invokevirtual 51, 3, [], 0), (44, .ifCond .ne 5, 3, [49], 0), (47, .iconst 0, 1, [], 0), (48, .ireturn, 1, [], 0), (49, .aload_n 0, 1, [], 0), (50, .getfield 12, 3, [], 0), (53, .getfield 61, 3, [], 0), (56, .iload_n 1, 1, [], 0), (57, .aload_n 0, 1, [], 0), (58, .getfield 58, 3, [], 0), (61, .iastore, 1, [], 0), (62, .aload_n 0, 1, [], 0), (63, .getfield 12, 3, [], 0), (66, .dup, 1, [], 0), (67, .getfield 48, 3, [], 0), (70, .iconst 1, 1, [], 1), (71, .iadd, 1, [], 0), (72, .putfield 48, 3, [], 0), (75, .aload_n 0, 1, [], 0), (76, .invokevirtual 64, 3, [], 0), (79, .ireturn, 1, [], 0)]
theorem tk_X6_readPlank : tbok m_X6_readPlank tb_X6_readPlank = true := by decide +kernel
def tb_X6_readChild : List Row := [(0, .aload_n 0, 1, [], 0), (1, .getfield 12, 3, [], 0), (4, .getfield 67, 3, [], 0), (7, .istore_n 1, 1, [], 0), (8, .iload_n 1, 1, [], 0), (9, .bipush 8, 2, [], 8), (11, .if_icmp .ge 13, 3, [24], 0), (14, .aload_n 0, 1, [], 0), (15, .iconst 1, 1, [], 1), (16, .bipush 60, 2, [], 60), (18, .invokevirtual 51, 3, [], 0), (21, .ifCond .ne 5, 3, [26], 0), (24, .iconst 0, 1, [], 0), (25, .ireturn, 1, [], 0), (26, .aload_n 0, 1, [], 0), (27, .getfield 12, 3, [], 0), (30, .getfield 70, 3, [], 0), (33, .iload_n 1, 1, [], 0), (34, .aload_n 0, 1, [], 0), (35, .getfield 58, 3, [], 0), (38, .iastore, 1, [], 0), (39, .aload_n 0, 1, [], 0), (40, .iconst 1, 1, [], 1), (41, .bipush 30, 2, [], 30), (43, .invokevirtual 51, 3, [], 0), (46, .ifCond .ne 5, 3, [51], 0), (49, .iconst 0, 1, [], 0), (50, .ireturn, 1, [], 0), (51, .aload_n 0, 1, [], 0), (52, .getfield 12, 3, [], 0), (55, .getfield 73, 3, [], 0), (58, .iload_n 1, 1, [], 0), (59, .aload_n 0, 1, [], 0), (60, .getfield 58, 3, [], 0), (63, .iastore, 1, [], 0), (64, .aload_n 0, 1, [], 0), (65, .getfield 12, 3, [], 0), (68, .dup, 1, [], 0), (69, .getfield 67, 3, [], 0), (72, .iconst 1, 1, [], 1), (73, .iadd, 1, [], 0), (74, .putfield 67, 3, [], 0), (77, .aload_n 0, 1, [], 0), (78, .invokevirtual 64, 3, [], 0), (81, .ireturn, 1, [], 0)]
theorem tk_X6_readChild : tbok m_X6_readChild tb_X6_readChild = true := by decide +kernel
def tb_X6_readStone : List Row := [(0, .aload_n 0, 1, [], 0), (1, .getfield 12, 3, [], 0), (4, .getfield 76, 3, [], 0), (7, .istore_n 1, 1, [], 0), (8, .iload_n 1, 1, [], 0), (9, .iconst 5, 1, [], 5), (10, .if_icmp .ge 13, 3, [23], 0), (13, .aload_n 0, 1, [], 0), (14, .iconst 1, 1, [], 1), (15, .bipush 20, 2, [], 20), (17, .invokevirtual 51, 3, [], 0), (20, .ifCond .ne 5, 3, [25], 0), (23, .iconst 0, 1, [], 0), (24, .ireturn, 1, [], 0), (25, .aload_n 0, 1, [], 0), (26, .getfield 12, 3, [], 0), (29, .getfield 79, 3, [], 0), (32, .iload_n 1, 1, [], 0), (33, .aload_n 0, 1, [], 0), (34, .getfield 58, 3, [], 0), (37, .iastore, 1, [], 0), (38, .aload_n 0, 1, [], 0), (39, .getfield 12, 3, [], 0), (42, .dup, 1, [], 0), (43, .getfield 76, 3, [], 0), (46, .iconst 1, 1, [], 1), (47, .iadd, 1, [], 0), (48, .putfield 76, 3, [], 0), (51, .aload_n 0, 1, [], 0), (52, .invokevirtual 64, 3, [], 0), (55, .ireturn, 1, [], 0)]
theorem tk_X6_readStone : tbok m_X6_readStone tb_X6_readStone = true := by decide +kernel
def tb_X6_readNumber : List Row := [(0, .aload_n 0, 1, [], 0), (1, .invokevirtual 32, 3, [], 0), (4, .aload_n 0, 1, [], 0), (5, .getfield 35, 3, [], 0), (8, .iconst 4, 1, [], 4), (9, .if_icmp .ne 23, 3, [32], 0), (12, .aload_n 0, 1, [], 0), (13, .getfield 58, 3, [], 0), (16, .iload_n 1, 1, [], 0), (17, .if_icmp .lt 15, 3, [32], 0), (20, .aload_n 0, 1, [], 0), (21, .getfield 58, 3, [], 0), (24, .iload_n 2, 1, [], 0), (25, .if_icmp .gt 7, 3, [32], 0), (28, .iconst 1, 1, [], 1), (29, .goto 4, 3, [33], 0), (32, .iconst 0, 1, [], 0), (33, .ireturn, 1, [], 0)]
theorem tk_X6_readNumber : tbok m_X6_readNumber tb_X6_readNumber = true := by decide +kernel
def tb_X6_readSemicolon : List Row := [(0, .aload_n 0, 1, [], 0), (1, .invokevirtual 32, 3, [], 0), (4, .aload_n 0, 1, [], 0), (5, .getfield 35, 3, [], 0), (8, .iconst 5, 1, [], 5), (9, .if_icmp .ne 7, 3, [16], 0), (12, .iconst 1, 1, [], 1), (13, .goto 4, 3, [17], 0), (16, .iconst 0, 1, [], 0), (17, .ireturn, 1, [], 0)]
theorem tk_X6_readSemicolon : tbok m_X6_readSemicolon tb_X6_readSemicolon = true := by decide +kernel
def tb_X6_readToken : List Row := [(0, .aload_n 0, 1, [], 0), (1, .getfield 29, 3, [], 0), (4, .aload_n 0, 1, [], 0), (5, .getfield 22, 3, [], 0), (8, .if_icmp .ge 30, 3, [38], 0), (11, .aload_n 0, 1, [], 0), (12, .getfield 18, 3, [], 0), (15, .aload_n 0, 1, [], 0), (16, .getfield 29, 3, [], 0), (19, .iaload, 1, [], 0), (20, .bipush 32, 2, [], 32), (22, .if_icmp .ne 16, 3, [38], 0), (25, .aload_n 0, 1, [], 0), (26, .dup, 1, [], 0), (27, .getfield 29, 3, [], 0), (30, .iconst 1, 1, [], 1), (31, .iadd, 1, [], 0), (32, .putfield 29, 3, [], 0), (35, .goto (-35), 3, [0], 0), (38, .aload_n 0, 1, [], 0), (39, .aload_n 0, 1, [], 0), (40, .getfield 29, 3, [], 0), (43, .putfield 82, 3, [], 0), (46, .aload_n 0, 1, [], 0), (47, .getfield 29, 3, [], 0), (50, .aload_n 0, 1, [], 0), (51, .getfield 22, 3, [], 0), (54, .if_icmp .lt 9, 3, [63], 0), (57, .aload_n 0, 1, [], 0), (58, .iconst 0, 1, [], 0), (59, .putfield 35, 3, [], 0), (62, .return_, 1, [], 0), (63, .aload_n 0, 1, [], 0), (64, .getfield 18, 3, [], 0), (67, .aload_n 0, 1, [], 0), (68, .getfield 29, 3, [], 0), (71, .iaload, 1, [], 0), (72, .istore_n 1, 1, [], 0), (73, .iload_n 1, 1, [], 0), (74, .invokestatic 85, 3, [], 0), (77, .ifCond .eq 10, 3, [87], 0), (80, .aload_n 0, 1, [], 0), (81, .invokevirtual 89, 3, [], 0), (84, .goto 43, 3, [127], 0), (87, .iload_n 1, 1, [], 0), (88, .invokestatic 92, 3, [], 0), (91, .ifCond .eq 10, 3, [101], 0), (94, .aload_n 0, 1, [], 0), (95, .invokevirtual 95, 3, [], 0), (98, .goto 29, 3, [127], 0), (101, .aload_n 0, 1, [], 0), (102, .dup, 1, [], 0), (103, .getfield 29, 3, [], 0), (106, .iconst 1, 1, [], 1), (107, .iadd, 1, [], 0), (108, .putfield 29, 3, [], 0), (111, .aload_n 0, 1, [], 0), (112, .iload_n 1, 1, [], 0), (113, .bipush 59, 2, [], 59), (115, .if_icmp .ne 7, 3, [122], 0), (118, .iconst 5, 1, [], 5), (119, .goto 5, 3, [124], 0), (122, .bipush 6, 2, [], 6), (124, .putfield 35, 3, [], 0), (127, .return_, 1, [], 0)]
theorem tk_X6_readToken : tbok m_X6_readToken tb_X6_readToken = true := by decide +kernel
def tb_X6_readWord : List Row := [(0, .aload_n 0, 1, [], 0), (1, .getfield 29, 3, [], 0), (4, .aload_n 0, 1, [], 0), (5, .getfield 22, 3, [], 0), (8, .if_icmp .ge 31, 3, [39], 0), (11, .aload_n 0, 1, [], 0), (12, .getfield 18, 3, [], 0), (15, .aload_n 0, 1, [], 0), (16, .getfield 29, 3, [], 0), (19, .iaload, 1, [], 0), (20, .invokestatic 85, 3, [], 0), (23, .ifCond .eq 16, 3, [39], 0), (26, .aload_n 0, 1, [], 0), (27, .dup, 1, [], 0), (28, .getfield 29, 3, [], 0), (31, .iconst 1, 1, [], 1), (32, .iadd, 1, [], 0), (33, .putfield 29, 3, [], 0), (36, .goto (-36), 3, [0], 0), (39, .aload_n 0, 1, [], 0), (40, .ldc 98, 2, [], 0), (42, .invokevirtual 100, 3, [], 0), (45, .ifCond .eq 11, 3, [56], 0), (48, .aload_n 0, 1, [], 0), (49, .iconst 1, 1, [], 1), (50, .putfield 35, 3, [], 0), (53, .goto 39, 3, [92], 0), (56, .aload_n 0, 1, [], 0), (57, .ldc 104, 2, [], 0), (59, .invokevirtual 100, 3, [], 0), (62, .ifCond .eq 11, 3, [73], 0), (65, .aload_n 0, 1, [], 0), (66, .iconst 2, 1, [], 2), (67, .putfield 35, 3, [], 0), (70, .goto 22, 3, [92], 0), (73, .aload_n 0, 1, [], 0), (74, .aload_n 0, 1, [], 0), (75, .ldc 106, 2, [], 0), (77, .invokevirtual 100, 3, [], 0), (80, .ifCond .eq 7, 3, [87], 0), (83, .iconst 3, 1, [], 3), (84, .goto 5, 3, [89], 0), (87, .bipush 6, 2, [], 6), (89, .putfield 35, 3, [], 0), (92, .return_, 1, [], 0)]
theorem tk_X6_readWord : tbok m_X6_readWord tb_X6_readWord = true := by decide +kernel
def tb_X6_spells : List Row := [(0, .aload_n 0, 1, [], 0), (1, .getfield 29, 3, [], 0), (4, .aload_n 0, 1, [], 0), (5, .getfield 82, 3, [], 0), (8, .isub, 1, [], 0), (9, .aload_n 1, 1, [], 0), (10, .invokevirtual 108, 3, [], 0), (13, .if_icmp .eq 5, 3, [18], 0), (16, .iconst 0, 1, [], 0), (17, .ireturn, 1, [], 0), (18, .iconst 0, 1, [], 0), (19, .istore_n 2, 1, [], 0), (20, .iload_n 2, 1, [], 0), (21, .aload_n 1, 1, [], 0), (22, .invokevirtual 108, 3, [], 0), (25, .if_icmp .ge 30, 3, [55], 0), (28, .aload_n 0, 1, [], 0), (29, .getfield 18, 3, [], 0), (32, .aload_n 0, 1, [], 0), (33, .getfield 82, 3, [], 0), (36, .iload_n 2, 1, [], 0), (37, .iadd, 1, [], 0), (38, .iaload, 1, [], 0), (39, .aload_n 1, 1, [], 0), (40, .iload_n 2, 1, [], 0), (41, .invokevirtual 113, 3, [], 0), (44, .if_icmp .eq 5, 3, [49], 0), (47, .iconst 0, 1, [], 0), (48, .ireturn, 1, [], 0), (49, .iinc 2 1, 3, [], 1), (52, .goto (-32), 3, [20], 0), (55, .iconst 1, 1, [], 1), (56, .ireturn, 1, [], 0)]
theorem tk_X6_spells : tbok m_X6_spells tb_X6_spells = true := by decide +kernel
def tb_X6_readDigits : List Row := [(0, .aload_n 0, 1, [], 0), (1, .iconst 0, 1, [], 0), (2, .putfield 58, 3, [], 0), (5, .aload_n 0, 1, [], 0), (6, .getfield 29, 3, [], 0), (9, .aload_n 0, 1, [], 0), (10, .getfield 22, 3, [], 0), (13, .if_icmp .ge 60, 3, [73], 0), (16, .aload_n 0, 1, [], 0), (17, .getfield 18, 3, [], 0), (20, .aload_n 0, 1, [], 0), (21, .getfield 29, 3, [], 0), (24, .iaload, 1, [], 0), (25, .invokestatic 92, 3, [], 0), (28, .ifCond .eq 45, 3, [73], 0), (31, .aload_n 0, 1, [], 0), (32, .bipush 100, 2, [], 100), (34, .bipush 10, 2, [], 10), (36, .aload_n 0, 1, [], 0), (37, .getfield 58, 3, [], 0), (40, .imul, 1, [], 0), (41, .aload_n 0, 1, [], 0), (42, .getfield 18, 3, [], 0), (45, .aload_n 0, 1, [], 0), (46, .getfield 29, 3, [], 0), (49, .iaload, 1, [], 0), (50, .iadd, 1, [], 0), (51, .bipush 48, 2, [], 48), (53, .isub, 1, [], 0), (54, .invokestatic 117, 3, [], 0), (57, .putfield 58, 3, [], 0), (60, .aload_n 0, 1, [], 0), (61, .dup, 1, [], 0), (62, .getfield 29, 3, [], 0), (65, .iconst 1, 1, [], 1), (66, .iadd, 1, [], 0), (67, .putfield 29, 3, [], 0), (70, .goto (-65), 3, [5], 0), (73, .aload_n 0, 1, [], 0), (74, .getfield 18, 3, [], 0), (77, .aload_n 0, 1, [], 0), (78, .getfield 82, 3, [], 0), (81, .iaload, 1, [], 0), (82, .bipush 48, 2, [], 48), (84, .if_icmp .ne 20, 3, [104], 0), (87, .aload_n 0, 1, [], 0), (88, .getfield 29, 3, [], 0), (91, .aload_n 0, 1, [], 0), (92, .getfield 82, 3, [], 0), (95, .isub, 1, [], 0), (96, .iconst 1, 1, [], 1), (97, .if_icmp .le 7, 3, [104], 0), (100, .iconst 1, 1, [], 1), (101, .goto 4, 3, [105], 0), (104, .iconst 0, 1, [], 0), (105, .istore_n 1, 1, [], 0), (106, .aload_n 0, 1, [], 0), (107, .iload_n 1, 1, [], 0), (108, .ifCond .ne 12, 3, [120], 0), (111, .aload_n 0, 1, [], 0), (112, .getfield 58, 3, [], 0), (115, .bipush 99, 2, [], 99), (117, .if_icmp .le 8, 3, [125], 0), (120, .bipush 6, 2, [], 6), (122, .goto 4, 3, [126], 0), (125, .iconst 4, 1, [], 4), (126, .putfield 35, 3, [], 0), (129, .return_, 1, [], 0)]
theorem tk_X6_readDigits : tbok m_X6_readDigits tb_X6_readDigits = true := by decide +kernel
def tb_X6_isLetter : List Row := [(0, .iload_n 0, 1, [], 0), (1, .bipush 97, 2, [], 97), (3, .if_icmp .lt 13, 3, [16], 0), (6, .iload_n 0, 1, [], 0), (7, .bipush 122, 2, [], 122), (9, .if_icmp .gt 7, 3, [16], 0), (12, .iconst 1, 1, [], 1), (13, .goto 4, 3, [17], 0), (16, .iconst 0, 1, [], 0), (17, .ireturn, 1, [], 0)]
theorem tk_X6_isLetter : tbok m_X6_isLetter tb_X6_isLetter = true := by decide +kernel
def tb_X6_isDigit : List Row := [(0, .iload_n 0, 1, [], 0), (1, .bipush 48, 2, [], 48), (3, .if_icmp .lt 13, 3, [16], 0), (6, .iload_n 0, 1, [], 0), (7, .bipush 57, 2, [], 57), (9, .if_icmp .gt 7, 3, [16], 0), (12, .iconst 1, 1, [], 1), (13, .goto 4, 3, [17], 0), (16, .iconst 0, 1, [], 0), (17, .ireturn, 1, [], 0)]
theorem tk_X6_isDigit : tbok m_X6_isDigit tb_X6_isDigit = true := by decide +kernel
def tb_X7_begin : List Row := [(0, .aload_n 0, 1, [], 0), (1, .iload_n 1, 1, [], 0), (2, .putfield 28, 3, [], 0), (5, .aload_n 0, 1, [], 0), (6, .iconst 0, 1, [], 0), (7, .putfield 32, 3, [], 0), (10, .aload_n 0, 1, [], 0), (11, .iconst 0, 1, [], 0), (12, .putfield 35, 3, [], 0), (15, .return_, 1, [], 0)]
theorem tk_X7_begin : tbok m_X7_begin tb_X7_begin = true := by decide +kernel
def tb_X7_hasStranger : List Row := [(0, .iload_n 1, 1, [], 0), (1, .ifCond .lt 15, 3, [16], 0), (4, .iload_n 1, 1, [], 0), (5, .aload_n 0, 1, [], 0), (6, .getfield 28, 3, [], 0), (9, .if_icmp .ge 7, 3, [16], 0), (12, .iconst 1, 1, [], 1), (13, .goto 4, 3, [17], 0), (16, .iconst 0, 1, [], 0), (17, .ireturn, 1, [], 0)]
theorem tk_X7_hasStranger : tbok m_X7_hasStranger tb_X7_hasStranger = true := by decide +kernel
def tb_X7_addTrial : List Row := [(0, .aload_n 0, 1, [], 0), (1, .getfield 32, 3, [], 0), (4, .bipush 12, 2, [], 12), (6, .if_icmp .ge 48, 3, [54], 0), (9, .aload_n 0, 1, [], 0), (10, .getfield 9, 3, [], 0), (13, .aload_n 0, 1, [], 0), (14, .getfield 32, 3, [], 0), (17, .iload_n 1, 1, [], 0), (18, .iastore, 1, [], 0), (19, .aload_n 0, 1, [], 0), (20, .getfield 13, 3, [], 0), (23, .aload_n 0, 1, [], 0), (24, .getfield 32, 3, [], 0), (27, .iload_n 2, 1, [], 0), (28, .iastore, 1, [], 0), (29, .aload_n 0, 1, [], 0), (30, .getfield 16, 3, [], 0), (33, .aload_n 0, 1, [], 0), (34, .getfield 32, 3, [], 0), (37, .iload_n 3, 1, [], 0), (38, .iastore, 1, [], 0), (39, .aload_n 0, 1, [], 0), (40, .dup, 1, [], 0), (41, .getfield 32, 3, [], 0), (44, .iconst 1, 1, [], 1), (45, .iadd, 1, [], 0), (46, .putfield 32, 3, [], 0), (49, .aload_n 0, 1, [], 0), (50, .iconst 0, 1, [], 0), (51, .putfield 35, 3, [], 0), (54, .return_, 1, [], 0)]
theorem tk_X7_addTrial : tbok m_X7_addTrial tb_X7_addTrial = true := by decide +kernel
def tb_X7_fitting : List Row := [(0, .aload_n 0, 1, [], 0), (1, .invokevirtual 39, 3, [], 0), (4, .aload_n 0, 1, [], 0), (5, .getfield 42, 3, [], 0), (8, .ireturn, 1, [], 0)]
theorem tk_X7_fitting : tbok m_X7_fitting tb_X7_fitting = true := by decide +kernel
def tb_X7_fittingWith : List Row := [(0, .aload_n 0, 1, [], 0), (1, .invokevirtual 39, 3, [], 0), (4, .aload_n 0, 1, [], 0), (5, .getfield 22, 3, [], 0), (8, .iload_n 1, 1, [], 0), (9, .bipush 7, 2, [], 7), (11, .imul, 1, [], 0), (12, .iload_n 2, 1, [], 0), (13, .iadd, 1, [], 0), (14, .iaload, 1, [], 0), (15, .ireturn, 1, [], 0)]
theorem tk_X7_fittingWith : tbok m_X7_fittingWith tb_X7_fittingWith = true := by decide +kernel
def tb_X7_onlyWeight : List Row := [(0, .iconst 0, 1, [], 0), (1, .istore_n 2, 1, [], 0), (2, .iconst 1, 1, [], 1), (3, .istore_n 3, 1, [], 0), (4, .iload_n 3, 1, [], 0), (5, .bipush 6, 2, [], 6), (7, .if_icmp .gt 26, 3, [33], 0), (10, .aload_n 0, 1, [], 0), (11, .iload_n 1, 1, [], 0), (12, .iload_n 3, 1, [], 0), (13, .invokevirtual 45, 3, [], 0), (16, .ifCond .le 11, 3, [27], 0), (19, .iload_n 2, 1, [], 0), (20, .ifCond .eq 5, 3, [25], 0), (23, .iconst 0, 1, [], 0), (24, .ireturn, 1, [], 0), (25, .iload_n 3, 1, [], 0), (26, .istore_n 2, 1, [], 0), (27, .iinc 3 1, 3, [], 1), (30, .goto (-26), 3, [4], 0), (33, .iload_n 2, 1, [], 0), (34, .ireturn, 1, [], 0)]
theorem tk_X7_onlyWeight : tbok m_X7_onlyWeight tb_X7_onlyWeight = true := by decide +kernel
def tb_X7_bestPair : List Row := [(0, .iconst 1, 1, [], 1), (1, .istore_n 1, 1, [], 0), (2, .iconst 0, 1, [], 0), (3, .istore_n 2, 1, [], 0), (4, .iload_n 2, 1, [], 0), (5, .aload_n 0, 1, [], 0), (6, .getfield 28, 3, [], 0), (9, .if_icmp .ge 55, 3, [64], 0), (12, .iload_n 2, 1, [], 0), (13, .iconst 1, 1, [], 1), (14, .iadd, 1, [], 0), (15, .istore_n 3, 1, [], 0), (16, .iload_n 3, 1, [], 0), (17, .aload_n 0, 1, [], 0), (18, .getfield 28, 3, [], 0), (21, .if_icmp .ge 37, 3, [58], 0), (24, .aload_n 0, 1, [], 0), (25, .iload_n 2, 1, [], 0), (26, .iload_n 3, 1, [], 0), (27, .invokevirtual 49, 3, [], 0), (30, .aload_n 0, 1, [], 0), (31, .iload_n 1, 1, [], 0), (32, .bipush 10, 2, [], 10), (34, .idiv, 1, [], 0), (35, .iload_n 1, 1, [], 0), (36, .bipush 10, 2, [], 10), (38, .irem, 1, [], 0), (39, .invokevirtual 49, 3, [], 0), (42, .if_icmp .ge 10, 3, [52], 0), (45, .bipush 10, 2, [], 10), (47, .iload_n 2, 1, [], 0), (48, .imul, 1, [], 0), (49, .iload_n 3, 1, [], 0), (50, .iadd, 1, [], 0), (51, .istore_n 1, 1, [], 0), (52, .iinc 3 1, 3, [], 1), (55, .goto (-39), 3, [16], 0), (58, .iinc 2 1, 3, [], 1), (61, .goto (-57), 3, [4], 0), (64, .iload_n 1, 1, [], 0), (65, .ireturn, 1, [], 0)]
theorem tk_X7_bestPair : tbok m_X7_bestPair tb_X7_bestPair = true := by decide +kernel
def tb_X7_leftAtWorst : List Row := [(0, .aload_n 0, 1, [], 0), (1, .invokevirtual 39, 3, [], 0), (4, .iload_n 1, 1, [], 0), (5, .iload_n 2, 1, [], 0), (6, .iconst 0, 1, [], 0), (7, .invokestatic 52, 3, [], 0), (10, .istore_n 3, 1, [], 0), (11, .aload_n 0, 1, [], 0), (12, .getfield 25, 3, [], 0), (15, .iload_n 3, 1, [], 0), (16, .iaload, 1, [], 0), (17, .aload_n 0, 1, [], 0), (18, .getfield 25, 3, [], 0), (21, .iload_n 3, 1, [], 0), (22, .iconst 1, 1, [], 1), (23, .isub, 1, [], 0), (24, .iaload, 1, [], 0), (25, .aload_n 0, 1, [], 0), (26, .getfield 25, 3, [], 0), (29, .iload_n 3, 1, [], 0), (30, .iconst 1, 1, [], 1), (31, .iadd, 1, [], 0), (32, .iaload, 1, [], 0), (33, .invokestatic 56, 3, [], 0), (36, .invokestatic 56, 3, [], 0), (39, .ireturn, 1, [], 0)]
theorem tk_X7_leftAtWorst : tbok m_X7_leftAtWorst tb_X7_leftAtWorst = true := by decide +kernel
def tb_X7_outcomeCell : List Row := [(0, .iload_n 0, 1, [], 0), (1, .iconst 5, 1, [], 5), (2, .imul, 1, [], 0), (3, .iload_n 1, 1, [], 0), (4, .iadd, 1, [], 0), (5, .iconst 3, 1, [], 3), (6, .imul, 1, [], 0), (7, .iload_n 2, 1, [], 0), (8, .iadd, 1, [], 0), (9, .iconst 1, 1, [], 1), (10, .iadd, 1, [], 0), (11, .ireturn, 1, [], 0)]
theorem tk_X7_outcomeCell : tbok m_X7_outcomeCell tb_X7_outcomeCell = true := by decide +kernel
def tb_X7_survey : List Row := [(0, .aload_n 0, 1, [], 0), (1, .getfield 35, 3, [], 0), (4, .ifCond .eq 4, 3, [8], 0), (7, .return_, 1, [], 0), (8, .aload_n 0, 1, [], 0), (9, .iconst 1, 1, [], 1), (10, .putfield 35, 3, [], 0), (13, .aload_n 0, 1, [], 0), (14, .iconst 0, 1, [], 0), (15, .putfield 42, 3, [], 0), (18, .aload_n 0, 1, [], 0), (19, .getfield 22, 3, [], 0), (22, .iconst 0, 1, [], 0), (23, .invokestatic 61, 3, [], 0), (26, .aload_n 0, 1, [], 0), (27, .getfield 25, 3, [], 0), (30, .iconst 0, 1, [], 0), (31, .invokestatic 61, 3, [], 0), (34, .aload_n 0, 1, [], 0), (35, .iconst 0, 1, [], 0), (36, .invokevirtual 67, 3, [], 0), (39, .return_, 1, [], 0)]
theorem tk_X7_survey : tbok m_X7_survey tb_X7_survey = true := by decide +kernel
def tb_X7_guessFrom : List Row := [(0, .iload_n 1, 1, [], 0), (1, .aload_n 0, 1, [], 0), (2, .getfield 28, 3, [], 0), (5, .if_icmp .lt 15, 3, [20], 0), (8, .aload_n 0, 1, [], 0), (9, .invokevirtual 71, 3, [], 0), (12, .ifCond .eq 7, 3, [19], 0), (15, .aload_n 0, 1, [], 0), (16, .invokevirtual 75, 3, [], 0), (19, .return_, 1, [], 0), (20, .iconst 1, 1, [], 1), (21, .istore_n 2, 1, [], 0), (22, .iload_n 2, 1, [], 0), (23, .bipush 6, 2, [], 6), (25, .if_icmp .gt 23, 3, [48], 0), (28, .aload_n 0, 1, [], 0), (29, .getfield 19, 3, [], 0), (32, .iload_n 1, 1, [], 0), (33, .iload_n 2, 1, [], 0), (34, .iastore, 1, [], 0), (35, .aload_n 0, 1, [], 0), (36, .iload_n 1, 1, [], 0), (37, .iconst 1, 1, [], 1), (38, .iadd, 1, [], 0), (39, .invokevirtual 67, 3, [], 0), (42, .iinc 2 1, 3, [], 1), (45, .goto (-23), 3, [22], 0), (48, .return_, 1, [], 0)]
theorem tk_X7_guessFrom : tbok m_X7_guessFrom tb_X7_guessFrom = true := by decide +kernel
def tb_X7_guessFits : List Row := [(0, .iconst 0, 1, [], 0), (1, .istore_n 1, 1, [], 0), (2, .iload_n 1, 1, [], 0), (3, .aload_n 0, 1, [], 0), (4, .getfield 32, 3, [], 0), (7, .if_icmp .ge 46, 3, [53], 0), (10, .aload_n 0, 1, [], 0), (11, .getfield 19, 3, [], 0), (14, .aload_n 0, 1, [], 0), (15, .getfield 13, 3, [], 0), (18, .iload_n 1, 1, [], 0), (19, .iaload, 1, [], 0), (20, .iaload, 1, [], 0), (21, .aload_n 0, 1, [], 0), (22, .getfield 19, 3, [], 0), (25, .aload_n 0, 1, [], 0), (26, .getfield 9, 3, [], 0), (29, .iload_n 1, 1, [], 0), (30, .iaload, 1, [], 0), (31, .iaload, 1, [], 0), (32, .isub, 1, [], 0), (33, .invokestatic 78, 3, [], 0), (36, .aload_n 0, 1, [], 0), (37, .getfield 16, 3, [], 0), (40, .iload_n 1, 1, [], 0), (41, .iaload, 1, [], 0), (42, .if_icmp .eq 5, 3, [47], 0), (45, .iconst 0, 1, [], 0), (46, .ireturn, 1, [], 0), (47, .iinc 1 1, 3, [], 1), (50, .goto (-48), 3, [2], 0), (53, .iconst 1, 1, [], 1), (54, .ireturn, 1, [], 0)]
theorem tk_X7_guessFits : tbok m_X7_guessFits tb_X7_guessFits = true := by decide +kernel
def tb_X7_tally : List Row := [(0, .aload_n 0, 1, [], 0), (1, .dup, 1, [], 0), (2, .getfield 42, 3, [], 0), (5, .iconst 1, 1, [], 1), (6, .iadd, 1, [], 0), (7, .putfield 42, 3, [], 0), (10, .iconst 0, 1, [], 0), (11, .istore_n 1, 1, [], 0), (12, .iload_n 1, 1, [], 0), (13, .aload_n 0, 1, [], 0), (14, .getfield 28, 3, [], 0), (17, .if_icmp .ge 77, 3, [94], 0), (20, .aload_n 0, 1, [], 0), (21, .getfield 22, 3, [], 0), (24, .iload_n 1, 1, [], 0), (25, .bipush 7, 2, [], 7), (27, .imul, 1, [], 0), (28, .aload_n 0, 1, [], 0), (29, .getfield 19, 3, [], 0), (32, .iload_n 1, 1, [], 0), (33, .iaload, 1, [], 0), (34, .iadd, 1, [], 0), (35, .dup2, 1, [], 0), (36, .iaload, 1, [], 0), (37, .iconst 1, 1, [], 1), (38, .iadd, 1, [], 0), (39, .iastore, 1, [], 0), (40, .iload_n 1, 1, [], 0), (41, .iconst 1, 1, [], 1), (42, .iadd, 1, [], 0), (43, .istore_n 2, 1, [], 0), (44, .iload_n 2, 1, [], 0), (45, .aload_n 0, 1, [], 0), (46, .getfield 28, 3, [], 0), (49, .if_icmp .ge 39, 3, [88], 0), (52, .aload_n 0, 1, [], 0), (53, .getfield 25, 3, [], 0), (56, .iload_n 1, 1, [], 0), (57, .iload_n 2, 1, [], 0), (58, .aload_n 0, 1, [], 0), (59, .getfield 19, 3, [], 0), (62, .iload_n 2, 1, [], 0), (63, .iaload, 1, [], 0), (64, .aload_n 0, 1, [], 0), (65, .getfield 19, 3, [], 0), (68, .iload_n 1, 1, [], 0), (69, .iaload, 1, [], 0), (70, .isub, 1, [], 0), (71, .invokestatic 78, 3, [], 0), (74, .invokestatic 52, 3, [], 0), (77, .dup2, 1, [], 0), (78, .iaload, 1, [], 0), (79, .iconst 1, 1, [], 1), (80, .iadd, 1, [], 0), (81, .iastore, 1, [], 0), (82, .iinc 2 1, 3, [], 1), (85, .goto (-41), 3, [44], 0), (88, .iinc 1 1, 3, [], 1), (91, .goto (-79), 3, [12], 0), (94, .return_, 1, [], 0)]
theorem tk_X7_tally : tbok m_X7_tally tb_X7_tally = true := by decide +kernel
end
section
def tb_X8_type : List Row := [(0, .iload_n 3, 1, [], 0), (1, .iconst 1, 1, [], 1), (2, .if_icmp .lt 9, 3, [11], 0), (5, .iload_n 3, 1, [], 0), (6, .bipush 8, 2, [], 8), (8, .if_icmp .le 5, 3, [13], 0), (11, .iconst (-1), 1, [], -1), (12, .ireturn, 1, [], 0), (13, .aload_n 0, 1, [], 0), (14, .getfield 34, 3, [], 0), (17, .getfield 77, 3, [], 0), (20, .iload_n 3, 1, [], 0), (21, .iadd, 1, [], 0), (22, .sipush 300, 3, [], 300), (25, .if_icmp .le 6, 3, [31], 0), (28, .bipush (-3), 2, [], -3), (30, .ireturn, 1, [], 0), (31, .iload_n 3, 1, [], 0), (32, .iconst 1, 1, [], 1), (33, .isub, 1, [], 0), (34, .istore 4, 2, [], 0), (36, .iload 4, 2, [], 0), (38, .ifCond .lt 28, 3, [66], 0), (41, .aload_n 0, 1, [], 0), (42, .getfield 34, 3, [], 0), (45, .lload_n 1, 1, [], 0), (46, .bipush 8, 2, [], 8), (48, .iload 4, 2, [], 0), (50, .imul, 1, [], 0), (51, .lushr, 1, [], 0), (52, .ldc2_w 81, 3, [], 0), (55, .land, 1, [], 0), (56, .l2i, 1, [], 0), (57, .invokevirtual 83, 3, [], 0), (60, .iinc 4 (-1), 3, [], -1), (63, .goto (-27), 3, [36], 0), (66, .aload_n 0, 1, [], 0), (67, .getfield 34, 3, [], 0), (70, .getfield 77, 3, [], 0), (73, .ireturn, 1, [], 0)]
theorem tk_X8_type : tbok m_X8_type tb_X8_type = true := by decide +kernel
def tb_X8_clear : List Row := [(0, .aload_n 0, 1, [], 0), (1, .getfield 34, 3, [], 0), (4, .getfield 77, 3, [], 0), (7, .istore_n 1, 1, [], 0), (8, .aload_n 0, 1, [], 0), (9, .getfield 34, 3, [], 0), (12, .iconst 0, 1, [], 0), (13, .putfield 77, 3, [], 0), (16, .iload_n 1, 1, [], 0), (17, .ireturn, 1, [], 0)]
theorem tk_X8_clear : tbok m_X8_clear tb_X8_clear = true := by decide +kernel
def tb_X8_park : List Row := [(0, .aload_n 0, 1, [], 0), (1, .getfield 34, 3, [], 0), (4, .invokevirtual 87, 3, [], 0), (7, .istore_n 1, 1, [], 0), (8, .iload_n 1, 1, [], 0), (9, .ifCond .ge 14, 3, [23], 0), (12, .bipush (-10), 2, [], -10), (14, .aload_n 0, 1, [], 0), (15, .getfield 34, 3, [], 0), (18, .getfield 91, 3, [], 0), (21, .isub, 1, [], 0), (22, .ireturn, 1, [], 0), (23, .aload_n 0, 1, [], 0), (24, .getfield 12, 3, [], 0), (27, .aload_n 0, 1, [], 0), (28, .getfield 34, 3, [], 0), (31, .getfield 94, 3, [], 0), (34, .invokevirtual 97, 3, [], 0), (37, .aload_n 0, 1, [], 0), (38, .getfield 21, 3, [], 0), (41, .invokevirtual 100, 3, [], 0), (44, .aload_n 0, 1, [], 0), (45, .getfield 25, 3, [], 0), (48, .iconst 0, 1, [], 0), (49, .putfield 103, 3, [], 0), (52, .aload_n 0, 1, [], 0), (53, .getfield 28, 3, [], 0), (56, .iconst 0, 1, [], 0), (57, .putfield 103, 3, [], 0), (60, .aload_n 0, 1, [], 0), (61, .getfield 34, 3, [], 0), (64, .iconst 0, 1, [], 0), (65, .putfield 77, 3, [], 0), (68, .iload_n 1, 1, [], 0), (69, .ireturn, 1, [], 0)]
theorem tk_X8_park : tbok m_X8_park tb_X8_park = true := by decide +kernel
def tb_X8_plank : List Row := [(0, .aload_n 0, 1, [], 0), (1, .getfield 12, 3, [], 0), (4, .iload_n 1, 1, [], 0), (5, .invokevirtual 107, 3, [], 0), (8, .ifCond .ne 6, 3, [14], 0), (11, .ldc 111, 2, [], 0), (13, .ireturn, 1, [], 0), (14, .iload_n 2, 1, [], 0), (15, .tableswitch 83 0 4 #[33, 43, 53, 62, 71], 33, [98, 48, 58, 68, 77, 86], 0), (48, .aload_n 0, 1, [], 0), (49, .getfield 12, 3, [], 0), (52, .getfield 112, 3, [], 0), (55, .iload_n 1, 1, [], 0), (56, .iaload, 1, [], 0), (57, .ireturn, 1, [], 0), (58, .aload_n 0, 1, [], 0), (59, .getfield 12, 3, [], 0), (62, .getfield 116, 3, [], 0), (65, .iload_n 1, 1, [], 0), (66, .iaload, 1, [], 0), (67, .ireturn, 1, [], 0), (68, .aload_n 0, 1, [], 0), (69, .getfield 21, 3, [], 0), (72, .iload_n 1, 1, [], 0), (73, .invokevirtual 119, 3, [], 0), (76, .ireturn, 1, [], 0), (77, .aload_n 0, 1, [], 0), (78, .getfield 21, 3, [], 0), (81, .iload_n 1, 1, [], 0), (82, .invokevirtual 123, 3, [], 0), (85, .ireturn, 1, [], 0), (86, .aload_n 0, 1, [], 0), (87, .getfield 21, 3, [], 0), (90, .iload_n 1, 1, [], 0), (91, .invokevirtual 126, 3, [], 0), (94, .invokestatic 129, 3, [], 0), (97, .ireturn, 1, [], 0), (98, .ldc 111, 2, [], 0), (100, .ireturn, 1, [], 0)]
theorem tk_X8_plank : tbok m_X8_plank tb_X8_plank = true := by decide +kernel
def tb_X8_child : List Row := [(0, .aload_n 0, 1, [], 0), (1, .getfield 12, 3, [], 0), (4, .iload_n 1, 1, [], 0), (5, .invokevirtual 134, 3, [], 0), (8, .ifCond .ne 6, 3, [14], 0), (11, .ldc 111, 2, [], 0), (13, .ireturn, 1, [], 0), (14, .iload_n 2, 1, [], 0), (15, .tableswitch 100 0 4 #[33, 43, 53, 80, 90], 33, [115, 48, 58, 68, 95, 105], 0), (48, .aload_n 0, 1, [], 0), (49, .getfield 12, 3, [], 0), (52, .getfield 137, 3, [], 0), (55, .iload_n 1, 1, [], 0), (56, .iaload, 1, [], 0), (57, .ireturn, 1, [], 0), (58, .aload_n 0, 1, [], 0), (59, .getfield 12, 3, [], 0), (62, .getfield 140, 3, [], 0), (65, .iload_n 1, 1, [], 0), (66, .iaload, 1, [], 0), (67, .ireturn, 1, [], 0), (68, .aload_n 0, 1, [], 0), (69, .getfield 21, 3, [], 0), (72, .getfield 143, 3, [], 0), (75, .iload_n 1, 1, [], 0), (76, .iaload, 1, [], 0), (77, .ifCond .ne 8, 3, [85], 0), (80, .bipush (-9), 2, [], -9), (82, .goto 12, 3, [94], 0), (85, .aload_n 0, 1, [], 0), (86, .getfield 21, 3, [], 0), (89, .getfield 146, 3, [], 0), (92, .iload_n 1, 1, [], 0), (93, .iaload, 1, [], 0), (94, .ireturn, 1, [], 0), (95, .aload_n 0, 1, [], 0), (96, .getfield 21, 3, [], 0), (99, .getfield 143, 3, [], 0), (102, .iload_n 1, 1, [], 0), (103, .iaload, 1, [], 0), (104, .ireturn, 1, [], 0), (105, .aload_n 0, 1, [], 0), (106, .getfield 21, 3, [], 0), (109, .getfield 149, 3, [], 0), (112, .iload_n 1, 1, [], 0), (113, .iaload, 1, [], 0), (114, .ireturn, 1, [], 0), (115, .ldc 111, 2, [], 0), (117, .ireturn, 1, [], 0)]
theorem tk_X8_child : tbok m_X8_child tb_X8_child = true := by decide +kernel
def tb_X8_stone : List Row := [(0, .aload_n 0, 1, [], 0), (1, .getfield 12, 3, [], 0), (4, .iload_n 1, 1, [], 0), (5, .invokevirtual 152, 3, [], 0), (8, .ifCond .ne 6, 3, [14], 0), (11, .ldc 111, 2, [], 0), (13, .ireturn, 1, [], 0), (14, .iload_n 2, 1, [], 0), (15, .tableswitch 72 0 2 #[25, 35, 62], 25, [87, 40, 50, 77], 0), (40, .aload_n 0, 1, [], 0), (41, .getfield 12, 3, [], 0), (44, .getfield 155, 3, [], 0), (47, .iload_n 1, 1, [], 0), (48, .iaload, 1, [], 0), (49, .ireturn, 1, [], 0), (50, .aload_n 0, 1, [], 0), (51, .getfield 21, 3, [], 0), (54, .getfield 158, 3, [], 0), (57, .iload_n 1, 1, [], 0), (58, .iaload, 1, [], 0), (59, .ifCond .ne 8, 3, [67], 0), (62, .bipush (-9), 2, [], -9), (64, .goto 12, 3, [76], 0), (67, .aload_n 0, 1, [], 0), (68, .getfield 21, 3, [], 0), (71, .getfield 161, 3, [], 0), (74, .iload_n 1, 1, [], 0), (75, .iaload, 1, [], 0), (76, .ireturn, 1, [], 0), (77, .aload_n 0, 1, [], 0), (78, .getfield 21, 3, [], 0), (81, .getfield 158, 3, [], 0), (84, .iload_n 1, 1, [], 0), (85, .iaload, 1, [], 0), (86, .ireturn, 1, [], 0), (87, .ldc 111, 2, [], 0), (89, .ireturn, 1, [], 0)]
theorem tk_X8_stone : tbok m_X8_stone tb_X8_stone = true := by decide +kernel
def tb_X8_sits : List Row := [(0, .aload_n 0, 1, [], 0), (1, .getfield 12, 3, [], 0), (4, .iload_n 1, 1, [], 0), (5, .invokevirtual 134, 3, [], 0), (8, .ifCond .eq 15, 3, [23], 0), (11, .aload_n 0, 1, [], 0), (12, .getfield 12, 3, [], 0), (15, .iload_n 2, 1, [], 0), (16, .iload_n 3, 1, [], 0), (17, .invokevirtual 164, 3, [], 0), (20, .ifCond .ne 5, 3, [25], 0), (23, .iconst (-1), 1, [], -1), (24, .ireturn, 1, [], 0), (25, .aload_n 0, 1, [], 0), (26, .getfield 21, 3, [], 0), (29, .iload_n 2, 1, [], 0), (30, .iload_n 3, 1, [], 0), (31, .invokevirtual 168, 3, [], 0), (34, .ifCond .eq 6, 3, [40], 0), (37, .bipush (-2), 2, [], -2), (39, .ireturn, 1, [], 0), (40, .aload_n 0, 1, [], 0), (41, .getfield 21, 3, [], 0), (44, .getfield 143, 3, [], 0), (47, .iload_n 1, 1, [], 0), (48, .iaload, 1, [], 0), (49, .ifCond .ne 7, 3, [56], 0), (52, .iconst 0, 1, [], 0), (53, .goto 11, 3, [64], 0), (56, .aload_n 0, 1, [], 0), (57, .getfield 21, 3, [], 0), (60, .iload_n 1, 1, [], 0), (61, .invokevirtual 171, 3, [], 0), (64, .istore 4, 2, [], 0), (66, .iload 4, 2, [], 0), (68, .aload_n 0, 1, [], 0), (69, .getfield 21, 3, [], 0), (72, .iload_n 1, 1, [], 0), (73, .iload_n 2, 1, [], 0), (74, .iload_n 3, 1, [], 0), (75, .invokevirtual 174, 3, [], 0), (78, .iadd, 1, [], 0), (79, .ireturn, 1, [], 0)]
theorem tk_X8_sits : tbok m_X8_sits tb_X8_sits = true := by decide +kernel
def tb_X8_leaves : List Row := [(0, .aload_n 0, 1, [], 0), (1, .getfield 12, 3, [], 0), (4, .iload_n 1, 1, [], 0), (5, .invokevirtual 134, 3, [], 0), (8, .ifCond .ne 5, 3, [13], 0), (11, .iconst (-1), 1, [], -1), (12, .ireturn, 1, [], 0), (13, .aload_n 0, 1, [], 0), (14, .getfield 21, 3, [], 0), (17, .getfield 143, 3, [], 0), (20, .iload_n 1, 1, [], 0), (21, .iaload, 1, [], 0), (22, .ifCond .ne 6, 3, [28], 0), (25, .bipush (-2), 2, [], -2), (27, .ireturn, 1, [], 0), (28, .aload_n 0, 1, [], 0), (29, .getfield 21, 3, [], 0), (32, .iload_n 1, 1, [], 0), (33, .invokevirtual 171, 3, [], 0), (36, .ireturn, 1, [], 0)]
theorem tk_X8_leaves : tbok m_X8_leaves tb_X8_leaves = true := by decide +kernel
def tb_X8_lay : List Row := [(0, .aload_n 0, 1, [], 0), (1, .getfield 12, 3, [], 0), (4, .iload_n 1, 1, [], 0), (5, .invokevirtual 152, 3, [], 0), (8, .ifCond .eq 15, 3, [23], 0), (11, .aload_n 0, 1, [], 0), (12, .getfield 12, 3, [], 0), (15, .iload_n 2, 1, [], 0), (16, .iload_n 3, 1, [], 0), (17, .invokevirtual 164, 3, [], 0), (20, .ifCond .ne 5, 3, [25], 0), (23, .iconst (-1), 1, [], -1), (24, .ireturn, 1, [], 0), (25, .aload_n 0, 1, [], 0), (26, .getfield 21, 3, [], 0), (29, .iload_n 2, 1, [], 0), (30, .iload_n 3, 1, [], 0), (31, .invokevirtual 178, 3, [], 0), (34, .ifCond .eq 6, 3, [40], 0), (37, .bipush (-2), 2, [], -2), (39, .ireturn, 1, [], 0), (40, .aload_n 0, 1, [], 0), (41, .getfield 21, 3, [], 0), (44, .getfield 158, 3, [], 0), (47, .iload_n 1, 1, [], 0), (48, .iaload, 1, [], 0), (49, .ifCond .ne 7, 3, [56], 0), (52, .iconst 0, 1, [], 0), (53, .goto 11, 3, [64], 0), (56, .aload_n 0, 1, [], 0), (57, .getfield 21, 3, [], 0), (60, .iload_n 1, 1, [], 0), (61, .invokevirtual 181, 3, [], 0), (64, .istore 4, 2, [], 0), (66, .iload 4, 2, [], 0), (68, .aload_n 0, 1, [], 0), (69, .getfield 21, 3, [], 0), (72, .iload_n 1, 1, [], 0), (73, .iload_n 2, 1, [], 0), (74, .iload_n 3, 1, [], 0), (75, .invokevirtual 184, 3, [], 0), (78, .iadd, 1, [], 0), (79, .ireturn, 1, [], 0)]
theorem tk_X8_lay : tbok m_X8_lay tb_X8_lay = true := by decide +kernel
def tb_X8_take : List Row := [(0, .aload_n 0, 1, [], 0), (1, .getfield 12, 3, [], 0), (4, .iload_n 1, 1, [], 0), (5, .invokevirtual 152, 3, [], 0), (8, .ifCond .ne 5, 3, [13], 0), (11, .iconst (-1), 1, [], -1), (12, .ireturn, 1, [], 0), (13, .aload_n 0, 1, [], 0), (14, .getfield 21, 3, [], 0), (17, .getfield 158, 3, [], 0), (20, .iload_n 1, 1, [], 0), (21, .iaload, 1, [], 0), (22, .ifCond .ne 6, 3, [28], 0), (25, .bipush (-2), 2, [], -2), (27, .ireturn, 1, [], 0), (28, .aload_n 0, 1, [], 0), (29, .getfield 21, 3, [], 0), (32, .iload_n 1, 1, [], 0), (33, .invokevirtual 181, 3, [], 0), (36, .ireturn, 1, [], 0)]
theorem tk_X8_take : tbok m_X8_take tb_X8_take = true := by decide +kernel
def tb_X8_ways : List Row := [(0, .aload_n 0, 1, [], 0), (1, .getfield 12, 3, [], 0), (4, .iload_n 1, 1, [], 0), (5, .invokevirtual 107, 3, [], 0), (8, .ifCond .eq 19, 3, [27], 0), (11, .iload_n 3, 1, [], 0), (12, .iconst (-1), 1, [], -1), (13, .if_icmp .eq 17, 3, [30], 0), (16, .aload_n 0, 1, [], 0), (17, .getfield 12, 3, [], 0), (20, .iload_n 3, 1, [], 0), (21, .invokevirtual 134, 3, [], 0), (24, .ifCond .ne 6, 3, [30], 0), (27, .ldc 111, 2, [], 0), (29, .ireturn, 1, [], 0), (30, .iload_n 2, 1, [], 0), (31, .aload_n 0, 1, [], 0), (32, .getfield 12, 3, [], 0), (35, .invokevirtual 187, 3, [], 0), (38, .iand, 1, [], 0), (39, .istore 4, 2, [], 0), (41, .aload_n 0, 1, [], 0), (42, .iload_n 1, 1, [], 0), (43, .iload 4, 2, [], 0), (45, .invokevirtual 190, 3, [], 0), (48, .iload_n 3, 1, [], 0), (49, .iconst (-1), 1, [], -1), (50, .if_icmp .ne 11, 3, [61], 0), (53, .aload_n 0, 1, [], 0), (54, .getfield 41, 3, [], 0), (57, .invokevirtual 194, 3, [], 0), (60, .ireturn, 1, [], 0), (61, .aload_n 0, 1, [], 0), (62, .getfield 41, 3, [], 0), (65, .invokevirtual 197, 3, [], 0), (68, .ifCond .ne 6, 3, [74], 0), (71, .bipush (-9), 2, [], -9), (73, .ireturn, 1, [], 0), (74, .iload 4, 2, [], 0), (76, .iconst 1, 1, [], 1), (77, .iload_n 3, 1, [], 0), (78, .ishl, 1, [], 0), (79, .iand, 1, [], 0), (80, .ifCond .ne 5, 3, [85], 0), (83, .iconst 0, 1, [], 0), (84, .ireturn, 1, [], 0), (85, .aload_n 0, 1, [], 0), (86, .getfield 41, 3, [], 0), (89, .iload 4, 2, [], 0), (91, .iconst 1, 1, [], 1), (92, .iload_n 3, 1, [], 0), (93, .ishl, 1, [], 0), (94, .iconst 1, 1, [], 1), (95, .isub, 1, [], 0), (96, .iand, 1, [], 0), (97, .invokestatic 129, 3, [], 0), (100, .invokevirtual 201, 3, [], 0), (103, .ireturn, 1, [], 0)]
theorem tk_X8_ways : tbok m_X8_ways tb_X8_ways = true := by decide +kernel
def tb_X8_most : List Row := [(0, .aload_n 0, 1, [], 0), (1, .getfield 12, 3, [], 0), (4, .iload_n 1, 1, [], 0), (5, .invokevirtual 107, 3, [], 0), (8, .ifCond .eq 10, 3, [18], 0), (11, .iload_n 2, 1, [], 0), (12, .invokestatic 204, 3, [], 0), (15, .ifCond .ne 5, 3, [20], 0), (18, .iconst (-1), 1, [], -1), (19, .ireturn, 1, [], 0), (20, .aload_n 0, 1, [], 0), (21, .getfield 48, 3, [], 0), (24, .aload_n 0, 1, [], 0), (25, .getfield 12, 3, [], 0), (28, .iload_n 1, 1, [], 0), (29, .invokevirtual 207, 3, [], 0), (32, .aload_n 0, 1, [], 0), (33, .getfield 48, 3, [], 0), (36, .aload_n 0, 1, [], 0), (37, .getfield 12, 3, [], 0), (40, .getfield 211, 3, [], 0), (43, .aload_n 0, 1, [], 0), (44, .getfield 21, 3, [], 0), (47, .iload_n 1, 1, [], 0), (48, .invokevirtual 214, 3, [], 0), (51, .aload_n 0, 1, [], 0), (52, .getfield 12, 3, [], 0), (55, .getfield 116, 3, [], 0), (58, .iload_n 1, 1, [], 0), (59, .iaload, 1, [], 0), (60, .invokevirtual 217, 3, [], 0), (63, .istore_n 3, 1, [], 0), (64, .iload_n 3, 1, [], 0), (65, .iload_n 2, 1, [], 0), (66, .invokestatic 220, 3, [], 0), (69, .ireturn, 1, [], 0)]
theorem tk_X8_most : tbok m_X8_most tb_X8_most = true := by decide +kernel
def tb_X8_moves : List Row := [(0, .aload_n 0, 1, [], 0), (1, .getfield 12, 3, [], 0), (4, .iload_n 1, 1, [], 0), (5, .invokevirtual 107, 3, [], 0), (8, .ifCond .ne 5, 3, [13], 0), (11, .iconst (-1), 1, [], -1), (12, .ireturn, 1, [], 0), (13, .aload_n 0, 1, [], 0), (14, .iload_n 1, 1, [], 0), (15, .aload_n 0, 1, [], 0), (16, .getfield 21, 3, [], 0), (19, .iload_n 1, 1, [], 0), (20, .invokevirtual 126, 3, [], 0), (23, .invokevirtual 190, 3, [], 0), (26, .aload_n 0, 1, [], 0), (27, .getfield 41, 3, [], 0), (30, .invokevirtual 224, 3, [], 0), (33, .istore_n 2, 1, [], 0), (34, .iload_n 2, 1, [], 0), (35, .ifCond .ge 8, 3, [43], 0), (38, .bipush (-9), 2, [], -9), (40, .goto 4, 3, [44], 0), (43, .iload_n 2, 1, [], 0), (44, .ireturn, 1, [], 0)]
theorem tk_X8_moves : tbok m_X8_moves tb_X8_moves = true := by decide +kernel
def tb_X8_ballast : List Row := [(0, .aload_n 0, 1, [], 0), (1, .getfield 12, 3, [], 0), (4, .iload_n 1, 1, [], 0), (5, .invokevirtual 107, 3, [], 0), (8, .ifCond .eq 10, 3, [18], 0), (11, .iload_n 2, 1, [], 0), (12, .invokestatic 204, 3, [], 0), (15, .ifCond .ne 5, 3, [20], 0), (18, .iconst (-1), 1, [], -1), (19, .ireturn, 1, [], 0), (20, .aload_n 0, 1, [], 0), (21, .iload_n 1, 1, [], 0), (22, .invokevirtual 227, 3, [], 0), (25, .iload_n 2, 1, [], 0), (26, .invokestatic 220, 3, [], 0), (29, .ireturn, 1, [], 0)]
theorem tk_X8_ballast : tbok m_X8_ballast tb_X8_ballast = true := by decide +kernel
def tb_X8_game : List Row := [(0, .aload_n 0, 1, [], 0), (1, .getfield 12, 3, [], 0), (4, .iload_n 1, 1, [], 0), (5, .invokevirtual 107, 3, [], 0), (8, .ifCond .eq 10, 3, [18], 0), (11, .iload_n 2, 1, [], 0), (12, .invokestatic 204, 3, [], 0), (15, .ifCond .ne 5, 3, [20], 0), (18, .iconst (-1), 1, [], -1), (19, .ireturn, 1, [], 0), (20, .aload_n 0, 1, [], 0), (21, .getfield 21, 3, [], 0), (24, .invokevirtual 230, 3, [], 0), (27, .istore_n 3, 1, [], 0), (28, .iload_n 3, 1, [], 0), (29, .invokestatic 129, 3, [], 0), (32, .iconst 4, 1, [], 4), (33, .if_icmp .gt 14, 3, [47], 0), (36, .aload_n 0, 1, [], 0), (37, .getfield 21, 3, [], 0), (40, .iload_n 1, 1, [], 0), (41, .invokevirtual 123, 3, [], 0), (44, .ifCond .eq 6, 3, [50], 0), (47, .bipush (-2), 2, [], -2), (49, .ireturn, 1, [], 0), (50, .aload_n 0, 1, [], 0), (51, .getfield 55, 3, [], 0), (54, .aload_n 0, 1, [], 0), (55, .getfield 12, 3, [], 0), (58, .aload_n 0, 1, [], 0), (59, .getfield 21, 3, [], 0), (62, .iload_n 1, 1, [], 0), (63, .invokevirtual 233, 3, [], 0), (66, .aload_n 0, 1, [], 0), (67, .getfield 55, 3, [], 0), (70, .iload_n 3, 1, [], 0), (71, .aload_n 0, 1, [], 0), (72, .getfield 21, 3, [], 0), (75, .iload_n 1, 1, [], 0), (76, .invokevirtual 119, 3, [], 0), (79, .invokevirtual 237, 3, [], 0), (82, .istore 4, 2, [], 0), (84, .iload_n 2, 1, [], 0), (85, .ifCond .ne 14, 3, [99], 0), (88, .iload 4, 2, [], 0), (90, .ifCond .ge 7, 3, [97], 0), (93, .iconst 0, 1, [], 0), (94, .goto 4, 3, [98], 0), (97, .iconst 1, 1, [], 1), (98, .ireturn, 1, [], 0), (99, .iload 4, 2, [], 0), (101, .ifCond .ge 8, 3, [109], 0), (104, .bipush (-9), 2, [], -9), (106, .goto 5, 3, [111], 0), (109, .iload 4, 2, [], 0), (111, .ireturn, 1, [], 0)]
theorem tk_X8_game : tbok m_X8_game tb_X8_game = true := by decide +kernel
def tb_X8_strangers : List Row := [(0, .iload_n 1, 1, [], 0), (1, .iconst 2, 1, [], 2), (2, .if_icmp .lt 8, 3, [10], 0), (5, .iload_n 1, 1, [], 0), (6, .iconst 5, 1, [], 5), (7, .if_icmp .le 5, 3, [12], 0), (10, .iconst (-1), 1, [], -1), (11, .ireturn, 1, [], 0), (12, .aload_n 0, 1, [], 0), (13, .getfield 62, 3, [], 0), (16, .getfield 240, 3, [], 0), (19, .istore_n 2, 1, [], 0), (20, .aload_n 0, 1, [], 0), (21, .getfield 62, 3, [], 0), (24, .iload_n 1, 1, [], 0), (25, .invokevirtual 243, 3, [], 0), (28, .iload_n 2, 1, [], 0), (29, .ireturn, 1, [], 0)]
theorem tk_X8_strangers : tbok m_X8_strangers tb_X8_strangers = true := by decide +kernel
def tb_X8_trial : List Row := [(0, .aload_n 0, 1, [], 0), (1, .getfield 62, 3, [], 0), (4, .iload_n 1, 1, [], 0), (5, .invokevirtual 245, 3, [], 0), (8, .ifCond .eq 29, 3, [37], 0), (11, .aload_n 0, 1, [], 0), (12, .getfield 62, 3, [], 0), (15, .iload_n 2, 1, [], 0), (16, .invokevirtual 245, 3, [], 0), (19, .ifCond .eq 18, 3, [37], 0), (22, .iload_n 1, 1, [], 0), (23, .iload_n 2, 1, [], 0), (24, .if_icmp .eq 13, 3, [37], 0), (27, .iload_n 3, 1, [], 0), (28, .iconst (-1), 1, [], -1), (29, .if_icmp .lt 8, 3, [37], 0), (32, .iload_n 3, 1, [], 0), (33, .iconst 1, 1, [], 1), (34, .if_icmp .le 5, 3, [39], 0), (37, .iconst (-1), 1, [], -1), (38, .ireturn, 1, [], 0), (39, .aload_n 0, 1, [], 0), (40, .getfield 62, 3, [], 0), (43, .getfield 248, 3, [], 0), (46, .bipush 12, 2, [], 12), (48, .if_icmp .lt 6, 3, [54], 0), (51, .bipush (-3), 2, [], -3), (53, .ireturn, 1, [], 0), (54, .aload_n 0, 1, [], 0), (55, .getfield 62, 3, [], 0), (58, .iload_n 1, 1, [], 0), (59, .iload_n 2, 1, [], 0), (60, .iload_n 3, 1, [], 0), (61, .invokevirtual 251, 3, [], 0), (64, .aload_n 0, 1, [], 0), (65, .getfield 62, 3, [], 0), (68, .getfield 248, 3, [], 0), (71, .ireturn, 1, [], 0)]
theorem tk_X8_trial : tbok m_X8_trial tb_X8_trial = true := by decide +kernel
def tb_X8_could : List Row := [(0, .iload_n 1, 1, [], 0), (1, .iconst (-1), 1, [], -1), (2, .if_icmp .eq 14, 3, [16], 0), (5, .aload_n 0, 1, [], 0), (6, .getfield 62, 3, [], 0), (9, .iload_n 1, 1, [], 0), (10, .invokevirtual 245, 3, [], 0), (13, .ifCond .eq 14, 3, [27], 0), (16, .iload_n 2, 1, [], 0), (17, .iconst 1, 1, [], 1), (18, .if_icmp .lt 9, 3, [27], 0), (21, .iload_n 2, 1, [], 0), (22, .bipush 6, 2, [], 6), (24, .if_icmp .le 5, 3, [29], 0), (27, .iconst (-1), 1, [], -1), (28, .ireturn, 1, [], 0), (29, .iload_n 1, 1, [], 0), (30, .iconst (-1), 1, [], -1), (31, .if_icmp .ne 13, 3, [44], 0), (34, .aload_n 0, 1, [], 0), (35, .getfield 62, 3, [], 0), (38, .invokevirtual 255, 3, [], 0), (41, .goto 12, 3, [53], 0), (44, .aload_n 0, 1, [], 0), (45, .getfield 62, 3, [], 0), (48, .iload_n 1, 1, [], 0), (49, .iload_n 2, 1, [], 0), (50, .invokevirtual 258, 3, [], 0), (53, .ireturn, 1, [], 0)]
theorem tk_X8_could : tbok m_X8_could tb_X8_could = true := by decide +kernel
def tb_X8_sure : List Row := [(0, .aload_n 0, 1, [], 0), (1, .getfield 62, 3, [], 0), (4, .iload_n 1, 1, [], 0), (5, .invokevirtual 245, 3, [], 0), (8, .ifCond .ne 5, 3, [13], 0), (11, .iconst (-1), 1, [], -1), (12, .ireturn, 1, [], 0), (13, .aload_n 0, 1, [], 0), (14, .getfield 62, 3, [], 0), (17, .iload_n 1, 1, [], 0), (18, .invokevirtual 261, 3, [], 0), (21, .istore_n 2, 1, [], 0), (22, .iload_n 2, 1, [], 0), (23, .ifCond .ne 8, 3, [31], 0), (26, .bipush (-9), 2, [], -9), (28, .goto 4, 3, [32], 0), (31, .iload_n 2, 1, [], 0), (32, .ireturn, 1, [], 0)]
theorem tk_X8_sure : tbok m_X8_sure tb_X8_sure = true := by decide +kernel
def tb_X8_next : List Row := [(0, .iload_n 1, 1, [], 0), (1, .invokestatic 204, 3, [], 0), (4, .ifCond .ne 5, 3, [9], 0), (7, .iconst (-1), 1, [], -1), (8, .ireturn, 1, [], 0), (9, .aload_n 0, 1, [], 0), (10, .getfield 62, 3, [], 0), (13, .invokevirtual 264, 3, [], 0), (16, .istore_n 2, 1, [], 0), (17, .iload_n 1, 1, [], 0), (18, .ifCond .ne 7, 3, [25], 0), (21, .iload_n 2, 1, [], 0), (22, .goto 18, 3, [40], 0), (25, .aload_n 0, 1, [], 0), (26, .getfield 62, 3, [], 0), (29, .iload_n 2, 1, [], 0), (30, .bipush 10, 2, [], 10), (32, .idiv, 1, [], 0), (33, .iload_n 2, 1, [], 0), (34, .bipush 10, 2, [], 10), (36, .irem, 1, [], 0), (37, .invokevirtual 267, 3, [], 0), (40, .ireturn, 1, [], 0)]
theorem tk_X8_next : tbok m_X8_next tb_X8_next = true := by decide +kernel
def tb_X8_rides : List Row := [(0, .iload_n 1, 1, [], 0), (1, .ifCond .lt 25, 3, [26], 0), (4, .iload_n 1, 1, [], 0), (5, .bipush 99, 2, [], 99), (7, .if_icmp .gt 19, 3, [26], 0), (10, .iload_n 2, 1, [], 0), (11, .iconst (-1), 1, [], -1), (12, .if_icmp .eq 16, 3, [28], 0), (15, .aload_n 0, 1, [], 0), (16, .getfield 12, 3, [], 0), (19, .iload_n 2, 1, [], 0), (20, .invokevirtual 134, 3, [], 0), (23, .ifCond .ne 5, 3, [28], 0), (26, .iconst (-1), 1, [], -1), (27, .ireturn, 1, [], 0), (28, .aload_n 0, 1, [], 0), (29, .getfield 69, 3, [], 0), (32, .iload_n 1, 1, [], 0), (33, .invokevirtual 270, 3, [], 0), (36, .iload_n 2, 1, [], 0), (37, .iconst (-1), 1, [], -1), (38, .if_icmp .ne 13, 3, [51], 0), (41, .aload_n 0, 1, [], 0), (42, .getfield 69, 3, [], 0), (45, .getfield 273, 3, [], 0), (48, .goto 12, 3, [60], 0), (51, .aload_n 0, 1, [], 0), (52, .getfield 69, 3, [], 0), (55, .getfield 276, 3, [], 0), (58, .iload_n 2, 1, [], 0), (59, .iaload, 1, [], 0), (60, .ireturn, 1, [], 0)]
theorem tk_X8_rides : tbok m_X8_rides tb_X8_rides = true := by decide +kernel
def tb_X8_forever : List Row := [(0, .iconst 0, 1, [], 0), (1, .istore_n 1, 1, [], 0), (2, .iconst 0, 1, [], 0), (3, .istore_n 2, 1, [], 0), (4, .iload_n 2, 1, [], 0), (5, .aload_n 0, 1, [], 0), (6, .getfield 12, 3, [], 0), (9, .getfield 211, 3, [], 0), (12, .if_icmp .ge 23, 3, [35], 0), (15, .aload_n 0, 1, [], 0), (16, .iload_n 2, 1, [], 0), (17, .invokevirtual 279, 3, [], 0), (20, .ifCond .ne 9, 3, [29], 0), (23, .iload_n 1, 1, [], 0), (24, .iconst 1, 1, [], 1), (25, .iload_n 2, 1, [], 0), (26, .ishl, 1, [], 0), (27, .ior, 1, [], 0), (28, .istore_n 1, 1, [], 0), (29, .iinc 2 1, 3, [], 1), (32, .goto (-28), 3, [4], 0), (35, .iload_n 1, 1, [], 0), (36, .ireturn, 1, [], 0)]
theorem tk_X8_forever : tbok m_X8_forever tb_X8_forever = true := by decide +kernel
def tb_X8_rate : List Row := [(0, .iload_n 1, 1, [], 0), (1, .ifCond .lt 19, 3, [20], 0), (4, .iload_n 1, 1, [], 0), (5, .iconst 5, 1, [], 5), (6, .if_icmp .gt 14, 3, [20], 0), (9, .aload_n 0, 1, [], 0), (10, .getfield 12, 3, [], 0), (13, .iload_n 2, 1, [], 0), (14, .invokevirtual 134, 3, [], 0), (17, .ifCond .ne 6, 3, [23], 0), (20, .ldc 111, 2, [], 0), (22, .ireturn, 1, [], 0), (23, .aload_n 0, 1, [], 0), (24, .iload_n 1, 1, [], 0), (25, .iload_n 2, 1, [], 0), (26, .iconst 0, 1, [], 0), (27, .invokevirtual 282, 3, [], 0), (30, .ireturn, 1, [], 0)]
theorem tk_X8_rate : tbok m_X8_rate tb_X8_rate = true := by decide +kernel
def tb_X8_keep : List Row := [(0, .iload_n 1, 1, [], 0), (1, .invokestatic 204, 3, [], 0), (4, .ifCond .ne 5, 3, [9], 0), (7, .iconst (-1), 1, [], -1), (8, .ireturn, 1, [], 0), (9, .aload_n 0, 1, [], 0), (10, .iload_n 1, 1, [], 0), (11, .invokevirtual 285, 3, [], 0), (14, .astore_n 2, 1, [], 0), (15, .aload_n 2, 1, [], 0), (16, .aload_n 0, 1, [], 0), (17, .getfield 21, 3, [], 0), (20, .invokevirtual 289, 3, [], 0), (23, .aload_n 2, 1, [], 0), (24, .iconst 1, 1, [], 1), (25, .putfield 103, 3, [], 0), (28, .aload_n 0, 1, [], 0), (29, .getfield 21, 3, [], 0), (32, .invokevirtual 292, 3, [], 0), (35, .ireturn, 1, [], 0)]
theorem tk_X8_keep : tbok m_X8_keep tb_X8_keep = true := by decide +kernel
def tb_X8_back : List Row := [(0, .iload_n 1, 1, [], 0), (1, .invokestatic 204, 3, [], 0), (4, .ifCond .ne 5, 3, [9], 0), (7, .iconst (-1), 1, [], -1), (8, .ireturn, 1, [], 0), (9, .aload_n 0, 1, [], 0), (10, .iload_n 1, 1, [], 0), (11, .invokevirtual 285, 3, [], 0), (14, .astore_n 2, 1, [], 0), (15, .aload_n 2, 1, [], 0), (16, .getfield 103, 3, [], 0), (19, .ifCond .ne 6, 3, [25], 0), (22, .bipush (-2), 2, [], -2), (24, .ireturn, 1, [], 0), (25, .aload_n 0, 1, [], 0), (26, .getfield 21, 3, [], 0), (29, .aload_n 2, 1, [], 0), (30, .invokevirtual 289, 3, [], 0), (33, .aload_n 0, 1, [], 0), (34, .getfield 21, 3, [], 0), (37, .invokevirtual 292, 3, [], 0), (40, .ireturn, 1, [], 0)]
theorem tk_X8_back : tbok m_X8_back tb_X8_back = true := by decide +kernel
def tb_X8_count : List Row := [(0, .iload_n 1, 1, [], 0), (1, .tableswitch 99 0 6 #[43, 51, 59, 67, 75, 83, 91], 43, [100, 44, 52, 60, 68, 76, 84, 92], 0), (44, .aload_n 0, 1, [], 0), (45, .getfield 12, 3, [], 0), (48, .getfield 295, 3, [], 0), (51, .ireturn, 1, [], 0), (52, .aload_n 0, 1, [], 0), (53, .getfield 12, 3, [], 0), (56, .getfield 211, 3, [], 0), (59, .ireturn, 1, [], 0), (60, .aload_n 0, 1, [], 0), (61, .getfield 12, 3, [], 0), (64, .getfield 298, 3, [], 0), (67, .ireturn, 1, [], 0), (68, .aload_n 0, 1, [], 0), (69, .getfield 62, 3, [], 0), (72, .getfield 248, 3, [], 0), (75, .ireturn, 1, [], 0), (76, .aload_n 0, 1, [], 0), (77, .getfield 62, 3, [], 0), (80, .getfield 240, 3, [], 0), (83, .ireturn, 1, [], 0), (84, .aload_n 0, 1, [], 0), (85, .getfield 34, 3, [], 0), (88, .getfield 77, 3, [], 0), (91, .ireturn, 1, [], 0), (92, .aload_n 0, 1, [], 0), (93, .getfield 21, 3, [], 0), (96, .invokevirtual 292, 3, [], 0), (99, .ireturn, 1, [], 0), (100, .iconst (-1), 1, [], -1), (101, .ireturn, 1, [], 0)]
theorem tk_X8_count : tbok m_X8_count tb_X8_count = true := by decide +kernel
def tb_X8_trace : List Row := [(0, .aload_n 0, 1, [], 0), (1, .getfield 73, 3, [], 0), (4, .lreturn, 1, [], 0)]
theorem tk_X8_trace : tbok m_X8_trace tb_X8_trace = true := by decide +kernel
def tb_X8_isZeroOrOne : List Row := [(0, .iload_n 0, 1, [], 0), (1, .ifCond .eq 8, 3, [9], 0), (4, .iload_n 0, 1, [], 0), (5, .iconst 1, 1, [], 1), (6, .if_icmp .ne 7, 3, [13], 0), (9, .iconst 1, 1, [], 1), (10, .goto 4, 3, [14], 0), (13, .iconst 0, 1, [], 0), (14, .ireturn, 1, [], 0)]
theorem tk_X8_isZeroOrOne : tbok m_X8_isZeroOrOne tb_X8_isZeroOrOne = true := by decide +kernel
def tb_X8_stepOfSeat : List Row := [(0, .iload_n 0, 1, [], 0), (1, .iload_n 1, 1, [], 0), (2, .if_icmp .ge 9, 3, [11], 0), (5, .iload_n 0, 1, [], 0), (6, .iload_n 1, 1, [], 0), (7, .isub, 1, [], 0), (8, .goto 8, 3, [16], 0), (11, .iload_n 0, 1, [], 0), (12, .iload_n 1, 1, [], 0), (13, .isub, 1, [], 0), (14, .iconst 1, 1, [], 1), (15, .iadd, 1, [], 0), (16, .ireturn, 1, [], 0)]
theorem tk_X8_stepOfSeat : tbok m_X8_stepOfSeat tb_X8_stepOfSeat = true := by decide +kernel
def tb_X8_countOrSet : List Row := [(0, .iload_n 0, 1, [], 0), (1, .ifCond .ge 6, 3, [7], 0), (4, .bipush (-9), 2, [], -9), (6, .ireturn, 1, [], 0), (7, .iload_n 1, 1, [], 0), (8, .ifCond .ne 10, 3, [18], 0), (11, .iload_n 0, 1, [], 0), (12, .invokestatic 129, 3, [], 0), (15, .goto 4, 3, [19], 0), (18, .iload_n 0, 1, [], 0), (19, .ireturn, 1, [], 0)]
theorem tk_X8_countOrSet : tbok m_X8_countOrSet tb_X8_countOrSet = true := by decide +kernel
def tb_X8_imageOf : List Row := [(0, .iload_n 1, 1, [], 0), (1, .ifCond .ne 10, 3, [11], 0), (4, .aload_n 0, 1, [], 0), (5, .getfield 25, 3, [], 0), (8, .goto 7, 3, [15], 0), (11, .aload_n 0, 1, [], 0), (12, .getfield 28, 3, [], 0), (15, .areturn, 1, [], 0)]
theorem tk_X8_imageOf : tbok m_X8_imageOf tb_X8_imageOf = true := by decide +kernel
def tb_X8_askWays : List Row := [(0, .aload_n 0, 1, [], 0), (1, .getfield 41, 3, [], 0), (4, .aload_n 0, 1, [], 0), (5, .getfield 21, 3, [], 0), (8, .iload_n 1, 1, [], 0), (9, .invokevirtual 214, 3, [], 0), (12, .aload_n 0, 1, [], 0), (13, .getfield 12, 3, [], 0), (16, .getfield 116, 3, [], 0), (19, .iload_n 1, 1, [], 0), (20, .iaload, 1, [], 0), (21, .invokevirtual 301, 3, [], 0), (24, .aload_n 0, 1, [], 0), (25, .getfield 12, 3, [], 0), (28, .getfield 112, 3, [], 0), (31, .iload_n 1, 1, [], 0), (32, .iaload, 1, [], 0), (33, .istore_n 3, 1, [], 0), (34, .iconst 0, 1, [], 0), (35, .istore 4, 2, [], 0), (37, .iload 4, 2, [], 0), (39, .iconst 2, 1, [], 2), (40, .iload_n 3, 1, [], 0), (41, .imul, 1, [], 0), (42, .if_icmp .ge 22, 3, [64], 0), (45, .aload_n 0, 1, [], 0), (46, .getfield 41, 3, [], 0), (49, .iload 4, 2, [], 0), (51, .iload_n 3, 1, [], 0), (52, .invokestatic 303, 3, [], 0), (55, .invokevirtual 306, 3, [], 0), (58, .iinc 4 1, 3, [], 1), (61, .goto (-24), 3, [37], 0), (64, .iconst 0, 1, [], 0), (65, .istore 4, 2, [], 0), (67, .iload 4, 2, [], 0), (69, .aload_n 0, 1, [], 0), (70, .getfield 12, 3, [], 0), (73, .getfield 211, 3, [], 0), (76, .if_icmp .ge 45, 3, [121], 0), (79, .iload_n 2, 1, [], 0), (80, .iconst 1, 1, [], 1), (81, .iload 4, 2, [], 0), (83, .ishl, 1, [], 0), (84, .iand, 1, [], 0), (85, .ifCond .eq 30, 3, [115], 0), (88, .aload_n 0, 1, [], 0), (89, .getfield 41, 3, [], 0), (92, .aload_n 0, 1, [], 0), (93, .getfield 12, 3, [], 0), (96, .getfield 137, 3, [], 0), (99, .iload 4, 2, [], 0), (101, .iaload, 1, [], 0), (102, .aload_n 0, 1, [], 0), (103, .getfield 21, 3, [], 0), (106, .getfield 143, 3, [], 0), (109, .iload 4, 2, [], 0), (111, .iaload, 1, [], 0), (112, .invokevirtual 309, 3, [], 0), (115, .iinc 4 1, 3, [], 1), (118, .goto (-51), 3, [67], 0), (121, .return_, 1, [], 0)]
theorem tk_X8_askWays : tbok m_X8_askWays tb_X8_askWays = true := by decide +kernel
def tb_X8_leastBallast : List Row := [(0, .aload_n 0, 1, [], 0), (1, .getfield 21, 3, [], 0), (4, .invokevirtual 312, 3, [], 0), (7, .istore_n 2, 1, [], 0), (8, .iconst 0, 1, [], 0), (9, .istore_n 3, 1, [], 0), (10, .iload_n 3, 1, [], 0), (11, .aload_n 0, 1, [], 0), (12, .getfield 12, 3, [], 0), (15, .getfield 298, 3, [], 0), (18, .if_icmp .gt 63, 3, [81], 0), (21, .iconst 0, 1, [], 0), (22, .istore 4, 2, [], 0), (24, .iload 4, 2, [], 0), (26, .iconst 1, 1, [], 1), (27, .aload_n 0, 1, [], 0), (28, .getfield 12, 3, [], 0), (31, .getfield 298, 3, [], 0), (34, .ishl, 1, [], 0), (35, .if_icmp .ge 40, 3, [75], 0), (38, .iload 4, 2, [], 0), (40, .invokestatic 129, 3, [], 0), (43, .iload_n 3, 1, [], 0), (44, .if_icmp .ne 25, 3, [69], 0), (47, .iload 4, 2, [], 0), (49, .iload_n 2, 1, [], 0), (50, .iconst (-1), 1, [], -1), (51, .ixor, 1, [], 0), (52, .iand, 1, [], 0), (53, .ifCond .ne 16, 3, [69], 0), (56, .aload_n 0, 1, [], 0), (57, .iload_n 1, 1, [], 0), (58, .iload 4, 2, [], 0), (60, .invokevirtual 315, 3, [], 0), (63, .ifCond .eq 6, 3, [69], 0), (66, .iload 4, 2, [], 0), (68, .ireturn, 1, [], 0), (69, .iinc 4 1, 3, [], 1), (72, .goto (-48), 3, [24], 0), (75, .iinc 3 1, 3, [], 1), (78, .goto (-68), 3, [10], 0), (81, .iconst (-1), 1, [], -1), (82, .ireturn, 1, [], 0)]
theorem tk_X8_leastBallast : tbok m_X8_leastBallast tb_X8_leastBallast = true := by decide +kernel
def tb_X8_canBallast : List Row := [(0, .aload_n 0, 1, [], 0), (1, .getfield 41, 3, [], 0), (4, .aload_n 0, 1, [], 0), (5, .getfield 21, 3, [], 0), (8, .iload_n 1, 1, [], 0), (9, .invokevirtual 119, 3, [], 0), (12, .aload_n 0, 1, [], 0), (13, .getfield 12, 3, [], 0), (16, .getfield 116, 3, [], 0), (19, .iload_n 1, 1, [], 0), (20, .iaload, 1, [], 0), (21, .invokevirtual 301, 3, [], 0), (24, .aload_n 0, 1, [], 0), (25, .getfield 12, 3, [], 0), (28, .getfield 112, 3, [], 0), (31, .iload_n 1, 1, [], 0), (32, .iaload, 1, [], 0), (33, .istore_n 3, 1, [], 0), (34, .iconst 0, 1, [], 0), (35, .istore 4, 2, [], 0), (37, .iload 4, 2, [], 0), (39, .iconst 2, 1, [], 2), (40, .iload_n 3, 1, [], 0), (41, .imul, 1, [], 0), (42, .if_icmp .ge 39, 3, [81], 0), (45, .iload 4, 2, [], 0), (47, .iload_n 3, 1, [], 0), (48, .invokestatic 303, 3, [], 0), (51, .istore 5, 2, [], 0), (53, .aload_n 0, 1, [], 0), (54, .getfield 21, 3, [], 0), (57, .iload_n 1, 1, [], 0), (58, .iload 5, 2, [], 0), (60, .invokevirtual 178, 3, [], 0), (63, .ifCond .ne 12, 3, [75], 0), (66, .aload_n 0, 1, [], 0), (67, .getfield 41, 3, [], 0), (70, .iload 5, 2, [], 0), (72, .invokevirtual 306, 3, [], 0), (75, .iinc 4 1, 3, [], 1), (78, .goto (-41), 3, [37], 0), (81, .iconst 0, 1, [], 0), (82, .istore 4, 2, [], 0), (84, .iload 4, 2, [], 0), (86, .aload_n 0, 1, [], 0), (87, .getfield 12, 3, [], 0), (90, .getfield 298, 3, [], 0), (93, .if_icmp .ge 36, 3, [129], 0), (96, .iload_n 2, 1, [], 0), (97, .iconst 1, 1, [], 1), (98, .iload 4, 2, [], 0), (100, .ishl, 1, [], 0), (101, .iand, 1, [], 0), (102, .ifCond .eq 21, 3, [123], 0), (105, .aload_n 0, 1, [], 0), (106, .getfield 41, 3, [], 0), (109, .aload_n 0, 1, [], 0), (110, .getfield 12, 3, [], 0), (113, .getfield 155, 3, [], 0), (116, .iload 4, 2, [], 0), (118, .iaload, 1, [], 0), (119, .iconst 0, 1, [], 0), (120, .invokevirtual 309, 3, [], 0), (123, .iinc 4 1, 3, [], 1), (126, .goto (-42), 3, [84], 0), (129, .aload_n 0, 1, [], 0), (130, .getfield 41, 3, [], 0), (133, .invokevirtual 197, 3, [], 0), (136, .ireturn, 1, [], 0)]
theorem tk_X8_canBallast : tbok m_X8_canBallast tb_X8_canBallast = true := by decide +kernel
def tb_X8_hasPartner : List Row := [(0, .iconst 0, 1, [], 0), (1, .istore_n 2, 1, [], 0), (2, .iload_n 2, 1, [], 0), (3, .aload_n 0, 1, [], 0), (4, .getfield 12, 3, [], 0), (7, .getfield 295, 3, [], 0), (10, .if_icmp .ge 48, 3, [58], 0), (13, .iconst 0, 1, [], 0), (14, .istore_n 3, 1, [], 0), (15, .iload_n 3, 1, [], 0), (16, .aload_n 0, 1, [], 0), (17, .getfield 12, 3, [], 0), (20, .getfield 211, 3, [], 0), (23, .if_icmp .ge 29, 3, [52], 0), (26, .iload_n 3, 1, [], 0), (27, .iload_n 1, 1, [], 0), (28, .if_icmp .eq 18, 3, [46], 0), (31, .aload_n 0, 1, [], 0), (32, .getfield 12, 3, [], 0), (35, .iload_n 2, 1, [], 0), (36, .iload_n 1, 1, [], 0), (37, .iload_n 3, 1, [], 0), (38, .invokevirtual 318, 3, [], 0), (41, .ifCond .eq 5, 3, [46], 0), (44, .iconst 1, 1, [], 1), (45, .ireturn, 1, [], 0), (46, .iinc 3 1, 3, [], 1), (49, .goto (-34), 3, [15], 0), (52, .iinc 2 1, 3, [], 1), (55, .goto (-53), 3, [2], 0), (58, .iconst 0, 1, [], 0), (59, .ireturn, 1, [], 0)]
theorem tk_X8_hasPartner : tbok m_X8_hasPartner tb_X8_hasPartner = true := by decide +kernel
def tb_X8_rateAs : List Row := [(0, .iload_n 3, 1, [], 0), (1, .iconst 2, 1, [], 2), (2, .if_icmp .gt 12, 3, [14], 0), (5, .iload_n 1, 1, [], 0), (6, .ifCond .lt 8, 3, [14], 0), (9, .iload_n 1, 1, [], 0), (10, .iconst 5, 1, [], 5), (11, .if_icmp .le 5, 3, [16], 0), (14, .iconst 0, 1, [], 0), (15, .ireturn, 1, [], 0), (16, .aload_n 0, 1, [], 0), (17, .dup, 1, [], 0), (18, .getfield 73, 3, [], 0), (21, .getstatic 322, 3, [], 0), (24, .iload_n 1, 1, [], 0), (25, .iaload, 1, [], 0), (26, .i2l, 1, [], 0), (27, .ladd, 1, [], 0), (28, .putfield 73, 3, [], 0), (31, .iload_n 1, 1, [], 0), (32, .ifCond .ne 13, 3, [45], 0), (35, .aload_n 0, 1, [], 0), (36, .getfield 12, 3, [], 0), (39, .getfield 137, 3, [], 0), (42, .iload_n 2, 1, [], 0), (43, .iaload, 1, [], 0), (44, .ireturn, 1, [], 0), (45, .aload_n 0, 1, [], 0), (46, .getstatic 325, 3, [], 0), (49, .iload_n 1, 1, [], 0), (50, .iaload, 1, [], 0), (51, .iload_n 2, 1, [], 0), (52, .iload_n 3, 1, [], 0), (53, .iconst 1, 1, [], 1), (54, .iadd, 1, [], 0), (55, .invokevirtual 282, 3, [], 0), (58, .istore 4, 2, [], 0), (60, .iload_n 1, 1, [], 0), (61, .tableswitch 75 1 4 #[31, 44, 57, 62], 31, [136, 92, 105, 118, 123], 0), (92, .iload 4, 2, [], 0), (94, .aload_n 0, 1, [], 0), (95, .getfield 21, 3, [], 0), (98, .getfield 149, 3, [], 0), (101, .iload_n 2, 1, [], 0), (102, .iaload, 1, [], 0), (103, .iadd, 1, [], 0), (104, .ireturn, 1, [], 0), (105, .iload 4, 2, [], 0), (107, .aload_n 0, 1, [], 0), (108, .getfield 21, 3, [], 0), (111, .getfield 143, 3, [], 0), (114, .iload_n 2, 1, [], 0), (115, .iaload, 1, [], 0), (116, .isub, 1, [], 0), (117, .ireturn, 1, [], 0), (118, .iconst 2, 1, [], 2), (119, .iload 4, 2, [], 0), (121, .imul, 1, [], 0), (122, .ireturn, 1, [], 0), (123, .iload 4, 2, [], 0), (125, .aload_n 0, 1, [], 0), (126, .getfield 12, 3, [], 0), (129, .getfield 140, 3, [], 0), (132, .iload_n 2, 1, [], 0), (133, .iaload, 1, [], 0), (134, .iadd, 1, [], 0), (135, .ireturn, 1, [], 0), (136, .iload 4, 2, [], 0), (138, .iload_n 2, 1, [], 0), (139, .isub, 1, [], 0), (140, .ireturn, 1, [], 0)]
theorem tk_X8_rateAs : tbok m_X8_rateAs tb_X8_rateAs = true := by decide +kernel
end
section
def tb_X9_in : List Row := [(0, .iload_n 0, 1, [], 0), (1, .iload_n 1, 1, [], 0), (2, .if_icmp .lt 12, 3, [14], 0), (5, .iload_n 0, 1, [], 0), (6, .iload_n 2, 1, [], 0), (7, .if_icmp .gt 7, 3, [14], 0), (10, .iconst 1, 1, [], 1), (11, .goto 4, 3, [15], 0), (14, .iconst 0, 1, [], 0), (15, .ireturn, 1, [], 0)]
theorem tk_X9_in : tbok m_X9_in tb_X9_in = true := by decide +kernel
def tb_X9_size : List Row := [(0, .iload_n 0, 1, [], 0), (1, .ifCond .ge 8, 3, [9], 0), (4, .iload_n 0, 1, [], 0), (5, .ineg, 1, [], 0), (6, .goto 4, 3, [10], 0), (9, .iload_n 0, 1, [], 0), (10, .ireturn, 1, [], 0)]
theorem tk_X9_size : tbok m_X9_size tb_X9_size = true := by decide +kernel
def tb_X9_type : List Row := [(0, .aload_n 0, 1, [], 0), (1, .iconst 0, 1, [], 0), (2, .putfield 72, 3, [], 0), (5, .iload_n 3, 1, [], 0), (6, .iconst 1, 1, [], 1), (7, .bipush 8, 2, [], 8), (9, .invokestatic 75, 3, [], 0), (12, .ifCond .ne 5, 3, [17], 0), (15, .iconst (-1), 1, [], -1), (16, .ireturn, 1, [], 0), (17, .aload_n 0, 1, [], 0), (18, .getfield 79, 3, [], 0), (21, .iload_n 3, 1, [], 0), (22, .iadd, 1, [], 0), (23, .sipush 300, 3, [], 300), (26, .if_icmp .le 6, 3, [32], 0), (29, .bipush (-3), 2, [], -3), (31, .ireturn, 1, [], 0), (32, .iload_n 3, 1, [], 0), (33, .iconst 1, 1, [], 1), (34, .isub, 1, [], 0), (35, .istore 4, 2, [], 0), (37, .iload 4, 2, [], 0), (39, .ifCond .lt 40, 3, [79], 0), (42, .aload_n 0, 1, [], 0), (43, .getfield 7, 3, [], 0), (46, .aload_n 0, 1, [], 0), (47, .getfield 79, 3, [], 0), (50, .lload_n 1, 1, [], 0), (51, .bipush 8, 2, [], 8), (53, .iload 4, 2, [], 0), (55, .imul, 1, [], 0), (56, .lshr, 1, [], 0), (57, .ldc2_w 82, 3, [], 0), (60, .land, 1, [], 0), (61, .l2i, 1, [], 0), (62, .iastore, 1, [], 0), (63, .aload_n 0, 1, [], 0), (64, .dup, 1, [], 0), (65, .getfield 79, 3, [], 0), (68, .iconst 1, 1, [], 1), (69, .iadd, 1, [], 0), (70, .putfield 79, 3, [], 0), (73, .iinc 4 (-1), 3, [], -1), (76, .goto (-39), 3, [37], 0), (79, .aload_n 0, 1, [], 0), (80, .getfield 79, 3, [], 0), (83, .ireturn, 1, [], 0)]
theorem tk_X9_type : tbok m_X9_type tb_X9_type = true := by decide +kernel
def tb_X9_clear : List Row := [(0, .aload_n 0, 1, [], 0), (1, .iconst 0, 1, [], 0), (2, .putfield 72, 3, [], 0), (5, .aload_n 0, 1, [], 0), (6, .getfield 79, 3, [], 0), (9, .istore_n 1, 1, [], 0), (10, .aload_n 0, 1, [], 0), (11, .iconst 0, 1, [], 0), (12, .putfield 79, 3, [], 0), (15, .iload_n 1, 1, [], 0), (16, .ireturn, 1, [], 0)]
theorem tk_X9_clear : tbok m_X9_clear tb_X9_clear = true := by decide +kernel
def tb_X9_byteAt : List Row := [(0, .iload_n 1, 1, [], 0), (1, .aload_n 0, 1, [], 0), (2, .getfield 79, 3, [], 0), (5, .if_icmp .ge 12, 3, [17], 0), (8, .aload_n 0, 1, [], 0), (9, .getfield 7, 3, [], 0), (12, .iload_n 1, 1, [], 0), (13, .iaload, 1, [], 0), (14, .goto 4, 3, [18], 0), (17, .iconst (-1), 1, [], -1), (18, .ireturn, 1, [], 0)]
theorem tk_X9_byteAt : tbok m_X9_byteAt tb_X9_byteAt = true := by decide +kernel
def tb_X9_add : List Row := [(0, .ldc2_w 84, 3, [], 0), (3, .lload_n 0, 1, [], 0), (4, .lmul, 1, [], 0), (5, .iload_n 2, 1, [], 0), (6, .i2l, 1, [], 0), (7, .ladd, 1, [], 0), (8, .lreturn, 1, [], 0)]
theorem tk_X9_add : tbok m_X9_add tb_X9_add = true := by decide +kernel
def tb_X9_named : List Row := [(0, .lconst 0, 1, [], 0), (1, .iload_n 0, 1, [], 0), (2, .invokestatic 86, 3, [], 0), (5, .iload_n 1, 1, [], 0), (6, .invokestatic 86, 3, [], 0), (9, .iload_n 2, 1, [], 0), (10, .invokestatic 86, 3, [], 0), (13, .iload_n 3, 1, [], 0), (14, .invokestatic 86, 3, [], 0), (17, .iload 4, 2, [], 0), (19, .invokestatic 86, 3, [], 0), (22, .lreturn, 1, [], 0)]
theorem tk_X9_named : tbok m_X9_named tb_X9_named = true := by decide +kernel
def tb_X9_wordOf : List Row := [(0, .lload_n 0, 1, [], 0), (1, .bipush 112, 2, [], 112), (3, .bipush 108, 2, [], 108), (5, .bipush 97, 2, [], 97), (7, .bipush 110, 2, [], 110), (9, .bipush 107, 2, [], 107), (11, .invokestatic 90, 3, [], 0), (14, .lcmp, 1, [], 0), (15, .ifCond .ne 7, 3, [22], 0), (18, .iconst 0, 1, [], 0), (19, .goto 49, 3, [68], 0), (22, .lload_n 0, 1, [], 0), (23, .bipush 99, 2, [], 99), (25, .bipush 104, 2, [], 104), (27, .bipush 105, 2, [], 105), (29, .bipush 108, 2, [], 108), (31, .bipush 100, 2, [], 100), (33, .invokestatic 90, 3, [], 0), (36, .lcmp, 1, [], 0), (37, .ifCond .ne 7, 3, [44], 0), (40, .iconst 1, 1, [], 1), (41, .goto 27, 3, [68], 0), (44, .lload_n 0, 1, [], 0), (45, .bipush 115, 2, [], 115), (47, .bipush 116, 2, [], 116), (49, .bipush 111, 2, [], 111), (51, .bipush 110, 2, [], 110), (53, .bipush 101, 2, [], 101), (55, .invokestatic 90, 3, [], 0), (58, .lcmp, 1, [], 0), (59, .ifCond .ne 7, 3, [66], 0), (62, .iconst 2, 1, [], 2), (63, .goto 5, 3, [68], 0), (66, .bipush (-9), 2, [], -9), (68, .ireturn, 1, [], 0)]
theorem tk_X9_wordOf : tbok m_X9_wordOf tb_X9_wordOf = true := by decide +kernel
def tb_X9_advances : List Row := [(0, .aload_n 0, 1, [], 0), (1, .aload_n 0, 1, [], 0), (2, .getfield 94, 3, [], 0), (5, .invokevirtual 97, 3, [], 0), (8, .bipush 32, 2, [], 32), (10, .if_icmp .ne 16, 3, [26], 0), (13, .aload_n 0, 1, [], 0), (14, .dup, 1, [], 0), (15, .getfield 94, 3, [], 0), (18, .iconst 1, 1, [], 1), (19, .iadd, 1, [], 0), (20, .putfield 94, 3, [], 0), (23, .goto (-23), 3, [0], 0), (26, .aload_n 0, 1, [], 0), (27, .aload_n 0, 1, [], 0), (28, .getfield 94, 3, [], 0), (31, .putfield 101, 3, [], 0), (34, .aload_n 0, 1, [], 0), (35, .aload_n 0, 1, [], 0), (36, .getfield 94, 3, [], 0), (39, .invokevirtual 97, 3, [], 0), (42, .istore_n 1, 1, [], 0), (43, .iload_n 1, 1, [], 0), (44, .ifCond .ge 11, 3, [55], 0), (47, .aload_n 0, 1, [], 0), (48, .iconst 0, 1, [], 0), (49, .putfield 104, 3, [], 0), (52, .goto 258, 3, [310], 0), (55, .iload_n 1, 1, [], 0), (56, .bipush 97, 2, [], 97), (58, .bipush 122, 2, [], 122), (60, .invokestatic 75, 3, [], 0), (63, .ifCond .eq 96, 3, [159], 0), (66, .lconst 0, 1, [], 0), (67, .lstore_n 2, 1, [], 0), (68, .aload_n 0, 1, [], 0), (69, .aload_n 0, 1, [], 0), (70, .getfield 94, 3, [], 0), (73, .invokevirtual 97, 3, [], 0), (76, .bipush 97, 2, [], 97), (78, .bipush 122, 2, [], 122), (80, .invokestatic 75, 3, [], 0), (83, .ifCond .eq 47, 3, [130], 0), (86, .aload_n 0, 1, [], 0), (87, .getfield 94, 3, [], 0), (90, .aload_n 0, 1, [], 0), (91, .getfield 101, 3, [], 0), (94, .isub, 1, [], 0), (95, .bipush 6, 2, [], 6), (97, .if_icmp .ge 18, 3, [115], 0), (100, .lload_n 2, 1, [], 0), (101, .aload_n 0, 1, [], 0), (102, .aload_n 0, 1, [], 0), (103, .getfield 94, 3, [], 0), (106, .invokevirtual 97, 3, [], 0), (109, .invokestatic 86, 3, [], 0), (112, .goto 4, 3, [116], 0), (115, .lload_n 2, 1, [], 0), (116, .lstore_n 2, 1, [], 0), (117, .aload_n 0, 1, [], 0), (118, .dup, 1, [], 0), (119, .getfield 94, 3, [], 0), (122, .iconst 1, 1, [], 1), (123, .iadd, 1, [], 0), (124, .putfield 94, 3, [], 0), (127, .goto (-59), 3, [68], 0), (130, .aload_n 0, 1, [], 0), (131, .lload_n 2, 1, [], 0), (132, .invokestatic 107, 3, [], 0), (135, .putfield 111, 3, [], 0), (138, .aload_n 0, 1, [], 0), (139, .aload_n 0, 1, [], 0), (140, .getfield 111, 3, [], 0), (143, .bipush (-9), 2, [], -9), (145, .if_icmp .ne 7, 3, [152], 0), (148, .iconst 4, 1, [], 4), (149, .goto 4, 3, [153], 0), (152, .iconst 1, 1, [], 1), (153, .putfield 104, 3, [], 0), (156, .goto 154, 3, [310], 0), (159, .iload_n 1, 1, [], 0), (160, .bipush 48, 2, [], 48), (162, .bipush 57, 2, [], 57), (164, .invokestatic 75, 3, [], 0), (167, .ifCond .eq 118, 3, [285], 0), (170, .aload_n 0, 1, [], 0), (171, .iconst 0, 1, [], 0), (172, .putfield 111, 3, [], 0), (175, .aload_n 0, 1, [], 0), (176, .aload_n 0, 1, [], 0), (177, .getfield 94, 3, [], 0), (180, .invokevirtual 97, 3, [], 0), (183, .bipush 48, 2, [], 48), (185, .bipush 57, 2, [], 57), (187, .invokestatic 75, 3, [], 0), (190, .ifCond .eq 55, 3, [245], 0), (193, .aload_n 0, 1, [], 0), (194, .aload_n 0, 1, [], 0), (195, .getfield 111, 3, [], 0), (198, .bipush 99, 2, [], 99), (200, .if_icmp .le 10, 3, [210], 0), (203, .aload_n 0, 1, [], 0), (204, .getfield 111, 3, [], 0), (207, .goto 22, 3, [229], 0), (210, .bipush 10, 2, [], 10), (212, .aload_n 0, 1, [], 0), (213, .getfield 111, 3, [], 0), (216, .imul, 1, [], 0), (217, .aload_n 0, 1, [], 0), (218, .aload_n 0, 1, [], 0), (219, .getfield 94, 3, [], 0), (222, .invokevirtual 97, 3, [], 0), (225, .iadd, 1, [], 0), (226, .bipush 48, 2, [], 48), (228, .isub, 1, [], 0), (229, .putfield 111, 3, [], 0), (232, .aload_n 0, 1, [], 0), (233, .dup, 1, [], 0), (234, .getfield 94, 3, [], 0), (237, .iconst 1, 1, [], 1), (238, .iadd, 1, [], 0), (239, .putfield 94, 3, [], 0), (242, .goto (-67), 3, [175], 0), (245, .aload_n 0, 1, [], 0), (246, .aload_n 0, 1, [], 0), (247, .getfield 111, 3, [], 0), (250, .bipush 99, 2, [], 99), (252, .if_icmp .gt 22, 3, [274], 0), (255, .iload_n 1, 1, [], 0), (256, .bipush 48, 2, [], 48), (258, .if_icmp .ne 20, 3, [278], 0), (261, .aload_n 0, 1, [], 0), (262, .getfield 94, 3, [], 0), (265, .aload_n 0, 1, [], 0), (266, .getfield 101, 3, [], 0), (269, .isub, 1, [], 0), (270, .iconst 1, 1, [], 1), (271, .if_icmp .le 7, 3, [278], 0), (274, .iconst 4, 1, [], 4), (275, .goto 4, 3, [279], 0), (278, .iconst 2, 1, [], 2), (279, .putfield 104, 3, [], 0), (282, .goto 28, 3, [310], 0), (285, .aload_n 0, 1, [], 0), (286, .dup, 1, [], 0), (287, .getfield 94, 3, [], 0), (290, .iconst 1, 1, [], 1), (291, .iadd, 1, [], 0), (292, .putfield 94, 3, [], 0), (295, .aload_n 0, 1, [], 0), (296, .iload_n 1, 1, [], 0), (297, .bipush 59, 2, [], 59), (299, .if_icmp .ne 7, 3, [306], 0), (302, .iconst 3, 1, [], 3), (303, .goto 4, 3, [307], 0), (306, .iconst 4, 1, [], 4), (307, .putfield 104, 3, [], 0), (310, .return_, 1, [], 0)]
theorem tk_X9_advances : tbok m_X9_advances tb_X9_advances = true := by decide +kernel
def tb_X9_isWell : List Row := [(0, .aload_n 0, 1, [], 0), (1, .getfield 114, 3, [], 0), (4, .ifCond .ge 7, 3, [11], 0), (7, .iconst 1, 1, [], 1), (8, .goto 4, 3, [12], 0), (11, .iconst 0, 1, [], 0), (12, .ireturn, 1, [], 0)]
theorem tk_X9_isWell : tbok m_X9_isWell tb_X9_isWell = true := by decide +kernel
def tb_X9_takes : List Row := [(0, .aload_n 0, 1, [], 0), (1, .invokevirtual 117, 3, [], 0), (4, .ifCond .ne 5, 3, [9], 0), (7, .iconst 0, 1, [], 0), (8, .ireturn, 1, [], 0), (9, .iload_n 1, 1, [], 0), (10, .ifCond .ne 13, 3, [23], 0), (13, .aload_n 0, 1, [], 0), (14, .aload_n 0, 1, [], 0), (15, .getfield 101, 3, [], 0), (18, .putfield 114, 3, [], 0), (21, .iconst 0, 1, [], 0), (22, .ireturn, 1, [], 0), (23, .aload_n 0, 1, [], 0), (24, .getfield 111, 3, [], 0), (27, .istore_n 2, 1, [], 0), (28, .aload_n 0, 1, [], 0), (29, .invokevirtual 121, 3, [], 0), (32, .iload_n 2, 1, [], 0), (33, .ireturn, 1, [], 0)]
theorem tk_X9_takes : tbok m_X9_takes tb_X9_takes = true := by decide +kernel
def tb_X9_number : List Row := [(0, .aload_n 0, 1, [], 0), (1, .aload_n 0, 1, [], 0), (2, .getfield 104, 3, [], 0), (5, .iconst 2, 1, [], 2), (6, .if_icmp .ne 19, 3, [25], 0), (9, .aload_n 0, 1, [], 0), (10, .getfield 111, 3, [], 0), (13, .iload_n 1, 1, [], 0), (14, .iload_n 2, 1, [], 0), (15, .invokestatic 75, 3, [], 0), (18, .ifCond .eq 7, 3, [25], 0), (21, .iconst 1, 1, [], 1), (22, .goto 4, 3, [26], 0), (25, .iconst 0, 1, [], 0), (26, .invokevirtual 124, 3, [], 0), (29, .ireturn, 1, [], 0)]
theorem tk_X9_number : tbok m_X9_number tb_X9_number = true := by decide +kernel
def tb_X9_readsItem : List Row := [(0, .iload_n 1, 1, [], 0), (1, .ifCond .ne 51, 3, [52], 0), (4, .aload_n 0, 1, [], 0), (5, .getfield 13, 3, [], 0), (8, .iconst 3, 1, [], 3), (9, .aload_n 0, 1, [], 0), (10, .getfield 128, 3, [], 0), (13, .iadd, 1, [], 0), (14, .aload_n 0, 1, [], 0), (15, .iconst 1, 1, [], 1), (16, .iconst 4, 1, [], 4), (17, .invokevirtual 131, 3, [], 0), (20, .iastore, 1, [], 0), (21, .aload_n 0, 1, [], 0), (22, .getfield 16, 3, [], 0), (25, .iconst 3, 1, [], 3), (26, .aload_n 0, 1, [], 0), (27, .getfield 128, 3, [], 0), (30, .iadd, 1, [], 0), (31, .aload_n 0, 1, [], 0), (32, .iconst 0, 1, [], 0), (33, .bipush 20, 2, [], 20), (35, .invokevirtual 131, 3, [], 0), (38, .iastore, 1, [], 0), (39, .aload_n 0, 1, [], 0), (40, .dup, 1, [], 0), (41, .getfield 128, 3, [], 0), (44, .iconst 1, 1, [], 1), (45, .iadd, 1, [], 0), (46, .putfield 128, 3, [], 0), (49, .goto 87, 3, [136], 0), (52, .iload_n 1, 1, [], 0), (53, .iconst 1, 1, [], 1), (54, .if_icmp .ne 54, 3, [108], 0), (57, .aload_n 0, 1, [], 0), (58, .getfield 19, 3, [], 0), (61, .bipush 8, 2, [], 8), (63, .aload_n 0, 1, [], 0), (64, .getfield 135, 3, [], 0), (67, .iadd, 1, [], 0), (68, .aload_n 0, 1, [], 0), (69, .iconst 1, 1, [], 1), (70, .bipush 60, 2, [], 60), (72, .invokevirtual 131, 3, [], 0), (75, .iastore, 1, [], 0), (76, .aload_n 0, 1, [], 0), (77, .getfield 22, 3, [], 0), (80, .bipush 8, 2, [], 8), (82, .aload_n 0, 1, [], 0), (83, .getfield 135, 3, [], 0), (86, .iadd, 1, [], 0), (87, .aload_n 0, 1, [], 0), (88, .iconst 1, 1, [], 1), (89, .bipush 30, 2, [], 30), (91, .invokevirtual 131, 3, [], 0), (94, .iastore, 1, [], 0), (95, .aload_n 0, 1, [], 0), (96, .dup, 1, [], 0), (97, .getfield 135, 3, [], 0), (100, .iconst 1, 1, [], 1), (101, .iadd, 1, [], 0), (102, .putfield 135, 3, [], 0), (105, .goto 31, 3, [136], 0), (108, .aload_n 0, 1, [], 0), (109, .getfield 25, 3, [], 0), (112, .iconst 5, 1, [], 5), (113, .aload_n 0, 1, [], 0), (114, .getfield 138, 3, [], 0), (117, .iadd, 1, [], 0), (118, .aload_n 0, 1, [], 0), (119, .iconst 1, 1, [], 1), (120, .bipush 20, 2, [], 20), (122, .invokevirtual 131, 3, [], 0), (125, .iastore, 1, [], 0), (126, .aload_n 0, 1, [], 0), (127, .dup, 1, [], 0), (128, .getfield 138, 3, [], 0), (131, .iconst 1, 1, [], 1), (132, .iadd, 1, [], 0), (133, .putfield 138, 3, [], 0), (136, .return_, 1, [], 0)]
theorem tk_X9_readsItem : tbok m_X9_readsItem tb_X9_readsItem = true := by decide +kernel
def tb_X9_park : List Row := [(0, .aload_n 0, 1, [], 0), (1, .iconst 0, 1, [], 0), (2, .putfield 72, 3, [], 0), (5, .aload_n 0, 1, [], 0), (6, .iconst (-1), 1, [], -1), (7, .putfield 114, 3, [], 0), (10, .aload_n 0, 1, [], 0), (11, .iconst 0, 1, [], 0), (12, .putfield 94, 3, [], 0), (15, .iconst 0, 1, [], 0), (16, .istore_n 1, 1, [], 0), (17, .aload_n 0, 1, [], 0), (18, .iconst 0, 1, [], 0), (19, .putfield 128, 3, [], 0), (22, .aload_n 0, 1, [], 0), (23, .iconst 0, 1, [], 0), (24, .putfield 135, 3, [], 0), (27, .aload_n 0, 1, [], 0), (28, .iconst 0, 1, [], 0), (29, .putfield 138, 3, [], 0), (32, .aload_n 0, 1, [], 0), (33, .invokevirtual 121, 3, [], 0), (36, .aload_n 0, 1, [], 0), (37, .invokevirtual 117, 3, [], 0), (40, .ifCond .eq 110, 3, [150], 0), (43, .aload_n 0, 1, [], 0), (44, .getfield 104, 3, [], 0), (47, .ifCond .eq 103, 3, [150], 0), (50, .aload_n 0, 1, [], 0), (51, .aload_n 0, 1, [], 0), (52, .getfield 104, 3, [], 0), (55, .iconst 1, 1, [], 1), (56, .if_icmp .ne 53, 3, [109], 0), (59, .aload_n 0, 1, [], 0), (60, .getfield 111, 3, [], 0), (63, .ifCond .ne 14, 3, [77], 0), (66, .aload_n 0, 1, [], 0), (67, .getfield 128, 3, [], 0), (70, .iconst 3, 1, [], 3), (71, .if_icmp .ge 38, 3, [109], 0), (74, .goto 31, 3, [105], 0), (77, .aload_n 0, 1, [], 0), (78, .getfield 111, 3, [], 0), (81, .iconst 1, 1, [], 1), (82, .if_icmp .ne 15, 3, [97], 0), (85, .aload_n 0, 1, [], 0), (86, .getfield 135, 3, [], 0), (89, .bipush 8, 2, [], 8), (91, .if_icmp .ge 18, 3, [109], 0), (94, .goto 11, 3, [105], 0), (97, .aload_n 0, 1, [], 0), (98, .getfield 138, 3, [], 0), (101, .iconst 5, 1, [], 5), (102, .if_icmp .ge 7, 3, [109], 0), (105, .iconst 1, 1, [], 1), (106, .goto 4, 3, [110], 0), (109, .iconst 0, 1, [], 0), (110, .invokevirtual 124, 3, [], 0), (113, .istore_n 2, 1, [], 0), (114, .aload_n 0, 1, [], 0), (115, .invokevirtual 117, 3, [], 0), (118, .ifCond .eq 8, 3, [126], 0), (121, .aload_n 0, 1, [], 0), (122, .iload_n 2, 1, [], 0), (123, .invokevirtual 141, 3, [], 0), (126, .aload_n 0, 1, [], 0), (127, .aload_n 0, 1, [], 0), (128, .getfield 104, 3, [], 0), (131, .iconst 3, 1, [], 3), (132, .if_icmp .ne 7, 3, [139], 0), (135, .iconst 1, 1, [], 1), (136, .goto 4, 3, [140], 0), (139, .iconst 0, 1, [], 0), (140, .invokevirtual 124, 3, [], 0), (143, .pop, 1, [], 0), (144, .iinc 1 1, 3, [], 1), (147, .goto (-111), 3, [36], 0), (150, .aload_n 0, 1, [], 0), (151, .invokevirtual 117, 3, [], 0), (154, .ifCond .ne 11, 3, [165], 0), (157, .bipush (-10), 2, [], -10), (159, .aload_n 0, 1, [], 0), (160, .getfield 114, 3, [], 0), (163, .isub, 1, [], 0), (164, .ireturn, 1, [], 0), (165, .aload_n 0, 1, [], 0), (166, .aload_n 0, 1, [], 0), (167, .getfield 128, 3, [], 0), (170, .putfield 145, 3, [], 0), (173, .aload_n 0, 1, [], 0), (174, .aload_n 0, 1, [], 0), (175, .getfield 135, 3, [], 0), (178, .putfield 148, 3, [], 0), (181, .aload_n 0, 1, [], 0), (182, .aload_n 0, 1, [], 0), (183, .getfield 138, 3, [], 0), (186, .putfield 151, 3, [], 0), (189, .iconst 0, 1, [], 0), (190, .istore_n 2, 1, [], 0), (191, .iload_n 2, 1, [], 0), (192, .bipush 8, 2, [], 8), (194, .if_icmp .ge 39, 3, [233], 0), (197, .aload_n 0, 1, [], 0), (198, .getfield 19, 3, [], 0), (201, .iload_n 2, 1, [], 0), (202, .aload_n 0, 1, [], 0), (203, .getfield 19, 3, [], 0), (206, .bipush 8, 2, [], 8), (208, .iload_n 2, 1, [], 0), (209, .iadd, 1, [], 0), (210, .iaload, 1, [], 0), (211, .iastore, 1, [], 0), (212, .aload_n 0, 1, [], 0), (213, .getfield 22, 3, [], 0), (216, .iload_n 2, 1, [], 0), (217, .aload_n 0, 1, [], 0), (218, .getfield 22, 3, [], 0), (221, .bipush 8, 2, [], 8), (223, .iload_n 2, 1, [], 0), (224, .iadd, 1, [], 0), (225, .iaload, 1, [], 0), (226, .iastore, 1, [], 0), (227, .iinc 2 1, 3, [], 1), (230, .goto (-39), 3, [191], 0), (233, .iconst 0, 1, [], 0), (234, .istore_n 2, 1, [], 0), (235, .iload_n 2, 1, [], 0), (236, .iconst 5, 1, [], 5), (237, .if_icmp .ge 23, 3, [260], 0), (240, .aload_n 0, 1, [], 0), (241, .getfield 25, 3, [], 0), (244, .iload_n 2, 1, [], 0), (245, .aload_n 0, 1, [], 0), (246, .getfield 25, 3, [], 0), (249, .iconst 5, 1, [], 5), (250, .iload_n 2, 1, [], 0), (251, .iadd, 1, [], 0), (252, .iaload, 1, [], 0), (253, .iastore, 1, [], 0), (254, .iinc 2 1, 3, [], 1), (257, .goto (-22), 3, [235], 0), (260, .iconst 0, 1, [], 0), (261, .istore_n 2, 1, [], 0), (262, .iload_n 2, 1, [], 0), (263, .iconst 3, 1, [], 3), (264, .if_icmp .ge 37, 3, [301], 0), (267, .aload_n 0, 1, [], 0), (268, .getfield 13, 3, [], 0), (271, .iload_n 2, 1, [], 0), (272, .aload_n 0, 1, [], 0), (273, .getfield 13, 3, [], 0), (276, .iconst 3, 1, [], 3), (277, .iload_n 2, 1, [], 0), (278, .iadd, 1, [], 0), (279, .iaload, 1, [], 0), (280, .iastore, 1, [], 0), (281, .aload_n 0, 1, [], 0), (282, .getfield 16, 3, [], 0), (285, .iload_n 2, 1, [], 0), (286, .aload_n 0, 1, [], 0), (287, .getfield 16, 3, [], 0), (290, .iconst 3, 1, [], 3), (291, .iload_n 2, 1, [], 0), (292, .iadd, 1, [], 0), (293, .iaload, 1, [], 0), (294, .iastore, 1, [], 0), (295, .iinc 2 1, 3, [], 1), (298, .goto (-36), 3, [262], 0), (301, .aload_n 0, 1, [], 0), (302, .iconst 0, 1, [], 0), (303, .putfield 79, 3, [], 0), (306, .aload_n 0, 1, [], 0), (307, .getfield 34, 3, [], 0), (310, .iconst 0, 1, [], 0), (311, .iconst 0, 1, [], 0), (312, .bastore, 1, [], 0), (313, .aload_n 0, 1, [], 0), (314, .getfield 34, 3, [], 0), (317, .iconst 1, 1, [], 1), (318, .iconst 0, 1, [], 0), (319, .bastore, 1, [], 0), (320, .aload_n 0, 1, [], 0), (321, .invokevirtual 69, 3, [], 0), (324, .iload_n 1, 1, [], 0), (325, .ireturn, 1, [], 0)]
theorem tk_X9_park : tbok m_X9_park tb_X9_park = true := by decide +kernel
def tb_X9_begins : List Row := [(0, .iconst 0, 1, [], 0), (1, .istore_n 1, 1, [], 0), (2, .iload_n 1, 1, [], 0), (3, .bipush 34, 2, [], 34), (5, .if_icmp .ge 42, 3, [47], 0), (8, .aload_n 0, 1, [], 0), (9, .getfield 28, 3, [], 0), (12, .iload_n 1, 1, [], 0), (13, .iload_n 1, 1, [], 0), (14, .iconst 0, 1, [], 0), (15, .bipush 7, 2, [], 7), (17, .invokestatic 75, 3, [], 0), (20, .ifCond .ne 14, 3, [34], 0), (23, .iload_n 1, 1, [], 0), (24, .bipush 24, 2, [], 24), (26, .bipush 28, 2, [], 28), (28, .invokestatic 75, 3, [], 0), (31, .ifCond .eq 8, 3, [39], 0), (34, .bipush (-9), 2, [], -9), (36, .goto 4, 3, [40], 0), (39, .iconst 0, 1, [], 0), (40, .iastore, 1, [], 0), (41, .iinc 1 1, 3, [], 1), (44, .goto (-42), 3, [2], 0), (47, .return_, 1, [], 0)]
theorem tk_X9_begins : tbok m_X9_begins tb_X9_begins = true := by decide +kernel
def tb_X9_isPlank : List Row := [(0, .iload_n 1, 1, [], 0), (1, .iconst 0, 1, [], 0), (2, .aload_n 0, 1, [], 0), (3, .getfield 145, 3, [], 0), (6, .iconst 1, 1, [], 1), (7, .isub, 1, [], 0), (8, .invokestatic 75, 3, [], 0), (11, .ireturn, 1, [], 0)]
theorem tk_X9_isPlank : tbok m_X9_isPlank tb_X9_isPlank = true := by decide +kernel
def tb_X9_isChild : List Row := [(0, .iload_n 1, 1, [], 0), (1, .iconst 0, 1, [], 0), (2, .aload_n 0, 1, [], 0), (3, .getfield 148, 3, [], 0), (6, .iconst 1, 1, [], 1), (7, .isub, 1, [], 0), (8, .invokestatic 75, 3, [], 0), (11, .ireturn, 1, [], 0)]
theorem tk_X9_isChild : tbok m_X9_isChild tb_X9_isChild = true := by decide +kernel
def tb_X9_isStone : List Row := [(0, .iload_n 1, 1, [], 0), (1, .iconst 0, 1, [], 0), (2, .aload_n 0, 1, [], 0), (3, .getfield 151, 3, [], 0), (6, .iconst 1, 1, [], 1), (7, .isub, 1, [], 0), (8, .invokestatic 75, 3, [], 0), (11, .ireturn, 1, [], 0)]
theorem tk_X9_isStone : tbok m_X9_isStone tb_X9_isStone = true := by decide +kernel
def tb_X9_stonesOn : List Row := [(0, .iconst 0, 1, [], 0), (1, .istore_n 2, 1, [], 0), (2, .iconst 0, 1, [], 0), (3, .istore_n 3, 1, [], 0), (4, .iload_n 3, 1, [], 0), (5, .aload_n 0, 1, [], 0), (6, .getfield 151, 3, [], 0), (9, .if_icmp .ge 45, 3, [54], 0), (12, .iload_n 2, 1, [], 0), (13, .aload_n 0, 1, [], 0), (14, .getfield 28, 3, [], 0), (17, .bipush 24, 2, [], 24), (19, .iload_n 3, 1, [], 0), (20, .iadd, 1, [], 0), (21, .iaload, 1, [], 0), (22, .iload_n 1, 1, [], 0), (23, .if_icmp .ne 22, 3, [45], 0), (26, .aload_n 0, 1, [], 0), (27, .getfield 25, 3, [], 0), (30, .iload_n 3, 1, [], 0), (31, .iaload, 1, [], 0), (32, .aload_n 0, 1, [], 0), (33, .getfield 28, 3, [], 0), (36, .bipush 29, 2, [], 29), (38, .iload_n 3, 1, [], 0), (39, .iadd, 1, [], 0), (40, .iaload, 1, [], 0), (41, .imul, 1, [], 0), (42, .goto 4, 3, [46], 0), (45, .iconst 0, 1, [], 0), (46, .iadd, 1, [], 0), (47, .istore_n 2, 1, [], 0), (48, .iinc 3 1, 3, [], 1), (51, .goto (-47), 3, [4], 0), (54, .iload_n 2, 1, [], 0), (55, .ireturn, 1, [], 0)]
theorem tk_X9_stonesOn : tbok m_X9_stonesOn tb_X9_stonesOn = true := by decide +kernel
def tb_X9_momentOf : List Row := [(0, .aload_n 0, 1, [], 0), (1, .iload_n 1, 1, [], 0), (2, .invokevirtual 154, 3, [], 0), (5, .istore_n 2, 1, [], 0), (6, .iconst 0, 1, [], 0), (7, .istore_n 3, 1, [], 0), (8, .iload_n 3, 1, [], 0), (9, .aload_n 0, 1, [], 0), (10, .getfield 148, 3, [], 0), (13, .if_icmp .ge 44, 3, [57], 0), (16, .iload_n 2, 1, [], 0), (17, .aload_n 0, 1, [], 0), (18, .getfield 28, 3, [], 0), (21, .iconst 0, 1, [], 0), (22, .iload_n 3, 1, [], 0), (23, .iadd, 1, [], 0), (24, .iaload, 1, [], 0), (25, .iload_n 1, 1, [], 0), (26, .if_icmp .ne 22, 3, [48], 0), (29, .aload_n 0, 1, [], 0), (30, .getfield 19, 3, [], 0), (33, .iload_n 3, 1, [], 0), (34, .iaload, 1, [], 0), (35, .aload_n 0, 1, [], 0), (36, .getfield 28, 3, [], 0), (39, .bipush 8, 2, [], 8), (41, .iload_n 3, 1, [], 0), (42, .iadd, 1, [], 0), (43, .iaload, 1, [], 0), (44, .imul, 1, [], 0), (45, .goto 4, 3, [49], 0), (48, .iconst 0, 1, [], 0), (49, .iadd, 1, [], 0), (50, .istore_n 2, 1, [], 0), (51, .iinc 3 1, 3, [], 1), (54, .goto (-46), 3, [8], 0), (57, .iload_n 2, 1, [], 0), (58, .ireturn, 1, [], 0)]
theorem tk_X9_momentOf : tbok m_X9_momentOf tb_X9_momentOf = true := by decide +kernel
def tb_X9_tiltBy : List Row := [(0, .iload_n 2, 1, [], 0), (1, .invokestatic 157, 3, [], 0), (4, .aload_n 0, 1, [], 0), (5, .getfield 16, 3, [], 0), (8, .iload_n 1, 1, [], 0), (9, .iaload, 1, [], 0), (10, .if_icmp .gt 7, 3, [17], 0), (13, .iconst 0, 1, [], 0), (14, .goto 12, 3, [26], 0), (17, .iload_n 2, 1, [], 0), (18, .ifCond .ge 7, 3, [25], 0), (21, .iconst (-1), 1, [], -1), (22, .goto 4, 3, [26], 0), (25, .iconst 1, 1, [], 1), (26, .ireturn, 1, [], 0)]
theorem tk_X9_tiltBy : tbok m_X9_tiltBy tb_X9_tiltBy = true := by decide +kernel
def tb_X9_tiltOf : List Row := [(0, .aload_n 0, 1, [], 0), (1, .iload_n 1, 1, [], 0), (2, .aload_n 0, 1, [], 0), (3, .iload_n 1, 1, [], 0), (4, .invokevirtual 160, 3, [], 0), (7, .invokevirtual 163, 3, [], 0), (10, .ireturn, 1, [], 0)]
theorem tk_X9_tiltOf : tbok m_X9_tiltOf tb_X9_tiltOf = true := by decide +kernel
def tb_X9_sittingOn : List Row := [(0, .iconst 0, 1, [], 0), (1, .istore_n 2, 1, [], 0), (2, .iconst 0, 1, [], 0), (3, .istore_n 3, 1, [], 0), (4, .iload_n 3, 1, [], 0), (5, .aload_n 0, 1, [], 0), (6, .getfield 148, 3, [], 0), (9, .if_icmp .ge 29, 3, [38], 0), (12, .iload_n 2, 1, [], 0), (13, .aload_n 0, 1, [], 0), (14, .getfield 28, 3, [], 0), (17, .iconst 0, 1, [], 0), (18, .iload_n 3, 1, [], 0), (19, .iadd, 1, [], 0), (20, .iaload, 1, [], 0), (21, .iload_n 1, 1, [], 0), (22, .if_icmp .ne 7, 3, [29], 0), (25, .iconst 1, 1, [], 1), (26, .goto 4, 3, [30], 0), (29, .iconst 0, 1, [], 0), (30, .iadd, 1, [], 0), (31, .istore_n 2, 1, [], 0), (32, .iinc 3 1, 3, [], 1), (35, .goto (-31), 3, [4], 0), (38, .iload_n 2, 1, [], 0), (39, .ireturn, 1, [], 0)]
theorem tk_X9_sittingOn : tbok m_X9_sittingOn tb_X9_sittingOn = true := by decide +kernel
def tb_X9_plank : List Row := [(0, .aload_n 0, 1, [], 0), (1, .iconst 0, 1, [], 0), (2, .putfield 72, 3, [], 0), (5, .aload_n 0, 1, [], 0), (6, .iload_n 1, 1, [], 0), (7, .invokevirtual 166, 3, [], 0), (10, .ifCond .eq 12, 3, [22], 0), (13, .iload_n 2, 1, [], 0), (14, .iconst 0, 1, [], 0), (15, .iconst 4, 1, [], 4), (16, .invokestatic 75, 3, [], 0), (19, .ifCond .ne 6, 3, [25], 0), (22, .ldc 170, 2, [], 0), (24, .ireturn, 1, [], 0), (25, .iload_n 2, 1, [], 0), (26, .ifCond .ne 12, 3, [38], 0), (29, .aload_n 0, 1, [], 0), (30, .getfield 13, 3, [], 0), (33, .iload_n 1, 1, [], 0), (34, .iaload, 1, [], 0), (35, .goto 48, 3, [83], 0), (38, .iload_n 2, 1, [], 0), (39, .iconst 1, 1, [], 1), (40, .if_icmp .ne 12, 3, [52], 0), (43, .aload_n 0, 1, [], 0), (44, .getfield 16, 3, [], 0), (47, .iload_n 1, 1, [], 0), (48, .iaload, 1, [], 0), (49, .goto 34, 3, [83], 0), (52, .iload_n 2, 1, [], 0), (53, .iconst 2, 1, [], 2), (54, .if_icmp .ne 11, 3, [65], 0), (57, .aload_n 0, 1, [], 0), (58, .iload_n 1, 1, [], 0), (59, .invokevirtual 160, 3, [], 0), (62, .goto 21, 3, [83], 0), (65, .iload_n 2, 1, [], 0), (66, .iconst 3, 1, [], 3), (67, .if_icmp .ne 11, 3, [78], 0), (70, .aload_n 0, 1, [], 0), (71, .iload_n 1, 1, [], 0), (72, .invokevirtual 171, 3, [], 0), (75, .goto 8, 3, [83], 0), (78, .aload_n 0, 1, [], 0), (79, .iload_n 1, 1, [], 0), (80, .invokevirtual 174, 3, [], 0), (83, .ireturn, 1, [], 0)]
theorem tk_X9_plank : tbok m_X9_plank tb_X9_plank = true := by decide +kernel
def tb_X9_child : List Row := [(0, .aload_n 0, 1, [], 0), (1, .iconst 0, 1, [], 0), (2, .putfield 72, 3, [], 0), (5, .aload_n 0, 1, [], 0), (6, .iload_n 1, 1, [], 0), (7, .invokevirtual 177, 3, [], 0), (10, .ifCond .eq 12, 3, [22], 0), (13, .iload_n 2, 1, [], 0), (14, .iconst 0, 1, [], 0), (15, .iconst 4, 1, [], 4), (16, .invokestatic 75, 3, [], 0), (19, .ifCond .ne 6, 3, [25], 0), (22, .ldc 170, 2, [], 0), (24, .ireturn, 1, [], 0), (25, .iload_n 2, 1, [], 0), (26, .ifCond .ne 12, 3, [38], 0), (29, .aload_n 0, 1, [], 0), (30, .getfield 19, 3, [], 0), (33, .iload_n 1, 1, [], 0), (34, .iaload, 1, [], 0), (35, .goto 59, 3, [94], 0), (38, .iload_n 2, 1, [], 0), (39, .iconst 1, 1, [], 1), (40, .if_icmp .ne 12, 3, [52], 0), (43, .aload_n 0, 1, [], 0), (44, .getfield 22, 3, [], 0), (47, .iload_n 1, 1, [], 0), (48, .iaload, 1, [], 0), (49, .goto 45, 3, [94], 0), (52, .iload_n 2, 1, [], 0), (53, .iconst 2, 1, [], 2), (54, .if_icmp .ne 14, 3, [68], 0), (57, .aload_n 0, 1, [], 0), (58, .getfield 28, 3, [], 0), (61, .iconst 0, 1, [], 0), (62, .iload_n 1, 1, [], 0), (63, .iadd, 1, [], 0), (64, .iaload, 1, [], 0), (65, .goto 29, 3, [94], 0), (68, .iload_n 2, 1, [], 0), (69, .iconst 3, 1, [], 3), (70, .if_icmp .ne 15, 3, [85], 0), (73, .aload_n 0, 1, [], 0), (74, .getfield 28, 3, [], 0), (77, .bipush 8, 2, [], 8), (79, .iload_n 1, 1, [], 0), (80, .iadd, 1, [], 0), (81, .iaload, 1, [], 0), (82, .goto 12, 3, [94], 0), (85, .aload_n 0, 1, [], 0), (86, .getfield 28, 3, [], 0), (89, .bipush 16, 2, [], 16), (91, .iload_n 1, 1, [], 0), (92, .iadd, 1, [], 0), (93, .iaload, 1, [], 0), (94, .ireturn, 1, [], 0)]
theorem tk_X9_child : tbok m_X9_child tb_X9_child = true := by decide +kernel
def tb_X9_stone : List Row := [(0, .aload_n 0, 1, [], 0), (1, .iconst 0, 1, [], 0), (2, .putfield 72, 3, [], 0), (5, .aload_n 0, 1, [], 0), (6, .iload_n 1, 1, [], 0), (7, .invokevirtual 180, 3, [], 0), (10, .ifCond .eq 12, 3, [22], 0), (13, .iload_n 2, 1, [], 0), (14, .iconst 0, 1, [], 0), (15, .iconst 2, 1, [], 2), (16, .invokestatic 75, 3, [], 0), (19, .ifCond .ne 6, 3, [25], 0), (22, .ldc 170, 2, [], 0), (24, .ireturn, 1, [], 0), (25, .iload_n 2, 1, [], 0), (26, .ifCond .ne 12, 3, [38], 0), (29, .aload_n 0, 1, [], 0), (30, .getfield 25, 3, [], 0), (33, .iload_n 1, 1, [], 0), (34, .iaload, 1, [], 0), (35, .goto 29, 3, [64], 0), (38, .iload_n 2, 1, [], 0), (39, .iconst 1, 1, [], 1), (40, .if_icmp .ne 15, 3, [55], 0), (43, .aload_n 0, 1, [], 0), (44, .getfield 28, 3, [], 0), (47, .bipush 24, 2, [], 24), (49, .iload_n 1, 1, [], 0), (50, .iadd, 1, [], 0), (51, .iaload, 1, [], 0), (52, .goto 12, 3, [64], 0), (55, .aload_n 0, 1, [], 0), (56, .getfield 28, 3, [], 0), (59, .bipush 29, 2, [], 29), (61, .iload_n 1, 1, [], 0), (62, .iadd, 1, [], 0), (63, .iaload, 1, [], 0), (64, .ireturn, 1, [], 0)]
theorem tk_X9_stone : tbok m_X9_stone tb_X9_stone = true := by decide +kernel
def tb_X9_bumps : List Row := [(0, .aload_n 0, 1, [], 0), (1, .iload_n 1, 1, [], 0), (2, .invokevirtual 171, 3, [], 0), (5, .istore_n 3, 1, [], 0), (6, .iconst 0, 1, [], 0), (7, .istore 4, 2, [], 0), (9, .iconst 0, 1, [], 0), (10, .istore 5, 2, [], 0), (12, .iload 5, 2, [], 0), (14, .aload_n 0, 1, [], 0), (15, .getfield 148, 3, [], 0), (18, .if_icmp .ge 91, 3, [109], 0), (21, .iload_n 3, 1, [], 0), (22, .ifCond .eq 87, 3, [109], 0), (25, .iload_n 3, 1, [], 0), (26, .iload_n 2, 1, [], 0), (27, .if_icmp .eq 82, 3, [109], 0), (30, .aload_n 0, 1, [], 0), (31, .getfield 28, 3, [], 0), (34, .iconst 0, 1, [], 0), (35, .iload 5, 2, [], 0), (37, .iadd, 1, [], 0), (38, .iaload, 1, [], 0), (39, .iload_n 1, 1, [], 0), (40, .if_icmp .ne 22, 3, [62], 0), (43, .aload_n 0, 1, [], 0), (44, .getfield 28, 3, [], 0), (47, .bipush 8, 2, [], 8), (49, .iload 5, 2, [], 0), (51, .iadd, 1, [], 0), (52, .iaload, 1, [], 0), (53, .iload_n 3, 1, [], 0), (54, .imul, 1, [], 0), (55, .ifCond .le 7, 3, [62], 0), (58, .iconst 1, 1, [], 1), (59, .goto 4, 3, [63], 0), (62, .iconst 0, 1, [], 0), (63, .istore 6, 2, [], 0), (65, .aload_n 0, 1, [], 0), (66, .getfield 28, 3, [], 0), (69, .bipush 16, 2, [], 16), (71, .iload 5, 2, [], 0), (73, .iadd, 1, [], 0), (74, .dup2, 1, [], 0), (75, .iaload, 1, [], 0), (76, .iload 6, 2, [], 0), (78, .ifCond .eq 7, 3, [85], 0), (81, .iconst 1, 1, [], 1), (82, .goto 4, 3, [86], 0), (85, .iconst 0, 1, [], 0), (86, .iadd, 1, [], 0), (87, .iastore, 1, [], 0), (88, .iload 4, 2, [], 0), (90, .iload 6, 2, [], 0), (92, .ifCond .eq 7, 3, [99], 0), (95, .iconst 1, 1, [], 1), (96, .goto 4, 3, [100], 0), (99, .iconst 0, 1, [], 0), (100, .iadd, 1, [], 0), (101, .istore 4, 2, [], 0), (103, .iinc 5 1, 3, [], 1), (106, .goto (-94), 3, [12], 0), (109, .iload 4, 2, [], 0), (111, .ireturn, 1, [], 0)]
theorem tk_X9_bumps : tbok m_X9_bumps tb_X9_bumps = true := by decide +kernel
def tb_X9_goes : List Row := [(0, .aload_n 0, 1, [], 0), (1, .getfield 28, 3, [], 0), (4, .iload_n 1, 1, [], 0), (5, .iaload, 1, [], 0), (6, .istore_n 3, 1, [], 0), (7, .iload_n 3, 1, [], 0), (8, .bipush (-9), 2, [], -9), (10, .if_icmp .ne 5, 3, [15], 0), (13, .iconst 0, 1, [], 0), (14, .ireturn, 1, [], 0), (15, .aload_n 0, 1, [], 0), (16, .iload_n 3, 1, [], 0), (17, .invokevirtual 171, 3, [], 0), (20, .istore 4, 2, [], 0), (22, .aload_n 0, 1, [], 0), (23, .getfield 28, 3, [], 0), (26, .iload_n 1, 1, [], 0), (27, .bipush (-9), 2, [], -9), (29, .iastore, 1, [], 0), (30, .aload_n 0, 1, [], 0), (31, .getfield 28, 3, [], 0), (34, .iload_n 2, 1, [], 0), (35, .iconst 0, 1, [], 0), (36, .iastore, 1, [], 0), (37, .aload_n 0, 1, [], 0), (38, .iload_n 3, 1, [], 0), (39, .iload 4, 2, [], 0), (41, .invokevirtual 183, 3, [], 0), (44, .ireturn, 1, [], 0)]
theorem tk_X9_goes : tbok m_X9_goes tb_X9_goes = true := by decide +kernel
def tb_X9_comes : List Row := [(0, .aload_n 0, 1, [], 0), (1, .iload_n 3, 1, [], 0), (2, .invokevirtual 171, 3, [], 0), (5, .istore 5, 2, [], 0), (7, .aload_n 0, 1, [], 0), (8, .getfield 28, 3, [], 0), (11, .iload_n 1, 1, [], 0), (12, .iload_n 3, 1, [], 0), (13, .iastore, 1, [], 0), (14, .aload_n 0, 1, [], 0), (15, .getfield 28, 3, [], 0), (18, .iload_n 2, 1, [], 0), (19, .iload 4, 2, [], 0), (21, .iastore, 1, [], 0), (22, .aload_n 0, 1, [], 0), (23, .iload_n 3, 1, [], 0), (24, .iload 5, 2, [], 0), (26, .invokevirtual 183, 3, [], 0), (29, .ireturn, 1, [], 0)]
theorem tk_X9_comes : tbok m_X9_comes tb_X9_comes = true := by decide +kernel
def tb_X9_sits : List Row := [(0, .aload_n 0, 1, [], 0), (1, .iconst 0, 1, [], 0), (2, .putfield 72, 3, [], 0), (5, .aload_n 0, 1, [], 0), (6, .iload_n 1, 1, [], 0), (7, .invokevirtual 177, 3, [], 0), (10, .ifCond .eq 35, 3, [45], 0), (13, .aload_n 0, 1, [], 0), (14, .iload_n 2, 1, [], 0), (15, .invokevirtual 166, 3, [], 0), (18, .ifCond .eq 27, 3, [45], 0), (21, .iload_n 3, 1, [], 0), (22, .ifCond .eq 23, 3, [45], 0), (25, .iload_n 3, 1, [], 0), (26, .aload_n 0, 1, [], 0), (27, .getfield 13, 3, [], 0), (30, .iload_n 2, 1, [], 0), (31, .iaload, 1, [], 0), (32, .ineg, 1, [], 0), (33, .aload_n 0, 1, [], 0), (34, .getfield 13, 3, [], 0), (37, .iload_n 2, 1, [], 0), (38, .iaload, 1, [], 0), (39, .invokestatic 75, 3, [], 0), (42, .ifCond .ne 5, 3, [47], 0), (45, .iconst (-1), 1, [], -1), (46, .ireturn, 1, [], 0), (47, .iconst 0, 1, [], 0), (48, .istore 4, 2, [], 0), (50, .iload 4, 2, [], 0), (52, .aload_n 0, 1, [], 0), (53, .getfield 148, 3, [], 0), (56, .if_icmp .ge 39, 3, [95], 0), (59, .aload_n 0, 1, [], 0), (60, .getfield 28, 3, [], 0), (63, .iconst 0, 1, [], 0), (64, .iload 4, 2, [], 0), (66, .iadd, 1, [], 0), (67, .iaload, 1, [], 0), (68, .iload_n 2, 1, [], 0), (69, .if_icmp .ne 20, 3, [89], 0), (72, .aload_n 0, 1, [], 0), (73, .getfield 28, 3, [], 0), (76, .bipush 8, 2, [], 8), (78, .iload 4, 2, [], 0), (80, .iadd, 1, [], 0), (81, .iaload, 1, [], 0), (82, .iload_n 3, 1, [], 0), (83, .if_icmp .ne 6, 3, [89], 0), (86, .bipush (-2), 2, [], -2), (88, .ireturn, 1, [], 0), (89, .iinc 4 1, 3, [], 1), (92, .goto (-42), 3, [50], 0), (95, .aload_n 0, 1, [], 0), (96, .iconst 0, 1, [], 0), (97, .iload_n 1, 1, [], 0), (98, .iadd, 1, [], 0), (99, .bipush 8, 2, [], 8), (101, .iload_n 1, 1, [], 0), (102, .iadd, 1, [], 0), (103, .invokevirtual 186, 3, [], 0), (106, .istore 4, 2, [], 0), (108, .iload 4, 2, [], 0), (110, .aload_n 0, 1, [], 0), (111, .iconst 0, 1, [], 0), (112, .iload_n 1, 1, [], 0), (113, .iadd, 1, [], 0), (114, .bipush 8, 2, [], 8), (116, .iload_n 1, 1, [], 0), (117, .iadd, 1, [], 0), (118, .iload_n 2, 1, [], 0), (119, .iload_n 3, 1, [], 0), (120, .invokevirtual 189, 3, [], 0), (123, .iadd, 1, [], 0), (124, .ireturn, 1, [], 0)]
theorem tk_X9_sits : tbok m_X9_sits tb_X9_sits = true := by decide +kernel
def tb_X9_leaves : List Row := [(0, .aload_n 0, 1, [], 0), (1, .iconst 0, 1, [], 0), (2, .putfield 72, 3, [], 0), (5, .aload_n 0, 1, [], 0), (6, .iload_n 1, 1, [], 0), (7, .invokevirtual 177, 3, [], 0), (10, .ifCond .ne 7, 3, [17], 0), (13, .iconst (-1), 1, [], -1), (14, .goto 32, 3, [46], 0), (17, .aload_n 0, 1, [], 0), (18, .getfield 28, 3, [], 0), (21, .iconst 0, 1, [], 0), (22, .iload_n 1, 1, [], 0), (23, .iadd, 1, [], 0), (24, .iaload, 1, [], 0), (25, .bipush (-9), 2, [], -9), (27, .if_icmp .ne 8, 3, [35], 0), (30, .bipush (-2), 2, [], -2), (32, .goto 14, 3, [46], 0), (35, .aload_n 0, 1, [], 0), (36, .iconst 0, 1, [], 0), (37, .iload_n 1, 1, [], 0), (38, .iadd, 1, [], 0), (39, .bipush 8, 2, [], 8), (41, .iload_n 1, 1, [], 0), (42, .iadd, 1, [], 0), (43, .invokevirtual 186, 3, [], 0), (46, .ireturn, 1, [], 0)]
theorem tk_X9_leaves : tbok m_X9_leaves tb_X9_leaves = true := by decide +kernel
def tb_X9_lay : List Row := [(0, .aload_n 0, 1, [], 0), (1, .iconst 0, 1, [], 0), (2, .putfield 72, 3, [], 0), (5, .aload_n 0, 1, [], 0), (6, .iload_n 1, 1, [], 0), (7, .invokevirtual 180, 3, [], 0), (10, .ifCond .eq 35, 3, [45], 0), (13, .aload_n 0, 1, [], 0), (14, .iload_n 2, 1, [], 0), (15, .invokevirtual 166, 3, [], 0), (18, .ifCond .eq 27, 3, [45], 0), (21, .iload_n 3, 1, [], 0), (22, .ifCond .eq 23, 3, [45], 0), (25, .iload_n 3, 1, [], 0), (26, .aload_n 0, 1, [], 0), (27, .getfield 13, 3, [], 0), (30, .iload_n 2, 1, [], 0), (31, .iaload, 1, [], 0), (32, .ineg, 1, [], 0), (33, .aload_n 0, 1, [], 0), (34, .getfield 13, 3, [], 0), (37, .iload_n 2, 1, [], 0), (38, .iaload, 1, [], 0), (39, .invokestatic 75, 3, [], 0), (42, .ifCond .ne 5, 3, [47], 0), (45, .iconst (-1), 1, [], -1), (46, .ireturn, 1, [], 0), (47, .iconst 0, 1, [], 0), (48, .istore 4, 2, [], 0), (50, .iload 4, 2, [], 0), (52, .aload_n 0, 1, [], 0), (53, .getfield 151, 3, [], 0), (56, .if_icmp .ge 40, 3, [96], 0), (59, .aload_n 0, 1, [], 0), (60, .getfield 28, 3, [], 0), (63, .bipush 24, 2, [], 24), (65, .iload 4, 2, [], 0), (67, .iadd, 1, [], 0), (68, .iaload, 1, [], 0), (69, .iload_n 2, 1, [], 0), (70, .if_icmp .ne 20, 3, [90], 0), (73, .aload_n 0, 1, [], 0), (74, .getfield 28, 3, [], 0), (77, .bipush 29, 2, [], 29), (79, .iload 4, 2, [], 0), (81, .iadd, 1, [], 0), (82, .iaload, 1, [], 0), (83, .iload_n 3, 1, [], 0), (84, .if_icmp .ne 6, 3, [90], 0), (87, .bipush (-2), 2, [], -2), (89, .ireturn, 1, [], 0), (90, .iinc 4 1, 3, [], 1), (93, .goto (-43), 3, [50], 0), (96, .aload_n 0, 1, [], 0), (97, .bipush 24, 2, [], 24), (99, .iload_n 1, 1, [], 0), (100, .iadd, 1, [], 0), (101, .bipush 29, 2, [], 29), (103, .iload_n 1, 1, [], 0), (104, .iadd, 1, [], 0), (105, .invokevirtual 186, 3, [], 0), (108, .istore 4, 2, [], 0), (110, .iload 4, 2, [], 0), (112, .aload_n 0, 1, [], 0), (113, .bipush 24, 2, [], 24), (115, .iload_n 1, 1, [], 0), (116, .iadd, 1, [], 0), (117, .bipush 29, 2, [], 29), (119, .iload_n 1, 1, [], 0), (120, .iadd, 1, [], 0), (121, .iload_n 2, 1, [], 0), (122, .iload_n 3, 1, [], 0), (123, .invokevirtual 189, 3, [], 0), (126, .iadd, 1, [], 0), (127, .ireturn, 1, [], 0)]
theorem tk_X9_lay : tbok m_X9_lay tb_X9_lay = true := by decide +kernel
def tb_X9_take : List Row := [(0, .aload_n 0, 1, [], 0), (1, .iconst 0, 1, [], 0), (2, .putfield 72, 3, [], 0), (5, .aload_n 0, 1, [], 0), (6, .iload_n 1, 1, [], 0), (7, .invokevirtual 180, 3, [], 0), (10, .ifCond .ne 7, 3, [17], 0), (13, .iconst (-1), 1, [], -1), (14, .goto 34, 3, [48], 0), (17, .aload_n 0, 1, [], 0), (18, .getfield 28, 3, [], 0), (21, .bipush 24, 2, [], 24), (23, .iload_n 1, 1, [], 0), (24, .iadd, 1, [], 0), (25, .iaload, 1, [], 0), (26, .bipush (-9), 2, [], -9), (28, .if_icmp .ne 8, 3, [36], 0), (31, .bipush (-2), 2, [], -2), (33, .goto 15, 3, [48], 0), (36, .aload_n 0, 1, [], 0), (37, .bipush 24, 2, [], 24), (39, .iload_n 1, 1, [], 0), (40, .iadd, 1, [], 0), (41, .bipush 29, 2, [], 29), (43, .iload_n 1, 1, [], 0), (44, .iadd, 1, [], 0), (45, .invokevirtual 186, 3, [], 0), (48, .ireturn, 1, [], 0)]
theorem tk_X9_take : tbok m_X9_take tb_X9_take = true := by decide +kernel
def tb_X9_stepOf : List Row := [(0, .iload_n 2, 1, [], 0), (1, .aload_n 0, 1, [], 0), (2, .getfield 13, 3, [], 0), (5, .iload_n 1, 1, [], 0), (6, .iaload, 1, [], 0), (7, .if_icmp .ge 14, 3, [21], 0), (10, .iload_n 2, 1, [], 0), (11, .aload_n 0, 1, [], 0), (12, .getfield 13, 3, [], 0), (15, .iload_n 1, 1, [], 0), (16, .iaload, 1, [], 0), (17, .isub, 1, [], 0), (18, .goto 13, 3, [31], 0), (21, .iload_n 2, 1, [], 0), (22, .aload_n 0, 1, [], 0), (23, .getfield 13, 3, [], 0), (26, .iload_n 1, 1, [], 0), (27, .iaload, 1, [], 0), (28, .isub, 1, [], 0), (29, .iconst 1, 1, [], 1), (30, .iadd, 1, [], 0), (31, .ireturn, 1, [], 0)]
theorem tk_X9_stepOf : tbok m_X9_stepOf tb_X9_stepOf = true := by decide +kernel
def tb_X9_seats : List Row := [(0, .aload_n 0, 1, [], 0), (1, .iconst 0, 1, [], 0), (2, .putfield 193, 3, [], 0), (5, .iconst 0, 1, [], 0), (6, .istore_n 2, 1, [], 0), (7, .iload_n 2, 1, [], 0), (8, .aload_n 0, 1, [], 0), (9, .getfield 148, 3, [], 0), (12, .if_icmp .ge 38, 3, [50], 0), (15, .iload_n 1, 1, [], 0), (16, .iload_n 2, 1, [], 0), (17, .ishr, 1, [], 0), (18, .iconst 1, 1, [], 1), (19, .iand, 1, [], 0), (20, .iconst 1, 1, [], 1), (21, .if_icmp .ne 23, 3, [44], 0), (24, .aload_n 0, 1, [], 0), (25, .getfield 38, 3, [], 0), (28, .aload_n 0, 1, [], 0), (29, .getfield 193, 3, [], 0), (32, .iload_n 2, 1, [], 0), (33, .iastore, 1, [], 0), (34, .aload_n 0, 1, [], 0), (35, .dup, 1, [], 0), (36, .getfield 193, 3, [], 0), (39, .iconst 1, 1, [], 1), (40, .iadd, 1, [], 0), (41, .putfield 193, 3, [], 0), (44, .iinc 2 1, 3, [], 1), (47, .goto (-40), 3, [7], 0), (50, .return_, 1, [], 0)]
theorem tk_X9_seats : tbok m_X9_seats tb_X9_seats = true := by decide +kernel
def tb_X9_freeSeat : List Row := [(0, .aload_n 0, 1, [], 0), (1, .getfield 41, 3, [], 0), (4, .iload_n 2, 1, [], 0), (5, .iaload, 1, [], 0), (6, .iconst 1, 1, [], 1), (7, .iadd, 1, [], 0), (8, .istore_n 3, 1, [], 0), (9, .iconst 0, 1, [], 0), (10, .istore 4, 2, [], 0), (12, .iload_n 3, 1, [], 0), (13, .iconst 2, 1, [], 2), (14, .aload_n 0, 1, [], 0), (15, .getfield 13, 3, [], 0), (18, .iload_n 1, 1, [], 0), (19, .iaload, 1, [], 0), (20, .imul, 1, [], 0), (21, .if_icmp .ge 65, 3, [86], 0), (24, .iload 4, 2, [], 0), (26, .ifCond .ne 60, 3, [86], 0), (29, .iconst 1, 1, [], 1), (30, .istore 4, 2, [], 0), (32, .iconst 0, 1, [], 0), (33, .istore 5, 2, [], 0), (35, .iload 5, 2, [], 0), (37, .iload_n 2, 1, [], 0), (38, .if_icmp .ge 32, 3, [70], 0), (41, .iload 4, 2, [], 0), (43, .ifCond .eq 18, 3, [61], 0), (46, .aload_n 0, 1, [], 0), (47, .getfield 41, 3, [], 0), (50, .iload 5, 2, [], 0), (52, .iaload, 1, [], 0), (53, .iload_n 3, 1, [], 0), (54, .if_icmp .eq 7, 3, [61], 0), (57, .iconst 1, 1, [], 1), (58, .goto 4, 3, [62], 0), (61, .iconst 0, 1, [], 0), (62, .istore 4, 2, [], 0), (64, .iinc 5 1, 3, [], 1), (67, .goto (-32), 3, [35], 0), (70, .iload_n 3, 1, [], 0), (71, .iload 4, 2, [], 0), (73, .ifCond .eq 7, 3, [80], 0), (76, .iconst 0, 1, [], 0), (77, .goto 4, 3, [81], 0), (80, .iconst 1, 1, [], 1), (81, .iadd, 1, [], 0), (82, .istore_n 3, 1, [], 0), (83, .goto (-71), 3, [12], 0), (86, .iload_n 3, 1, [], 0), (87, .ireturn, 1, [], 0)]
theorem tk_X9_freeSeat : tbok m_X9_freeSeat tb_X9_freeSeat = true := by decide +kernel
def tb_X9_waysOf : List Row := [(0, .aload_n 0, 1, [], 0), (1, .iload_n 2, 1, [], 0), (2, .invokevirtual 196, 3, [], 0), (5, .aload_n 0, 1, [], 0), (6, .iload_n 1, 1, [], 0), (7, .invokevirtual 154, 3, [], 0), (10, .istore 4, 2, [], 0), (12, .aload_n 0, 1, [], 0), (13, .getfield 193, 3, [], 0), (16, .ifCond .ne 19, 3, [35], 0), (19, .aload_n 0, 1, [], 0), (20, .iload_n 1, 1, [], 0), (21, .iload 4, 2, [], 0), (23, .invokevirtual 163, 3, [], 0), (26, .ifCond .ne 7, 3, [33], 0), (29, .iconst 1, 1, [], 1), (30, .goto 4, 3, [34], 0), (33, .iconst 0, 1, [], 0), (34, .ireturn, 1, [], 0), (35, .iconst 0, 1, [], 0), (36, .istore 5, 2, [], 0), (38, .iconst 0, 1, [], 0), (39, .istore 6, 2, [], 0), (41, .aload_n 0, 1, [], 0), (42, .getfield 41, 3, [], 0), (45, .iconst 0, 1, [], 0), (46, .iconst (-1), 1, [], -1), (47, .iastore, 1, [], 0), (48, .iload 6, 2, [], 0), (50, .ifCond .lt 182, 3, [232], 0), (53, .iload 5, 2, [], 0), (55, .iload_n 3, 1, [], 0), (56, .if_icmp .ge 176, 3, [232], 0), (59, .aload_n 0, 1, [], 0), (60, .getfield 41, 3, [], 0), (63, .iload 6, 2, [], 0), (65, .aload_n 0, 1, [], 0), (66, .iload_n 1, 1, [], 0), (67, .iload 6, 2, [], 0), (69, .invokevirtual 199, 3, [], 0), (72, .iastore, 1, [], 0), (73, .aload_n 0, 1, [], 0), (74, .getfield 41, 3, [], 0), (77, .iload 6, 2, [], 0), (79, .iaload, 1, [], 0), (80, .iconst 2, 1, [], 2), (81, .aload_n 0, 1, [], 0), (82, .getfield 13, 3, [], 0), (85, .iload_n 1, 1, [], 0), (86, .iaload, 1, [], 0), (87, .imul, 1, [], 0), (88, .if_icmp .lt 9, 3, [97], 0), (91, .iinc 6 (-1), 3, [], -1), (94, .goto (-46), 3, [48], 0), (97, .iload 6, 2, [], 0), (99, .aload_n 0, 1, [], 0), (100, .getfield 193, 3, [], 0), (103, .iconst 1, 1, [], 1), (104, .isub, 1, [], 0), (105, .if_icmp .ge 17, 3, [122], 0), (108, .iinc 6 1, 3, [], 1), (111, .aload_n 0, 1, [], 0), (112, .getfield 41, 3, [], 0), (115, .iload 6, 2, [], 0), (117, .iconst (-1), 1, [], -1), (118, .iastore, 1, [], 0), (119, .goto (-71), 3, [48], 0), (122, .iload 4, 2, [], 0), (124, .istore 7, 2, [], 0), (126, .iconst 0, 1, [], 0), (127, .istore 8, 2, [], 0), (129, .iload 8, 2, [], 0), (131, .aload_n 0, 1, [], 0), (132, .getfield 193, 3, [], 0), (135, .if_icmp .ge 39, 3, [174], 0), (138, .iload 7, 2, [], 0), (140, .aload_n 0, 1, [], 0), (141, .getfield 19, 3, [], 0), (144, .aload_n 0, 1, [], 0), (145, .getfield 38, 3, [], 0), (148, .iload 8, 2, [], 0), (150, .iaload, 1, [], 0), (151, .iaload, 1, [], 0), (152, .aload_n 0, 1, [], 0), (153, .iload_n 1, 1, [], 0), (154, .aload_n 0, 1, [], 0), (155, .getfield 41, 3, [], 0), (158, .iload 8, 2, [], 0), (160, .iaload, 1, [], 0), (161, .invokevirtual 202, 3, [], 0), (164, .imul, 1, [], 0), (165, .iadd, 1, [], 0), (166, .istore 7, 2, [], 0), (168, .iinc 8 1, 3, [], 1), (171, .goto (-42), 3, [129], 0), (174, .aload_n 0, 1, [], 0), (175, .iload_n 1, 1, [], 0), (176, .iload 7, 2, [], 0), (178, .invokevirtual 163, 3, [], 0), (181, .ifCond .ne 48, 3, [229], 0), (184, .iconst 0, 1, [], 0), (185, .istore 8, 2, [], 0), (187, .iload 8, 2, [], 0), (189, .aload_n 0, 1, [], 0), (190, .getfield 193, 3, [], 0), (193, .if_icmp .ge 33, 3, [226], 0), (196, .iload 5, 2, [], 0), (198, .ifCond .ne 28, 3, [226], 0), (201, .aload_n 0, 1, [], 0), (202, .getfield 44, 3, [], 0), (205, .iload 8, 2, [], 0), (207, .aload_n 0, 1, [], 0), (208, .iload_n 1, 1, [], 0), (209, .aload_n 0, 1, [], 0), (210, .getfield 41, 3, [], 0), (213, .iload 8, 2, [], 0), (215, .iaload, 1, [], 0), (216, .invokevirtual 202, 3, [], 0), (219, .iastore, 1, [], 0), (220, .iinc 8 1, 3, [], 1), (223, .goto (-36), 3, [187], 0), (226, .iinc 5 1, 3, [], 1), (229, .goto (-181), 3, [48], 0), (232, .iload 5, 2, [], 0), (234, .ireturn, 1, [], 0)]
theorem tk_X9_waysOf : tbok m_X9_waysOf tb_X9_waysOf = true := by decide +kernel
def tb_X9_all : List Row := [(0, .iconst 1, 1, [], 1), (1, .aload_n 0, 1, [], 0), (2, .getfield 148, 3, [], 0), (5, .ishl, 1, [], 0), (6, .iconst 1, 1, [], 1), (7, .isub, 1, [], 0), (8, .ireturn, 1, [], 0)]
theorem tk_X9_all : tbok m_X9_all tb_X9_all = true := by decide +kernel
def tb_X9_ways : List Row := [(0, .aload_n 0, 1, [], 0), (1, .iconst 0, 1, [], 0), (2, .putfield 72, 3, [], 0), (5, .aload_n 0, 1, [], 0), (6, .iload_n 1, 1, [], 0), (7, .invokevirtual 166, 3, [], 0), (10, .ifCond .eq 16, 3, [26], 0), (13, .iload_n 3, 1, [], 0), (14, .iconst (-1), 1, [], -1), (15, .if_icmp .eq 14, 3, [29], 0), (18, .aload_n 0, 1, [], 0), (19, .iload_n 3, 1, [], 0), (20, .invokevirtual 177, 3, [], 0), (23, .ifCond .ne 6, 3, [29], 0), (26, .ldc 170, 2, [], 0), (28, .ireturn, 1, [], 0), (29, .aload_n 0, 1, [], 0), (30, .iload_n 1, 1, [], 0), (31, .iload_n 2, 1, [], 0), (32, .aload_n 0, 1, [], 0), (33, .invokevirtual 205, 3, [], 0), (36, .iand, 1, [], 0), (37, .iload_n 3, 1, [], 0), (38, .iconst (-1), 1, [], -1), (39, .if_icmp .ne 8, 3, [47], 0), (42, .ldc 209, 2, [], 0), (44, .goto 4, 3, [48], 0), (47, .iconst 1, 1, [], 1), (48, .invokevirtual 210, 3, [], 0), (51, .istore 4, 2, [], 0), (53, .iload_n 3, 1, [], 0), (54, .iconst (-1), 1, [], -1), (55, .if_icmp .ne 6, 3, [61], 0), (58, .iload 4, 2, [], 0), (60, .ireturn, 1, [], 0), (61, .iconst 0, 1, [], 0), (62, .istore 5, 2, [], 0), (64, .iconst 0, 1, [], 0), (65, .istore 6, 2, [], 0), (67, .iload 6, 2, [], 0), (69, .aload_n 0, 1, [], 0), (70, .getfield 193, 3, [], 0), (73, .if_icmp .ge 39, 3, [112], 0), (76, .iload 4, 2, [], 0), (78, .ifCond .le 34, 3, [112], 0), (81, .aload_n 0, 1, [], 0), (82, .getfield 38, 3, [], 0), (85, .iload 6, 2, [], 0), (87, .iaload, 1, [], 0), (88, .iload_n 3, 1, [], 0), (89, .if_icmp .ne 13, 3, [102], 0), (92, .aload_n 0, 1, [], 0), (93, .getfield 44, 3, [], 0), (96, .iload 6, 2, [], 0), (98, .iaload, 1, [], 0), (99, .goto 5, 3, [104], 0), (102, .iload 5, 2, [], 0), (104, .istore 5, 2, [], 0), (106, .iinc 6 1, 3, [], 1), (109, .goto (-42), 3, [67], 0), (112, .iload 4, 2, [], 0), (114, .ifCond .ne 8, 3, [122], 0), (117, .bipush (-9), 2, [], -9), (119, .goto 5, 3, [124], 0), (122, .iload 5, 2, [], 0), (124, .ireturn, 1, [], 0)]
theorem tk_X9_ways : tbok m_X9_ways tb_X9_ways = true := by decide +kernel
end
section
def tb_X9_ones : List Row := [(0, .iconst 0, 1, [], 0), (1, .istore_n 1, 1, [], 0), (2, .iconst 0, 1, [], 0), (3, .istore_n 2, 1, [], 0), (4, .iload_n 2, 1, [], 0), (5, .bipush 8, 2, [], 8), (7, .if_icmp .ge 17, 3, [24], 0), (10, .iload_n 1, 1, [], 0), (11, .iload_n 0, 1, [], 0), (12, .iload_n 2, 1, [], 0), (13, .ishr, 1, [], 0), (14, .iconst 1, 1, [], 1), (15, .iand, 1, [], 0), (16, .iadd, 1, [], 0), (17, .istore_n 1, 1, [], 0), (18, .iinc 2 1, 3, [], 1), (21, .goto (-17), 3, [4], 0), (24, .iload_n 1, 1, [], 0), (25, .ireturn, 1, [], 0)]
theorem tk_X9_ones : tbok m_X9_ones tb_X9_ones = true := by decide +kernel
def tb_X9_most : List Row := [(0, .aload_n 0, 1, [], 0), (1, .iconst 0, 1, [], 0), (2, .putfield 72, 3, [], 0), (5, .aload_n 0, 1, [], 0), (6, .iload_n 1, 1, [], 0), (7, .invokevirtual 166, 3, [], 0), (10, .ifCond .eq 12, 3, [22], 0), (13, .iload_n 2, 1, [], 0), (14, .iconst 0, 1, [], 0), (15, .iconst 1, 1, [], 1), (16, .invokestatic 75, 3, [], 0), (19, .ifCond .ne 5, 3, [24], 0), (22, .iconst (-1), 1, [], -1), (23, .ireturn, 1, [], 0), (24, .bipush (-9), 2, [], -9), (26, .istore_n 3, 1, [], 0), (27, .iconst 0, 1, [], 0), (28, .istore 4, 2, [], 0), (30, .iload 4, 2, [], 0), (32, .aload_n 0, 1, [], 0), (33, .invokevirtual 205, 3, [], 0), (36, .if_icmp .gt 73, 3, [109], 0), (39, .iload_n 3, 1, [], 0), (40, .bipush (-9), 2, [], -9), (42, .if_icmp .eq 15, 3, [57], 0), (45, .iload 4, 2, [], 0), (47, .invokestatic 214, 3, [], 0), (50, .iload_n 3, 1, [], 0), (51, .invokestatic 214, 3, [], 0), (54, .if_icmp .le 7, 3, [61], 0), (57, .iconst 1, 1, [], 1), (58, .goto 4, 3, [62], 0), (61, .iconst 0, 1, [], 0), (62, .istore 5, 2, [], 0), (64, .iload 5, 2, [], 0), (66, .ifCond .eq 35, 3, [101], 0), (69, .iload 4, 2, [], 0), (71, .invokestatic 214, 3, [], 0), (74, .iconst 2, 1, [], 2), (75, .aload_n 0, 1, [], 0), (76, .getfield 13, 3, [], 0), (79, .iload_n 1, 1, [], 0), (80, .iaload, 1, [], 0), (81, .imul, 1, [], 0), (82, .if_icmp .gt 19, 3, [101], 0), (85, .aload_n 0, 1, [], 0), (86, .iload_n 1, 1, [], 0), (87, .iload 4, 2, [], 0), (89, .iconst 1, 1, [], 1), (90, .invokevirtual 210, 3, [], 0), (93, .ifCond .le 8, 3, [101], 0), (96, .iload 4, 2, [], 0), (98, .goto 4, 3, [102], 0), (101, .iload_n 3, 1, [], 0), (102, .istore_n 3, 1, [], 0), (103, .iinc 4 1, 3, [], 1), (106, .goto (-76), 3, [30], 0), (109, .iload_n 3, 1, [], 0), (110, .bipush (-9), 2, [], -9), (112, .if_icmp .eq 8, 3, [120], 0), (115, .iload_n 2, 1, [], 0), (116, .iconst 1, 1, [], 1), (117, .if_icmp .ne 7, 3, [124], 0), (120, .iload_n 3, 1, [], 0), (121, .goto 7, 3, [128], 0), (124, .iload_n 3, 1, [], 0), (125, .invokestatic 214, 3, [], 0), (128, .ireturn, 1, [], 0)]
theorem tk_X9_most : tbok m_X9_most tb_X9_most = true := by decide +kernel
def tb_X9_moves : List Row := [(0, .aload_n 0, 1, [], 0), (1, .iconst 0, 1, [], 0), (2, .putfield 72, 3, [], 0), (5, .aload_n 0, 1, [], 0), (6, .iload_n 1, 1, [], 0), (7, .invokevirtual 166, 3, [], 0), (10, .ifCond .ne 5, 3, [15], 0), (13, .iconst (-1), 1, [], -1), (14, .ireturn, 1, [], 0), (15, .iconst 0, 1, [], 0), (16, .istore_n 2, 1, [], 0), (17, .iconst 0, 1, [], 0), (18, .istore_n 3, 1, [], 0), (19, .iload_n 3, 1, [], 0), (20, .aload_n 0, 1, [], 0), (21, .getfield 148, 3, [], 0), (24, .if_icmp .ge 31, 3, [55], 0), (27, .iload_n 2, 1, [], 0), (28, .aload_n 0, 1, [], 0), (29, .getfield 28, 3, [], 0), (32, .iconst 0, 1, [], 0), (33, .iload_n 3, 1, [], 0), (34, .iadd, 1, [], 0), (35, .iaload, 1, [], 0), (36, .iload_n 1, 1, [], 0), (37, .if_icmp .ne 9, 3, [46], 0), (40, .iconst 1, 1, [], 1), (41, .iload_n 3, 1, [], 0), (42, .ishl, 1, [], 0), (43, .goto 4, 3, [47], 0), (46, .iconst 0, 1, [], 0), (47, .ior, 1, [], 0), (48, .istore_n 2, 1, [], 0), (49, .iinc 3 1, 3, [], 1), (52, .goto (-33), 3, [19], 0), (55, .aload_n 0, 1, [], 0), (56, .iload_n 2, 1, [], 0), (57, .invokevirtual 196, 3, [], 0), (60, .aload_n 0, 1, [], 0), (61, .iload_n 1, 1, [], 0), (62, .invokevirtual 154, 3, [], 0), (65, .istore_n 3, 1, [], 0), (66, .aload_n 0, 1, [], 0), (67, .iload_n 1, 1, [], 0), (68, .iload_n 3, 1, [], 0), (69, .invokevirtual 163, 3, [], 0), (72, .ifCond .ne 14, 3, [86], 0), (75, .aload_n 0, 1, [], 0), (76, .getfield 193, 3, [], 0), (79, .ifCond .ne 7, 3, [86], 0), (82, .iconst 0, 1, [], 0), (83, .goto 5, 3, [88], 0), (86, .bipush (-9), 2, [], -9), (88, .istore 4, 2, [], 0), (90, .aload_n 0, 1, [], 0), (91, .getfield 193, 3, [], 0), (94, .ifCond .ne 7, 3, [101], 0), (97, .iconst (-1), 1, [], -1), (98, .goto 4, 3, [102], 0), (101, .iconst 0, 1, [], 0), (102, .istore 5, 2, [], 0), (104, .aload_n 0, 1, [], 0), (105, .getfield 41, 3, [], 0), (108, .iconst 0, 1, [], 0), (109, .iconst (-1), 1, [], -1), (110, .iastore, 1, [], 0), (111, .iload 5, 2, [], 0), (113, .ifCond .lt 190, 3, [303], 0), (116, .aload_n 0, 1, [], 0), (117, .getfield 41, 3, [], 0), (120, .iload 5, 2, [], 0), (122, .aload_n 0, 1, [], 0), (123, .iload_n 1, 1, [], 0), (124, .iload 5, 2, [], 0), (126, .invokevirtual 199, 3, [], 0), (129, .iastore, 1, [], 0), (130, .aload_n 0, 1, [], 0), (131, .getfield 41, 3, [], 0), (134, .iload 5, 2, [], 0), (136, .iaload, 1, [], 0), (137, .iconst 2, 1, [], 2), (138, .aload_n 0, 1, [], 0), (139, .getfield 13, 3, [], 0), (142, .iload_n 1, 1, [], 0), (143, .iaload, 1, [], 0), (144, .imul, 1, [], 0), (145, .if_icmp .lt 9, 3, [154], 0), (148, .iinc 5 (-1), 3, [], -1), (151, .goto (-40), 3, [111], 0), (154, .iload 5, 2, [], 0), (156, .aload_n 0, 1, [], 0), (157, .getfield 193, 3, [], 0), (160, .iconst 1, 1, [], 1), (161, .isub, 1, [], 0), (162, .if_icmp .ge 17, 3, [179], 0), (165, .iinc 5 1, 3, [], 1), (168, .aload_n 0, 1, [], 0), (169, .getfield 41, 3, [], 0), (172, .iload 5, 2, [], 0), (174, .iconst (-1), 1, [], -1), (175, .iastore, 1, [], 0), (176, .goto (-65), 3, [111], 0), (179, .iload_n 3, 1, [], 0), (180, .istore 6, 2, [], 0), (182, .iconst 0, 1, [], 0), (183, .istore 7, 2, [], 0), (185, .iconst 0, 1, [], 0), (186, .istore 8, 2, [], 0), (188, .iload 8, 2, [], 0), (190, .aload_n 0, 1, [], 0), (191, .getfield 193, 3, [], 0), (194, .if_icmp .ge 73, 3, [267], 0), (197, .aload_n 0, 1, [], 0), (198, .iload_n 1, 1, [], 0), (199, .aload_n 0, 1, [], 0), (200, .getfield 41, 3, [], 0), (203, .iload 8, 2, [], 0), (205, .iaload, 1, [], 0), (206, .invokevirtual 202, 3, [], 0), (209, .istore 9, 2, [], 0), (211, .iload 6, 2, [], 0), (213, .aload_n 0, 1, [], 0), (214, .getfield 19, 3, [], 0), (217, .aload_n 0, 1, [], 0), (218, .getfield 38, 3, [], 0), (221, .iload 8, 2, [], 0), (223, .iaload, 1, [], 0), (224, .iaload, 1, [], 0), (225, .iload 9, 2, [], 0), (227, .imul, 1, [], 0), (228, .iadd, 1, [], 0), (229, .istore 6, 2, [], 0), (231, .iload 7, 2, [], 0), (233, .iload 9, 2, [], 0), (235, .aload_n 0, 1, [], 0), (236, .getfield 28, 3, [], 0), (239, .bipush 8, 2, [], 8), (241, .aload_n 0, 1, [], 0), (242, .getfield 38, 3, [], 0), (245, .iload 8, 2, [], 0), (247, .iaload, 1, [], 0), (248, .iadd, 1, [], 0), (249, .iaload, 1, [], 0), (250, .if_icmp .ne 7, 3, [257], 0), (253, .iconst 0, 1, [], 0), (254, .goto 4, 3, [258], 0), (257, .iconst 1, 1, [], 1), (258, .iadd, 1, [], 0), (259, .istore 7, 2, [], 0), (261, .iinc 8 1, 3, [], 1), (264, .goto (-76), 3, [188], 0), (267, .aload_n 0, 1, [], 0), (268, .iload_n 1, 1, [], 0), (269, .iload 6, 2, [], 0), (271, .invokevirtual 163, 3, [], 0), (274, .ifCond .ne 22, 3, [296], 0), (277, .iload 4, 2, [], 0), (279, .bipush (-9), 2, [], -9), (281, .if_icmp .eq 10, 3, [291], 0), (284, .iload 7, 2, [], 0), (286, .iload 4, 2, [], 0), (288, .if_icmp .ge 8, 3, [296], 0), (291, .iload 7, 2, [], 0), (293, .goto 5, 3, [298], 0), (296, .iload 4, 2, [], 0), (298, .istore 4, 2, [], 0), (300, .goto (-189), 3, [111], 0), (303, .iload 4, 2, [], 0), (305, .ireturn, 1, [], 0)]
theorem tk_X9_moves : tbok m_X9_moves tb_X9_moves = true := by decide +kernel
def tb_X9_hasStone : List Row := [(0, .iconst 0, 1, [], 0), (1, .istore_n 3, 1, [], 0), (2, .iconst 0, 1, [], 0), (3, .istore 4, 2, [], 0), (5, .iload 4, 2, [], 0), (7, .aload_n 0, 1, [], 0), (8, .getfield 151, 3, [], 0), (11, .if_icmp .ge 47, 3, [58], 0), (14, .iload_n 3, 1, [], 0), (15, .ifCond .ne 31, 3, [46], 0), (18, .aload_n 0, 1, [], 0), (19, .getfield 28, 3, [], 0), (22, .bipush 24, 2, [], 24), (24, .iload 4, 2, [], 0), (26, .iadd, 1, [], 0), (27, .iaload, 1, [], 0), (28, .iload_n 1, 1, [], 0), (29, .if_icmp .ne 21, 3, [50], 0), (32, .aload_n 0, 1, [], 0), (33, .getfield 28, 3, [], 0), (36, .bipush 29, 2, [], 29), (38, .iload 4, 2, [], 0), (40, .iadd, 1, [], 0), (41, .iaload, 1, [], 0), (42, .iload_n 2, 1, [], 0), (43, .if_icmp .ne 7, 3, [50], 0), (46, .iconst 1, 1, [], 1), (47, .goto 4, 3, [51], 0), (50, .iconst 0, 1, [], 0), (51, .istore_n 3, 1, [], 0), (52, .iinc 4 1, 3, [], 1), (55, .goto (-50), 3, [5], 0), (58, .iload_n 3, 1, [], 0), (59, .ireturn, 1, [], 0)]
theorem tk_X9_hasStone : tbok m_X9_hasStone tb_X9_hasStone = true := by decide +kernel
def tb_X9_levels : List Row := [(0, .iconst 0, 1, [], 0), (1, .istore_n 3, 1, [], 0), (2, .iconst 0, 1, [], 0), (3, .istore 4, 2, [], 0), (5, .iload 4, 2, [], 0), (7, .aload_n 0, 1, [], 0), (8, .getfield 151, 3, [], 0), (11, .if_icmp .ge 30, 3, [41], 0), (14, .iload_n 2, 1, [], 0), (15, .iload 4, 2, [], 0), (17, .ishr, 1, [], 0), (18, .iconst 1, 1, [], 1), (19, .iand, 1, [], 0), (20, .iconst 1, 1, [], 1), (21, .if_icmp .ne 14, 3, [35], 0), (24, .aload_n 0, 1, [], 0), (25, .getfield 38, 3, [], 0), (28, .iload_n 3, 1, [], 0), (29, .iload 4, 2, [], 0), (31, .iastore, 1, [], 0), (32, .iinc 3 1, 3, [], 1), (35, .iinc 4 1, 3, [], 1), (38, .goto (-33), 3, [5], 0), (41, .aload_n 0, 1, [], 0), (42, .iload_n 1, 1, [], 0), (43, .invokevirtual 160, 3, [], 0), (46, .istore 4, 2, [], 0), (48, .iload_n 3, 1, [], 0), (49, .ifCond .ne 19, 3, [68], 0), (52, .aload_n 0, 1, [], 0), (53, .iload_n 1, 1, [], 0), (54, .iload 4, 2, [], 0), (56, .invokevirtual 163, 3, [], 0), (59, .ifCond .ne 7, 3, [66], 0), (62, .iconst 1, 1, [], 1), (63, .goto 4, 3, [67], 0), (66, .iconst 0, 1, [], 0), (67, .ireturn, 1, [], 0), (68, .iconst 0, 1, [], 0), (69, .istore 5, 2, [], 0), (71, .aload_n 0, 1, [], 0), (72, .getfield 41, 3, [], 0), (75, .iconst 0, 1, [], 0), (76, .iconst (-1), 1, [], -1), (77, .iastore, 1, [], 0), (78, .iload 5, 2, [], 0), (80, .ifCond .lt 147, 3, [227], 0), (83, .aload_n 0, 1, [], 0), (84, .getfield 41, 3, [], 0), (87, .iload 5, 2, [], 0), (89, .aload_n 0, 1, [], 0), (90, .iload_n 1, 1, [], 0), (91, .iload 5, 2, [], 0), (93, .invokevirtual 199, 3, [], 0), (96, .iastore, 1, [], 0), (97, .aload_n 0, 1, [], 0), (98, .getfield 41, 3, [], 0), (101, .iload 5, 2, [], 0), (103, .iaload, 1, [], 0), (104, .iconst 2, 1, [], 2), (105, .aload_n 0, 1, [], 0), (106, .getfield 13, 3, [], 0), (109, .iload_n 1, 1, [], 0), (110, .iaload, 1, [], 0), (111, .imul, 1, [], 0), (112, .if_icmp .lt 9, 3, [121], 0), (115, .iinc 5 (-1), 3, [], -1), (118, .goto (-40), 3, [78], 0), (121, .aload_n 0, 1, [], 0), (122, .iload_n 1, 1, [], 0), (123, .aload_n 0, 1, [], 0), (124, .iload_n 1, 1, [], 0), (125, .aload_n 0, 1, [], 0), (126, .getfield 41, 3, [], 0), (129, .iload 5, 2, [], 0), (131, .iaload, 1, [], 0), (132, .invokevirtual 202, 3, [], 0), (135, .invokevirtual 217, 3, [], 0), (138, .ifCond .ne (-60), 3, [78], 0), (141, .iload 5, 2, [], 0), (143, .iload_n 3, 1, [], 0), (144, .iconst 1, 1, [], 1), (145, .isub, 1, [], 0), (146, .if_icmp .ge 17, 3, [163], 0), (149, .iinc 5 1, 3, [], 1), (152, .aload_n 0, 1, [], 0), (153, .getfield 41, 3, [], 0), (156, .iload 5, 2, [], 0), (158, .iconst (-1), 1, [], -1), (159, .iastore, 1, [], 0), (160, .goto (-82), 3, [78], 0), (163, .iload 4, 2, [], 0), (165, .istore 6, 2, [], 0), (167, .iconst 0, 1, [], 0), (168, .istore 7, 2, [], 0), (170, .iload 7, 2, [], 0), (172, .iload_n 3, 1, [], 0), (173, .if_icmp .ge 39, 3, [212], 0), (176, .iload 6, 2, [], 0), (178, .aload_n 0, 1, [], 0), (179, .getfield 25, 3, [], 0), (182, .aload_n 0, 1, [], 0), (183, .getfield 38, 3, [], 0), (186, .iload 7, 2, [], 0), (188, .iaload, 1, [], 0), (189, .iaload, 1, [], 0), (190, .aload_n 0, 1, [], 0), (191, .iload_n 1, 1, [], 0), (192, .aload_n 0, 1, [], 0), (193, .getfield 41, 3, [], 0), (196, .iload 7, 2, [], 0), (198, .iaload, 1, [], 0), (199, .invokevirtual 202, 3, [], 0), (202, .imul, 1, [], 0), (203, .iadd, 1, [], 0), (204, .istore 6, 2, [], 0), (206, .iinc 7 1, 3, [], 1), (209, .goto (-39), 3, [170], 0), (212, .aload_n 0, 1, [], 0), (213, .iload_n 1, 1, [], 0), (214, .iload 6, 2, [], 0), (216, .invokevirtual 163, 3, [], 0), (219, .ifCond .ne 5, 3, [224], 0), (222, .iconst 1, 1, [], 1), (223, .ireturn, 1, [], 0), (224, .goto (-146), 3, [78], 0), (227, .iconst 0, 1, [], 0), (228, .ireturn, 1, [], 0)]
theorem tk_X9_levels : tbok m_X9_levels tb_X9_levels = true := by decide +kernel
def tb_X9_ballast : List Row := [(0, .aload_n 0, 1, [], 0), (1, .iconst 0, 1, [], 0), (2, .putfield 72, 3, [], 0), (5, .aload_n 0, 1, [], 0), (6, .iload_n 1, 1, [], 0), (7, .invokevirtual 166, 3, [], 0), (10, .ifCond .eq 12, 3, [22], 0), (13, .iload_n 2, 1, [], 0), (14, .iconst 0, 1, [], 0), (15, .iconst 1, 1, [], 1), (16, .invokestatic 75, 3, [], 0), (19, .ifCond .ne 5, 3, [24], 0), (22, .iconst (-1), 1, [], -1), (23, .ireturn, 1, [], 0), (24, .iconst 0, 1, [], 0), (25, .istore_n 3, 1, [], 0), (26, .iconst 0, 1, [], 0), (27, .istore 4, 2, [], 0), (29, .iload 4, 2, [], 0), (31, .aload_n 0, 1, [], 0), (32, .getfield 151, 3, [], 0), (35, .if_icmp .ge 35, 3, [70], 0), (38, .iload_n 3, 1, [], 0), (39, .aload_n 0, 1, [], 0), (40, .getfield 28, 3, [], 0), (43, .bipush 24, 2, [], 24), (45, .iload 4, 2, [], 0), (47, .iadd, 1, [], 0), (48, .iaload, 1, [], 0), (49, .bipush (-9), 2, [], -9), (51, .if_icmp .ne 10, 3, [61], 0), (54, .iconst 1, 1, [], 1), (55, .iload 4, 2, [], 0), (57, .ishl, 1, [], 0), (58, .goto 4, 3, [62], 0), (61, .iconst 0, 1, [], 0), (62, .ior, 1, [], 0), (63, .istore_n 3, 1, [], 0), (64, .iinc 4 1, 3, [], 1), (67, .goto (-38), 3, [29], 0), (70, .bipush (-9), 2, [], -9), (72, .istore 4, 2, [], 0), (74, .iconst 0, 1, [], 0), (75, .istore 5, 2, [], 0), (77, .iload 5, 2, [], 0), (79, .iconst 1, 1, [], 1), (80, .aload_n 0, 1, [], 0), (81, .getfield 151, 3, [], 0), (84, .ishl, 1, [], 0), (85, .if_icmp .ge 69, 3, [154], 0), (88, .iload 5, 2, [], 0), (90, .iload_n 3, 1, [], 0), (91, .iconst (-1), 1, [], -1), (92, .ixor, 1, [], 0), (93, .iand, 1, [], 0), (94, .ifCond .ne 27, 3, [121], 0), (97, .iload 4, 2, [], 0), (99, .bipush (-9), 2, [], -9), (101, .if_icmp .eq 16, 3, [117], 0), (104, .iload 5, 2, [], 0), (106, .invokestatic 214, 3, [], 0), (109, .iload 4, 2, [], 0), (111, .invokestatic 214, 3, [], 0), (114, .if_icmp .ge 7, 3, [121], 0), (117, .iconst 1, 1, [], 1), (118, .goto 4, 3, [122], 0), (121, .iconst 0, 1, [], 0), (122, .istore 6, 2, [], 0), (124, .iload 6, 2, [], 0), (126, .ifCond .eq 18, 3, [144], 0), (129, .aload_n 0, 1, [], 0), (130, .iload_n 1, 1, [], 0), (131, .iload 5, 2, [], 0), (133, .invokevirtual 221, 3, [], 0), (136, .ifCond .eq 8, 3, [144], 0), (139, .iload 5, 2, [], 0), (141, .goto 5, 3, [146], 0), (144, .iload 4, 2, [], 0), (146, .istore 4, 2, [], 0), (148, .iinc 5 1, 3, [], 1), (151, .goto (-74), 3, [77], 0), (154, .iload 4, 2, [], 0), (156, .bipush (-9), 2, [], -9), (158, .if_icmp .eq 8, 3, [166], 0), (161, .iload_n 2, 1, [], 0), (162, .iconst 1, 1, [], 1), (163, .if_icmp .ne 8, 3, [171], 0), (166, .iload 4, 2, [], 0), (168, .goto 8, 3, [176], 0), (171, .iload 4, 2, [], 0), (173, .invokestatic 214, 3, [], 0), (176, .ireturn, 1, [], 0)]
theorem tk_X9_ballast : tbok m_X9_ballast tb_X9_ballast = true := by decide +kernel
def tb_X9_isTaken : List Row := [(0, .iconst 0, 1, [], 0), (1, .istore_n 3, 1, [], 0), (2, .iconst 0, 1, [], 0), (3, .istore 4, 2, [], 0), (5, .iload 4, 2, [], 0), (7, .aload_n 0, 1, [], 0), (8, .getfield 148, 3, [], 0), (11, .if_icmp .ge 51, 3, [62], 0), (14, .iload_n 3, 1, [], 0), (15, .ifCond .ne 35, 3, [50], 0), (18, .aload_n 0, 1, [], 0), (19, .getfield 28, 3, [], 0), (22, .iconst 0, 1, [], 0), (23, .iload 4, 2, [], 0), (25, .iadd, 1, [], 0), (26, .iaload, 1, [], 0), (27, .iload_n 1, 1, [], 0), (28, .if_icmp .ne 26, 3, [54], 0), (31, .aload_n 0, 1, [], 0), (32, .getfield 28, 3, [], 0), (35, .bipush 8, 2, [], 8), (37, .iload 4, 2, [], 0), (39, .iadd, 1, [], 0), (40, .iaload, 1, [], 0), (41, .aload_n 0, 1, [], 0), (42, .iload_n 1, 1, [], 0), (43, .iload_n 2, 1, [], 0), (44, .invokevirtual 202, 3, [], 0), (47, .if_icmp .ne 7, 3, [54], 0), (50, .iconst 1, 1, [], 1), (51, .goto 4, 3, [55], 0), (54, .iconst 0, 1, [], 0), (55, .istore_n 3, 1, [], 0), (56, .iinc 4 1, 3, [], 1), (59, .goto (-54), 3, [5], 0), (62, .iload_n 3, 1, [], 0), (63, .ireturn, 1, [], 0)]
theorem tk_X9_isTaken : tbok m_X9_isTaken tb_X9_isTaken = true := by decide +kernel
def tb_X9_mayPut : List Row := [(0, .iload_n 2, 1, [], 0), (1, .iload 5, 2, [], 0), (3, .ishr, 1, [], 0), (4, .iconst 1, 1, [], 1), (5, .iand, 1, [], 0), (6, .ifCond .ne 30, 3, [36], 0), (9, .iload_n 3, 1, [], 0), (10, .iload 6, 2, [], 0), (12, .ishr, 1, [], 0), (13, .iconst 1, 1, [], 1), (14, .iand, 1, [], 0), (15, .ifCond .ne 21, 3, [36], 0), (18, .aload_n 0, 1, [], 0), (19, .getfield 28, 3, [], 0), (22, .iconst 0, 1, [], 0), (23, .iload 5, 2, [], 0), (25, .iadd, 1, [], 0), (26, .iaload, 1, [], 0), (27, .bipush (-9), 2, [], -9), (29, .if_icmp .ne 7, 3, [36], 0), (32, .iconst 1, 1, [], 1), (33, .goto 4, 3, [37], 0), (36, .iconst 0, 1, [], 0), (37, .istore 7, 2, [], 0), (39, .iload 7, 2, [], 0), (41, .ifCond .eq 43, 3, [84], 0), (44, .aload_n 0, 1, [], 0), (45, .iload_n 1, 1, [], 0), (46, .iload 6, 2, [], 0), (48, .invokevirtual 224, 3, [], 0), (51, .ifCond .ne 33, 3, [84], 0), (54, .aload_n 0, 1, [], 0), (55, .iload_n 1, 1, [], 0), (56, .iload 4, 2, [], 0), (58, .aload_n 0, 1, [], 0), (59, .getfield 19, 3, [], 0), (62, .iload 5, 2, [], 0), (64, .iaload, 1, [], 0), (65, .aload_n 0, 1, [], 0), (66, .iload_n 1, 1, [], 0), (67, .iload 6, 2, [], 0), (69, .invokevirtual 202, 3, [], 0), (72, .imul, 1, [], 0), (73, .iadd, 1, [], 0), (74, .invokevirtual 163, 3, [], 0), (77, .ifCond .ne 7, 3, [84], 0), (80, .iconst 1, 1, [], 1), (81, .goto 4, 3, [85], 0), (84, .iconst 0, 1, [], 0), (85, .ireturn, 1, [], 0)]
theorem tk_X9_mayPut : tbok m_X9_mayPut tb_X9_mayPut = true := by decide +kernel
def tb_X9_lastMove : List Row := [(0, .iconst 0, 1, [], 0), (1, .istore 5, 2, [], 0), (3, .iload 5, 2, [], 0), (5, .aload_n 0, 1, [], 0), (6, .getfield 148, 3, [], 0), (9, .if_icmp .ge 56, 3, [65], 0), (12, .iconst 0, 1, [], 0), (13, .istore 6, 2, [], 0), (15, .iload 6, 2, [], 0), (17, .iconst 2, 1, [], 2), (18, .aload_n 0, 1, [], 0), (19, .getfield 13, 3, [], 0), (22, .iload_n 1, 1, [], 0), (23, .iaload, 1, [], 0), (24, .imul, 1, [], 0), (25, .if_icmp .ge 34, 3, [59], 0), (28, .aload_n 0, 1, [], 0), (29, .iload_n 1, 1, [], 0), (30, .iload_n 2, 1, [], 0), (31, .iload_n 3, 1, [], 0), (32, .iload 4, 2, [], 0), (34, .iload 5, 2, [], 0), (36, .iload 6, 2, [], 0), (38, .invokevirtual 227, 3, [], 0), (41, .ifCond .eq 12, 3, [53], 0), (44, .bipush 8, 2, [], 8), (46, .iload 5, 2, [], 0), (48, .imul, 1, [], 0), (49, .iload 6, 2, [], 0), (51, .iadd, 1, [], 0), (52, .ireturn, 1, [], 0), (53, .iinc 6 1, 3, [], 1), (56, .goto (-41), 3, [15], 0), (59, .iinc 5 1, 3, [], 1), (62, .goto (-59), 3, [3], 0), (65, .bipush (-9), 2, [], -9), (67, .ireturn, 1, [], 0)]
theorem tk_X9_lastMove : tbok m_X9_lastMove tb_X9_lastMove = true := by decide +kernel
def tb_X9_twoMoves : List Row := [(0, .iconst 0, 1, [], 0), (1, .istore 5, 2, [], 0), (3, .iload 5, 2, [], 0), (5, .aload_n 0, 1, [], 0), (6, .getfield 148, 3, [], 0), (9, .if_icmp .ge 96, 3, [105], 0), (12, .iconst 0, 1, [], 0), (13, .istore 6, 2, [], 0), (15, .iload 6, 2, [], 0), (17, .iconst 2, 1, [], 2), (18, .aload_n 0, 1, [], 0), (19, .getfield 13, 3, [], 0), (22, .iload_n 1, 1, [], 0), (23, .iaload, 1, [], 0), (24, .imul, 1, [], 0), (25, .if_icmp .ge 74, 3, [99], 0), (28, .aload_n 0, 1, [], 0), (29, .iload_n 1, 1, [], 0), (30, .iload_n 2, 1, [], 0), (31, .iload_n 3, 1, [], 0), (32, .iload 4, 2, [], 0), (34, .iload 5, 2, [], 0), (36, .iload 6, 2, [], 0), (38, .invokevirtual 227, 3, [], 0), (41, .ifCond .eq 52, 3, [93], 0), (44, .aload_n 0, 1, [], 0), (45, .iload_n 1, 1, [], 0), (46, .iload_n 2, 1, [], 0), (47, .iconst 1, 1, [], 1), (48, .iload 5, 2, [], 0), (50, .ishl, 1, [], 0), (51, .ior, 1, [], 0), (52, .iload_n 3, 1, [], 0), (53, .iconst 1, 1, [], 1), (54, .iload 6, 2, [], 0), (56, .ishl, 1, [], 0), (57, .ior, 1, [], 0), (58, .iload 4, 2, [], 0), (60, .aload_n 0, 1, [], 0), (61, .getfield 19, 3, [], 0), (64, .iload 5, 2, [], 0), (66, .iaload, 1, [], 0), (67, .aload_n 0, 1, [], 0), (68, .iload_n 1, 1, [], 0), (69, .iload 6, 2, [], 0), (71, .invokevirtual 202, 3, [], 0), (74, .imul, 1, [], 0), (75, .iadd, 1, [], 0), (76, .invokevirtual 231, 3, [], 0), (79, .bipush (-9), 2, [], -9), (81, .if_icmp .ne 12, 3, [93], 0), (84, .bipush 8, 2, [], 8), (86, .iload 5, 2, [], 0), (88, .imul, 1, [], 0), (89, .iload 6, 2, [], 0), (91, .iadd, 1, [], 0), (92, .ireturn, 1, [], 0), (93, .iinc 6 1, 3, [], 1), (96, .goto (-81), 3, [15], 0), (99, .iinc 5 1, 3, [], 1), (102, .goto (-99), 3, [3], 0), (105, .bipush (-9), 2, [], -9), (107, .ireturn, 1, [], 0)]
theorem tk_X9_twoMoves : tbok m_X9_twoMoves tb_X9_twoMoves = true := by decide +kernel
def tb_X9_threeMoves : List Row := [(0, .iconst 0, 1, [], 0), (1, .istore 5, 2, [], 0), (3, .iload 5, 2, [], 0), (5, .aload_n 0, 1, [], 0), (6, .getfield 148, 3, [], 0), (9, .if_icmp .ge 96, 3, [105], 0), (12, .iconst 0, 1, [], 0), (13, .istore 6, 2, [], 0), (15, .iload 6, 2, [], 0), (17, .iconst 2, 1, [], 2), (18, .aload_n 0, 1, [], 0), (19, .getfield 13, 3, [], 0), (22, .iload_n 1, 1, [], 0), (23, .iaload, 1, [], 0), (24, .imul, 1, [], 0), (25, .if_icmp .ge 74, 3, [99], 0), (28, .aload_n 0, 1, [], 0), (29, .iload_n 1, 1, [], 0), (30, .iload_n 2, 1, [], 0), (31, .iload_n 3, 1, [], 0), (32, .iload 4, 2, [], 0), (34, .iload 5, 2, [], 0), (36, .iload 6, 2, [], 0), (38, .invokevirtual 227, 3, [], 0), (41, .ifCond .eq 52, 3, [93], 0), (44, .aload_n 0, 1, [], 0), (45, .iload_n 1, 1, [], 0), (46, .iload_n 2, 1, [], 0), (47, .iconst 1, 1, [], 1), (48, .iload 5, 2, [], 0), (50, .ishl, 1, [], 0), (51, .ior, 1, [], 0), (52, .iload_n 3, 1, [], 0), (53, .iconst 1, 1, [], 1), (54, .iload 6, 2, [], 0), (56, .ishl, 1, [], 0), (57, .ior, 1, [], 0), (58, .iload 4, 2, [], 0), (60, .aload_n 0, 1, [], 0), (61, .getfield 19, 3, [], 0), (64, .iload 5, 2, [], 0), (66, .iaload, 1, [], 0), (67, .aload_n 0, 1, [], 0), (68, .iload_n 1, 1, [], 0), (69, .iload 6, 2, [], 0), (71, .invokevirtual 202, 3, [], 0), (74, .imul, 1, [], 0), (75, .iadd, 1, [], 0), (76, .invokevirtual 234, 3, [], 0), (79, .bipush (-9), 2, [], -9), (81, .if_icmp .ne 12, 3, [93], 0), (84, .bipush 8, 2, [], 8), (86, .iload 5, 2, [], 0), (88, .imul, 1, [], 0), (89, .iload 6, 2, [], 0), (91, .iadd, 1, [], 0), (92, .ireturn, 1, [], 0), (93, .iinc 6 1, 3, [], 1), (96, .goto (-81), 3, [15], 0), (99, .iinc 5 1, 3, [], 1), (102, .goto (-99), 3, [3], 0), (105, .bipush (-9), 2, [], -9), (107, .ireturn, 1, [], 0)]
theorem tk_X9_threeMoves : tbok m_X9_threeMoves tb_X9_threeMoves = true := by decide +kernel
def tb_X9_fourMoves : List Row := [(0, .iconst 0, 1, [], 0), (1, .istore_n 3, 1, [], 0), (2, .iload_n 3, 1, [], 0), (3, .aload_n 0, 1, [], 0), (4, .getfield 148, 3, [], 0), (7, .if_icmp .ge 86, 3, [93], 0), (10, .iconst 0, 1, [], 0), (11, .istore 4, 2, [], 0), (13, .iload 4, 2, [], 0), (15, .iconst 2, 1, [], 2), (16, .aload_n 0, 1, [], 0), (17, .getfield 13, 3, [], 0), (20, .iload_n 1, 1, [], 0), (21, .iaload, 1, [], 0), (22, .imul, 1, [], 0), (23, .if_icmp .ge 64, 3, [87], 0), (26, .aload_n 0, 1, [], 0), (27, .iload_n 1, 1, [], 0), (28, .iconst 0, 1, [], 0), (29, .iconst 0, 1, [], 0), (30, .iload_n 2, 1, [], 0), (31, .iload_n 3, 1, [], 0), (32, .iload 4, 2, [], 0), (34, .invokevirtual 227, 3, [], 0), (37, .ifCond .eq 44, 3, [81], 0), (40, .aload_n 0, 1, [], 0), (41, .iload_n 1, 1, [], 0), (42, .iconst 1, 1, [], 1), (43, .iload_n 3, 1, [], 0), (44, .ishl, 1, [], 0), (45, .iconst 1, 1, [], 1), (46, .iload 4, 2, [], 0), (48, .ishl, 1, [], 0), (49, .iload_n 2, 1, [], 0), (50, .aload_n 0, 1, [], 0), (51, .getfield 19, 3, [], 0), (54, .iload_n 3, 1, [], 0), (55, .iaload, 1, [], 0), (56, .aload_n 0, 1, [], 0), (57, .iload_n 1, 1, [], 0), (58, .iload 4, 2, [], 0), (60, .invokevirtual 202, 3, [], 0), (63, .imul, 1, [], 0), (64, .iadd, 1, [], 0), (65, .invokevirtual 237, 3, [], 0), (68, .bipush (-9), 2, [], -9), (70, .if_icmp .ne 11, 3, [81], 0), (73, .bipush 8, 2, [], 8), (75, .iload_n 3, 1, [], 0), (76, .imul, 1, [], 0), (77, .iload 4, 2, [], 0), (79, .iadd, 1, [], 0), (80, .ireturn, 1, [], 0), (81, .iinc 4 1, 3, [], 1), (84, .goto (-71), 3, [13], 0), (87, .iinc 3 1, 3, [], 1), (90, .goto (-88), 3, [2], 0), (93, .bipush (-9), 2, [], -9), (95, .ireturn, 1, [], 0)]
theorem tk_X9_fourMoves : tbok m_X9_fourMoves tb_X9_fourMoves = true := by decide +kernel
def tb_X9_game : List Row := [(0, .aload_n 0, 1, [], 0), (1, .iconst 0, 1, [], 0), (2, .putfield 72, 3, [], 0), (5, .aload_n 0, 1, [], 0), (6, .iload_n 1, 1, [], 0), (7, .invokevirtual 166, 3, [], 0), (10, .ifCond .eq 12, 3, [22], 0), (13, .iload_n 2, 1, [], 0), (14, .iconst 0, 1, [], 0), (15, .iconst 1, 1, [], 1), (16, .invokestatic 75, 3, [], 0), (19, .ifCond .ne 5, 3, [24], 0), (22, .iconst (-1), 1, [], -1), (23, .ireturn, 1, [], 0), (24, .iconst 0, 1, [], 0), (25, .istore_n 3, 1, [], 0), (26, .iconst 0, 1, [], 0), (27, .istore 4, 2, [], 0), (29, .iload 4, 2, [], 0), (31, .aload_n 0, 1, [], 0), (32, .getfield 148, 3, [], 0), (35, .if_icmp .ge 31, 3, [66], 0), (38, .iload_n 3, 1, [], 0), (39, .aload_n 0, 1, [], 0), (40, .getfield 28, 3, [], 0), (43, .iconst 0, 1, [], 0), (44, .iload 4, 2, [], 0), (46, .iadd, 1, [], 0), (47, .iaload, 1, [], 0), (48, .bipush (-9), 2, [], -9), (50, .if_icmp .ne 7, 3, [57], 0), (53, .iconst 1, 1, [], 1), (54, .goto 4, 3, [58], 0), (57, .iconst 0, 1, [], 0), (58, .iadd, 1, [], 0), (59, .istore_n 3, 1, [], 0), (60, .iinc 4 1, 3, [], 1), (63, .goto (-34), 3, [29], 0), (66, .aload_n 0, 1, [], 0), (67, .iload_n 1, 1, [], 0), (68, .invokevirtual 160, 3, [], 0), (71, .istore 4, 2, [], 0), (73, .iload_n 3, 1, [], 0), (74, .iconst 4, 1, [], 4), (75, .if_icmp .gt 13, 3, [88], 0), (78, .aload_n 0, 1, [], 0), (79, .iload_n 1, 1, [], 0), (80, .iload 4, 2, [], 0), (82, .invokevirtual 163, 3, [], 0), (85, .ifCond .eq 6, 3, [91], 0), (88, .bipush (-2), 2, [], -2), (90, .ireturn, 1, [], 0), (91, .iload_n 3, 1, [], 0), (92, .iconst 4, 1, [], 4), (93, .if_icmp .ne 13, 3, [106], 0), (96, .aload_n 0, 1, [], 0), (97, .iload_n 1, 1, [], 0), (98, .iload 4, 2, [], 0), (100, .invokevirtual 240, 3, [], 0), (103, .goto 46, 3, [149], 0), (106, .iload_n 3, 1, [], 0), (107, .iconst 3, 1, [], 3), (108, .if_icmp .ne 15, 3, [123], 0), (111, .aload_n 0, 1, [], 0), (112, .iload_n 1, 1, [], 0), (113, .iconst 0, 1, [], 0), (114, .iconst 0, 1, [], 0), (115, .iload 4, 2, [], 0), (117, .invokevirtual 237, 3, [], 0), (120, .goto 29, 3, [149], 0), (123, .iload_n 3, 1, [], 0), (124, .iconst 2, 1, [], 2), (125, .if_icmp .ne 15, 3, [140], 0), (128, .aload_n 0, 1, [], 0), (129, .iload_n 1, 1, [], 0), (130, .iconst 0, 1, [], 0), (131, .iconst 0, 1, [], 0), (132, .iload 4, 2, [], 0), (134, .invokevirtual 234, 3, [], 0), (137, .goto 12, 3, [149], 0), (140, .aload_n 0, 1, [], 0), (141, .iload_n 1, 1, [], 0), (142, .iconst 0, 1, [], 0), (143, .iconst 0, 1, [], 0), (144, .iload 4, 2, [], 0), (146, .invokevirtual 231, 3, [], 0), (149, .istore 5, 2, [], 0), (151, .iload_n 2, 1, [], 0), (152, .ifCond .ne 18, 3, [170], 0), (155, .iload 5, 2, [], 0), (157, .bipush (-9), 2, [], -9), (159, .if_icmp .ne 7, 3, [166], 0), (162, .iconst 0, 1, [], 0), (163, .goto 40, 3, [203], 0), (166, .iconst 1, 1, [], 1), (167, .goto 36, 3, [203], 0), (170, .iload 5, 2, [], 0), (172, .bipush (-9), 2, [], -9), (174, .if_icmp .ne 8, 3, [182], 0), (177, .bipush (-9), 2, [], -9), (179, .goto 24, 3, [203], 0), (182, .bipush 100, 2, [], 100), (184, .iload 5, 2, [], 0), (186, .bipush 8, 2, [], 8), (188, .idiv, 1, [], 0), (189, .imul, 1, [], 0), (190, .aload_n 0, 1, [], 0), (191, .iload_n 1, 1, [], 0), (192, .iload 5, 2, [], 0), (194, .bipush 8, 2, [], 8), (196, .irem, 1, [], 0), (197, .invokevirtual 202, 3, [], 0), (200, .iadd, 1, [], 0), (201, .iconst 4, 1, [], 4), (202, .iadd, 1, [], 0), (203, .ireturn, 1, [], 0)]
theorem tk_X9_game : tbok m_X9_game tb_X9_game = true := by decide +kernel
def tb_X9_strangers : List Row := [(0, .aload_n 0, 1, [], 0), (1, .iconst 0, 1, [], 0), (2, .putfield 72, 3, [], 0), (5, .iload_n 1, 1, [], 0), (6, .iconst 2, 1, [], 2), (7, .iconst 5, 1, [], 5), (8, .invokestatic 75, 3, [], 0), (11, .ifCond .ne 5, 3, [16], 0), (14, .iconst (-1), 1, [], -1), (15, .ireturn, 1, [], 0), (16, .aload_n 0, 1, [], 0), (17, .getfield 65, 3, [], 0), (20, .istore_n 2, 1, [], 0), (21, .aload_n 0, 1, [], 0), (22, .iload_n 1, 1, [], 0), (23, .putfield 65, 3, [], 0), (26, .aload_n 0, 1, [], 0), (27, .iconst 0, 1, [], 0), (28, .putfield 243, 3, [], 0), (31, .iload_n 2, 1, [], 0), (32, .ireturn, 1, [], 0)]
theorem tk_X9_strangers : tbok m_X9_strangers tb_X9_strangers = true := by decide +kernel
def tb_X9_isStranger : List Row := [(0, .iload_n 1, 1, [], 0), (1, .iconst 0, 1, [], 0), (2, .aload_n 0, 1, [], 0), (3, .getfield 65, 3, [], 0), (6, .iconst 1, 1, [], 1), (7, .isub, 1, [], 0), (8, .invokestatic 75, 3, [], 0), (11, .ireturn, 1, [], 0)]
theorem tk_X9_isStranger : tbok m_X9_isStranger tb_X9_isStranger = true := by decide +kernel
def tb_X9_trial : List Row := [(0, .aload_n 0, 1, [], 0), (1, .iconst 0, 1, [], 0), (2, .putfield 72, 3, [], 0), (5, .aload_n 0, 1, [], 0), (6, .iload_n 1, 1, [], 0), (7, .invokevirtual 246, 3, [], 0), (10, .ifCond .eq 25, 3, [35], 0), (13, .aload_n 0, 1, [], 0), (14, .iload_n 2, 1, [], 0), (15, .invokevirtual 246, 3, [], 0), (18, .ifCond .eq 17, 3, [35], 0), (21, .iload_n 1, 1, [], 0), (22, .iload_n 2, 1, [], 0), (23, .if_icmp .eq 12, 3, [35], 0), (26, .iload_n 3, 1, [], 0), (27, .iconst (-1), 1, [], -1), (28, .iconst 1, 1, [], 1), (29, .invokestatic 75, 3, [], 0), (32, .ifCond .ne 5, 3, [37], 0), (35, .iconst (-1), 1, [], -1), (36, .ireturn, 1, [], 0), (37, .aload_n 0, 1, [], 0), (38, .getfield 243, 3, [], 0), (41, .bipush 12, 2, [], 12), (43, .if_icmp .ne 6, 3, [49], 0), (46, .bipush (-3), 2, [], -3), (48, .ireturn, 1, [], 0), (49, .aload_n 0, 1, [], 0), (50, .getfield 47, 3, [], 0), (53, .iconst 3, 1, [], 3), (54, .aload_n 0, 1, [], 0), (55, .getfield 243, 3, [], 0), (58, .imul, 1, [], 0), (59, .iload_n 1, 1, [], 0), (60, .iastore, 1, [], 0), (61, .aload_n 0, 1, [], 0), (62, .getfield 47, 3, [], 0), (65, .iconst 3, 1, [], 3), (66, .aload_n 0, 1, [], 0), (67, .getfield 243, 3, [], 0), (70, .imul, 1, [], 0), (71, .iconst 1, 1, [], 1), (72, .iadd, 1, [], 0), (73, .iload_n 2, 1, [], 0), (74, .iastore, 1, [], 0), (75, .aload_n 0, 1, [], 0), (76, .getfield 47, 3, [], 0), (79, .iconst 3, 1, [], 3), (80, .aload_n 0, 1, [], 0), (81, .getfield 243, 3, [], 0), (84, .imul, 1, [], 0), (85, .iconst 2, 1, [], 2), (86, .iadd, 1, [], 0), (87, .iload_n 3, 1, [], 0), (88, .iastore, 1, [], 0), (89, .aload_n 0, 1, [], 0), (90, .dup, 1, [], 0), (91, .getfield 243, 3, [], 0), (94, .iconst 1, 1, [], 1), (95, .iadd, 1, [], 0), (96, .putfield 243, 3, [], 0), (99, .aload_n 0, 1, [], 0), (100, .getfield 243, 3, [], 0), (103, .ireturn, 1, [], 0)]
theorem tk_X9_trial : tbok m_X9_trial tb_X9_trial = true := by decide +kernel
def tb_X9_weightIn : List Row := [(0, .iload_n 0, 1, [], 0), (1, .istore_n 2, 1, [], 0), (2, .iconst 0, 1, [], 0), (3, .istore_n 3, 1, [], 0), (4, .iload_n 3, 1, [], 0), (5, .iload_n 1, 1, [], 0), (6, .if_icmp .ge 14, 3, [20], 0), (9, .iload_n 2, 1, [], 0), (10, .bipush 6, 2, [], 6), (12, .idiv, 1, [], 0), (13, .istore_n 2, 1, [], 0), (14, .iinc 3 1, 3, [], 1), (17, .goto (-13), 3, [4], 0), (20, .iconst 1, 1, [], 1), (21, .iload_n 2, 1, [], 0), (22, .bipush 6, 2, [], 6), (24, .irem, 1, [], 0), (25, .iadd, 1, [], 0), (26, .ireturn, 1, [], 0)]
theorem tk_X9_weightIn : tbok m_X9_weightIn tb_X9_weightIn = true := by decide +kernel
def tb_X9_weighs : List Row := [(0, .iload_n 0, 1, [], 0), (1, .iload_n 2, 1, [], 0), (2, .invokestatic 249, 3, [], 0), (5, .iload_n 0, 1, [], 0), (6, .iload_n 1, 1, [], 0), (7, .invokestatic 249, 3, [], 0), (10, .isub, 1, [], 0), (11, .istore_n 3, 1, [], 0), (12, .iload_n 3, 1, [], 0), (13, .ifCond .le 7, 3, [20], 0), (16, .iconst 1, 1, [], 1), (17, .goto 12, 3, [29], 0), (20, .iload_n 3, 1, [], 0), (21, .ifCond .ge 7, 3, [28], 0), (24, .iconst (-1), 1, [], -1), (25, .goto 4, 3, [29], 0), (28, .iconst 0, 1, [], 0), (29, .ireturn, 1, [], 0)]
theorem tk_X9_weighs : tbok m_X9_weighs tb_X9_weighs = true := by decide +kernel
def tb_X9_allWays : List Row := [(0, .iconst 1, 1, [], 1), (1, .istore_n 1, 1, [], 0), (2, .iconst 0, 1, [], 0), (3, .istore_n 2, 1, [], 0), (4, .iload_n 2, 1, [], 0), (5, .aload_n 0, 1, [], 0), (6, .getfield 65, 3, [], 0), (9, .if_icmp .ge 14, 3, [23], 0), (12, .iload_n 1, 1, [], 0), (13, .bipush 6, 2, [], 6), (15, .imul, 1, [], 0), (16, .istore_n 1, 1, [], 0), (17, .iinc 2 1, 3, [], 1), (20, .goto (-16), 3, [4], 0), (23, .iload_n 1, 1, [], 0), (24, .ireturn, 1, [], 0)]
theorem tk_X9_allWays : tbok m_X9_allWays tb_X9_allWays = true := by decide +kernel
def tb_X9_fits : List Row := [(0, .iconst 1, 1, [], 1), (1, .istore_n 2, 1, [], 0), (2, .iconst 0, 1, [], 0), (3, .istore_n 3, 1, [], 0), (4, .iload_n 3, 1, [], 0), (5, .aload_n 0, 1, [], 0), (6, .getfield 243, 3, [], 0), (9, .if_icmp .ge 54, 3, [63], 0), (12, .iload_n 2, 1, [], 0), (13, .ifCond .eq 42, 3, [55], 0), (16, .iload_n 1, 1, [], 0), (17, .aload_n 0, 1, [], 0), (18, .getfield 47, 3, [], 0), (21, .iconst 3, 1, [], 3), (22, .iload_n 3, 1, [], 0), (23, .imul, 1, [], 0), (24, .iaload, 1, [], 0), (25, .aload_n 0, 1, [], 0), (26, .getfield 47, 3, [], 0), (29, .iconst 3, 1, [], 3), (30, .iload_n 3, 1, [], 0), (31, .imul, 1, [], 0), (32, .iconst 1, 1, [], 1), (33, .iadd, 1, [], 0), (34, .iaload, 1, [], 0), (35, .invokestatic 252, 3, [], 0), (38, .aload_n 0, 1, [], 0), (39, .getfield 47, 3, [], 0), (42, .iconst 3, 1, [], 3), (43, .iload_n 3, 1, [], 0), (44, .imul, 1, [], 0), (45, .iconst 2, 1, [], 2), (46, .iadd, 1, [], 0), (47, .iaload, 1, [], 0), (48, .if_icmp .ne 7, 3, [55], 0), (51, .iconst 1, 1, [], 1), (52, .goto 4, 3, [56], 0), (55, .iconst 0, 1, [], 0), (56, .istore_n 2, 1, [], 0), (57, .iinc 3 1, 3, [], 1), (60, .goto (-56), 3, [4], 0), (63, .iload_n 2, 1, [], 0), (64, .ireturn, 1, [], 0)]
theorem tk_X9_fits : tbok m_X9_fits tb_X9_fits = true := by decide +kernel
def tb_X9_couldBe : List Row := [(0, .iconst 0, 1, [], 0), (1, .istore_n 3, 1, [], 0), (2, .iconst 0, 1, [], 0), (3, .istore 4, 2, [], 0), (5, .iload 4, 2, [], 0), (7, .aload_n 0, 1, [], 0), (8, .invokevirtual 255, 3, [], 0), (11, .if_icmp .ge 41, 3, [52], 0), (14, .iload_n 3, 1, [], 0), (15, .aload_n 0, 1, [], 0), (16, .iload 4, 2, [], 0), (18, .invokevirtual 258, 3, [], 0), (21, .ifCond .eq 22, 3, [43], 0), (24, .iload_n 1, 1, [], 0), (25, .iconst (-1), 1, [], -1), (26, .if_icmp .eq 13, 3, [39], 0), (29, .iload 4, 2, [], 0), (31, .iload_n 1, 1, [], 0), (32, .invokestatic 249, 3, [], 0), (35, .iload_n 2, 1, [], 0), (36, .if_icmp .ne 7, 3, [43], 0), (39, .iconst 1, 1, [], 1), (40, .goto 4, 3, [44], 0), (43, .iconst 0, 1, [], 0), (44, .iadd, 1, [], 0), (45, .istore_n 3, 1, [], 0), (46, .iinc 4 1, 3, [], 1), (49, .goto (-44), 3, [5], 0), (52, .iload_n 3, 1, [], 0), (53, .ireturn, 1, [], 0)]
theorem tk_X9_couldBe : tbok m_X9_couldBe tb_X9_couldBe = true := by decide +kernel
def tb_X9_could : List Row := [(0, .aload_n 0, 1, [], 0), (1, .iconst 0, 1, [], 0), (2, .putfield 72, 3, [], 0), (5, .iload_n 1, 1, [], 0), (6, .iconst (-1), 1, [], -1), (7, .if_icmp .eq 11, 3, [18], 0), (10, .aload_n 0, 1, [], 0), (11, .iload_n 1, 1, [], 0), (12, .invokevirtual 246, 3, [], 0), (15, .ifCond .eq 13, 3, [28], 0), (18, .iload_n 2, 1, [], 0), (19, .iconst 1, 1, [], 1), (20, .bipush 6, 2, [], 6), (22, .invokestatic 75, 3, [], 0), (25, .ifCond .ne 7, 3, [32], 0), (28, .iconst (-1), 1, [], -1), (29, .goto 9, 3, [38], 0), (32, .aload_n 0, 1, [], 0), (33, .iload_n 1, 1, [], 0), (34, .iload_n 2, 1, [], 0), (35, .invokevirtual 261, 3, [], 0), (38, .ireturn, 1, [], 0)]
theorem tk_X9_could : tbok m_X9_could tb_X9_could = true := by decide +kernel
def tb_X9_sure : List Row := [(0, .aload_n 0, 1, [], 0), (1, .iconst 0, 1, [], 0), (2, .putfield 72, 3, [], 0), (5, .aload_n 0, 1, [], 0), (6, .iload_n 1, 1, [], 0), (7, .invokevirtual 246, 3, [], 0), (10, .ifCond .ne 5, 3, [15], 0), (13, .iconst (-1), 1, [], -1), (14, .ireturn, 1, [], 0), (15, .iconst 0, 1, [], 0), (16, .istore_n 2, 1, [], 0), (17, .bipush (-9), 2, [], -9), (19, .istore_n 3, 1, [], 0), (20, .iconst 1, 1, [], 1), (21, .istore 4, 2, [], 0), (23, .iload 4, 2, [], 0), (25, .bipush 7, 2, [], 7), (27, .if_icmp .ge 25, 3, [52], 0), (30, .aload_n 0, 1, [], 0), (31, .iload_n 1, 1, [], 0), (32, .iload 4, 2, [], 0), (34, .invokevirtual 261, 3, [], 0), (37, .ifCond .le 9, 3, [46], 0), (40, .iinc 2 1, 3, [], 1), (43, .iload 4, 2, [], 0), (45, .istore_n 3, 1, [], 0), (46, .iinc 4 1, 3, [], 1), (49, .goto (-26), 3, [23], 0), (52, .iload_n 2, 1, [], 0), (53, .iconst 1, 1, [], 1), (54, .if_icmp .ne 7, 3, [61], 0), (57, .iload_n 3, 1, [], 0), (58, .goto 5, 3, [63], 0), (61, .bipush (-9), 2, [], -9), (63, .ireturn, 1, [], 0)]
theorem tk_X9_sure : tbok m_X9_sure tb_X9_sure = true := by decide +kernel
def tb_X9_next : List Row := [(0, .aload_n 0, 1, [], 0), (1, .iconst 0, 1, [], 0), (2, .putfield 72, 3, [], 0), (5, .iload_n 1, 1, [], 0), (6, .iconst 0, 1, [], 0), (7, .iconst 1, 1, [], 1), (8, .invokestatic 75, 3, [], 0), (11, .ifCond .ne 5, 3, [16], 0), (14, .iconst (-1), 1, [], -1), (15, .ireturn, 1, [], 0), (16, .bipush (-9), 2, [], -9), (18, .istore_n 2, 1, [], 0), (19, .iconst 0, 1, [], 0), (20, .istore_n 3, 1, [], 0), (21, .iconst 0, 1, [], 0), (22, .istore 4, 2, [], 0), (24, .iload 4, 2, [], 0), (26, .aload_n 0, 1, [], 0), (27, .getfield 65, 3, [], 0), (30, .if_icmp .ge 142, 3, [172], 0), (33, .iload 4, 2, [], 0), (35, .iconst 1, 1, [], 1), (36, .iadd, 1, [], 0), (37, .istore 5, 2, [], 0), (39, .iload 5, 2, [], 0), (41, .aload_n 0, 1, [], 0), (42, .getfield 65, 3, [], 0), (45, .if_icmp .ge 121, 3, [166], 0), (48, .iconst 0, 1, [], 0), (49, .istore 6, 2, [], 0), (51, .iconst (-1), 1, [], -1), (52, .istore 7, 2, [], 0), (54, .iload 7, 2, [], 0), (56, .iconst 2, 1, [], 2), (57, .if_icmp .ge 79, 3, [136], 0), (60, .iconst 0, 1, [], 0), (61, .istore 8, 2, [], 0), (63, .iconst 0, 1, [], 0), (64, .istore 9, 2, [], 0), (66, .iload 9, 2, [], 0), (68, .aload_n 0, 1, [], 0), (69, .invokevirtual 255, 3, [], 0), (72, .if_icmp .ge 42, 3, [114], 0), (75, .iload 8, 2, [], 0), (77, .iload 9, 2, [], 0), (79, .iload 4, 2, [], 0), (81, .iload 5, 2, [], 0), (83, .invokestatic 252, 3, [], 0), (86, .iload 7, 2, [], 0), (88, .if_icmp .ne 16, 3, [104], 0), (91, .aload_n 0, 1, [], 0), (92, .iload 9, 2, [], 0), (94, .invokevirtual 258, 3, [], 0), (97, .ifCond .eq 7, 3, [104], 0), (100, .iconst 1, 1, [], 1), (101, .goto 4, 3, [105], 0), (104, .iconst 0, 1, [], 0), (105, .iadd, 1, [], 0), (106, .istore 8, 2, [], 0), (108, .iinc 9 1, 3, [], 1), (111, .goto (-45), 3, [66], 0), (114, .iload 8, 2, [], 0), (116, .iload 6, 2, [], 0), (118, .if_icmp .le 8, 3, [126], 0), (121, .iload 8, 2, [], 0), (123, .goto 5, 3, [128], 0), (126, .iload 6, 2, [], 0), (128, .istore 6, 2, [], 0), (130, .iinc 7 1, 3, [], 1), (133, .goto (-79), 3, [54], 0), (136, .iload_n 2, 1, [], 0), (137, .bipush (-9), 2, [], -9), (139, .if_icmp .eq 9, 3, [148], 0), (142, .iload 6, 2, [], 0), (144, .iload_n 3, 1, [], 0), (145, .if_icmp .ge 15, 3, [160], 0), (148, .bipush 10, 2, [], 10), (150, .iload 4, 2, [], 0), (152, .imul, 1, [], 0), (153, .iload 5, 2, [], 0), (155, .iadd, 1, [], 0), (156, .istore_n 2, 1, [], 0), (157, .iload 6, 2, [], 0), (159, .istore_n 3, 1, [], 0), (160, .iinc 5 1, 3, [], 1), (163, .goto (-124), 3, [39], 0), (166, .iinc 4 1, 3, [], 1), (169, .goto (-145), 3, [24], 0), (172, .iload_n 1, 1, [], 0), (173, .ifCond .ne 7, 3, [180], 0), (176, .iload_n 2, 1, [], 0), (177, .goto 4, 3, [181], 0), (180, .iload_n 3, 1, [], 0), (181, .ireturn, 1, [], 0)]
theorem tk_X9_next : tbok m_X9_next tb_X9_next = true := by decide +kernel
def tb_X9_areAPair : List Row := [(0, .aload_n 0, 1, [], 0), (1, .getfield 19, 3, [], 0), (4, .iload_n 2, 1, [], 0), (5, .iaload, 1, [], 0), (6, .aload_n 0, 1, [], 0), (7, .getfield 19, 3, [], 0), (10, .iload_n 3, 1, [], 0), (11, .iaload, 1, [], 0), (12, .isub, 1, [], 0), (13, .invokestatic 157, 3, [], 0), (16, .aload_n 0, 1, [], 0), (17, .getfield 16, 3, [], 0), (20, .iload_n 1, 1, [], 0), (21, .iaload, 1, [], 0), (22, .if_icmp .gt 7, 3, [29], 0), (25, .iconst 1, 1, [], 1), (26, .goto 4, 3, [30], 0), (29, .iconst 0, 1, [], 0), (30, .ireturn, 1, [], 0)]
theorem tk_X9_areAPair : tbok m_X9_areAPair tb_X9_areAPair = true := by decide +kernel
def tb_X9_waits : List Row := [(0, .aload_n 0, 1, [], 0), (1, .getfield 50, 3, [], 0), (4, .iload_n 1, 1, [], 0), (5, .iaload, 1, [], 0), (6, .aload_n 0, 1, [], 0), (7, .getfield 22, 3, [], 0), (10, .iload_n 1, 1, [], 0), (11, .iaload, 1, [], 0), (12, .if_icmp .ge 23, 3, [35], 0), (15, .aload_n 0, 1, [], 0), (16, .getfield 53, 3, [], 0), (19, .aload_n 0, 1, [], 0), (20, .getfield 264, 3, [], 0), (23, .iload_n 1, 1, [], 0), (24, .iastore, 1, [], 0), (25, .aload_n 0, 1, [], 0), (26, .dup, 1, [], 0), (27, .getfield 264, 3, [], 0), (30, .iconst 1, 1, [], 1), (31, .iadd, 1, [], 0), (32, .putfield 264, 3, [], 0), (35, .return_, 1, [], 0)]
theorem tk_X9_waits : tbok m_X9_waits tb_X9_waits = true := by decide +kernel
def tb_X9_letsOff : List Row := [(0, .aload_n 0, 1, [], 0), (1, .getfield 56, 3, [], 0), (4, .iload_n 1, 1, [], 0), (5, .iaload, 1, [], 0), (6, .aload_n 0, 1, [], 0), (7, .getfield 59, 3, [], 0), (10, .iload_n 1, 1, [], 0), (11, .iaload, 1, [], 0), (12, .invokestatic 267, 3, [], 0), (15, .istore_n 2, 1, [], 0), (16, .aload_n 0, 1, [], 0), (17, .getfield 56, 3, [], 0), (20, .iload_n 1, 1, [], 0), (21, .iaload, 1, [], 0), (22, .aload_n 0, 1, [], 0), (23, .getfield 59, 3, [], 0), (26, .iload_n 1, 1, [], 0), (27, .iaload, 1, [], 0), (28, .iadd, 1, [], 0), (29, .iload_n 2, 1, [], 0), (30, .isub, 1, [], 0), (31, .istore_n 3, 1, [], 0), (32, .aload_n 0, 1, [], 0), (33, .getfield 56, 3, [], 0), (36, .iload_n 1, 1, [], 0), (37, .bipush (-9), 2, [], -9), (39, .iastore, 1, [], 0), (40, .aload_n 0, 1, [], 0), (41, .iload_n 2, 1, [], 0), (42, .invokevirtual 270, 3, [], 0), (45, .aload_n 0, 1, [], 0), (46, .iload_n 3, 1, [], 0), (47, .invokevirtual 270, 3, [], 0), (50, .return_, 1, [], 0)]
theorem tk_X9_letsOff : tbok m_X9_letsOff tb_X9_letsOff = true := by decide +kernel
def tb_X9_lesser : List Row := [(0, .iload_n 0, 1, [], 0), (1, .iload_n 1, 1, [], 0), (2, .if_icmp .ge 7, 3, [9], 0), (5, .iload_n 0, 1, [], 0), (6, .goto 4, 3, [10], 0), (9, .iload_n 1, 1, [], 0), (10, .ireturn, 1, [], 0)]
theorem tk_X9_lesser : tbok m_X9_lesser tb_X9_lesser = true := by decide +kernel
def tb_X9_outOfRow : List Row := [(0, .aload_n 0, 1, [], 0), (1, .dup, 1, [], 0), (2, .getfield 264, 3, [], 0), (5, .iconst 1, 1, [], 1), (6, .isub, 1, [], 0), (7, .putfield 264, 3, [], 0), (10, .iload_n 1, 1, [], 0), (11, .istore_n 2, 1, [], 0), (12, .iload_n 2, 1, [], 0), (13, .aload_n 0, 1, [], 0), (14, .getfield 264, 3, [], 0), (17, .if_icmp .ge 23, 3, [40], 0), (20, .aload_n 0, 1, [], 0), (21, .getfield 53, 3, [], 0), (24, .iload_n 2, 1, [], 0), (25, .aload_n 0, 1, [], 0), (26, .getfield 53, 3, [], 0), (29, .iload_n 2, 1, [], 0), (30, .iconst 1, 1, [], 1), (31, .iadd, 1, [], 0), (32, .iaload, 1, [], 0), (33, .iastore, 1, [], 0), (34, .iinc 2 1, 3, [], 1), (37, .goto (-25), 3, [12], 0), (40, .return_, 1, [], 0)]
theorem tk_X9_outOfRow : tbok m_X9_outOfRow tb_X9_outOfRow = true := by decide +kernel
def tb_X9_takesOn : List Row := [(0, .iconst 0, 1, [], 0), (1, .istore_n 3, 1, [], 0), (2, .iload_n 3, 1, [], 0), (3, .aload_n 0, 1, [], 0), (4, .getfield 264, 3, [], 0), (7, .if_icmp .ge 144, 3, [151], 0), (10, .iload_n 3, 1, [], 0), (11, .iconst 1, 1, [], 1), (12, .iadd, 1, [], 0), (13, .istore 4, 2, [], 0), (15, .iload 4, 2, [], 0), (17, .aload_n 0, 1, [], 0), (18, .getfield 264, 3, [], 0), (21, .if_icmp .ge 124, 3, [145], 0), (24, .aload_n 0, 1, [], 0), (25, .iload_n 1, 1, [], 0), (26, .aload_n 0, 1, [], 0), (27, .getfield 53, 3, [], 0), (30, .iload_n 3, 1, [], 0), (31, .iaload, 1, [], 0), (32, .aload_n 0, 1, [], 0), (33, .getfield 53, 3, [], 0), (36, .iload 4, 2, [], 0), (38, .iaload, 1, [], 0), (39, .invokevirtual 273, 3, [], 0), (42, .ifCond .eq 97, 3, [139], 0), (45, .aload_n 0, 1, [], 0), (46, .getfield 56, 3, [], 0), (49, .iload_n 1, 1, [], 0), (50, .aload_n 0, 1, [], 0), (51, .getfield 53, 3, [], 0), (54, .iload_n 3, 1, [], 0), (55, .iaload, 1, [], 0), (56, .iastore, 1, [], 0), (57, .aload_n 0, 1, [], 0), (58, .getfield 59, 3, [], 0), (61, .iload_n 1, 1, [], 0), (62, .aload_n 0, 1, [], 0), (63, .getfield 53, 3, [], 0), (66, .iload 4, 2, [], 0), (68, .iaload, 1, [], 0), (69, .iastore, 1, [], 0), (70, .aload_n 0, 1, [], 0), (71, .getfield 62, 3, [], 0), (74, .iload_n 1, 1, [], 0), (75, .iload_n 2, 1, [], 0), (76, .aload_n 0, 1, [], 0), (77, .getfield 22, 3, [], 0), (80, .aload_n 0, 1, [], 0), (81, .getfield 56, 3, [], 0), (84, .iload_n 1, 1, [], 0), (85, .iaload, 1, [], 0), (86, .iaload, 1, [], 0), (87, .aload_n 0, 1, [], 0), (88, .getfield 50, 3, [], 0), (91, .aload_n 0, 1, [], 0), (92, .getfield 56, 3, [], 0), (95, .iload_n 1, 1, [], 0), (96, .iaload, 1, [], 0), (97, .iaload, 1, [], 0), (98, .isub, 1, [], 0), (99, .aload_n 0, 1, [], 0), (100, .getfield 22, 3, [], 0), (103, .aload_n 0, 1, [], 0), (104, .getfield 59, 3, [], 0), (107, .iload_n 1, 1, [], 0), (108, .iaload, 1, [], 0), (109, .iaload, 1, [], 0), (110, .aload_n 0, 1, [], 0), (111, .getfield 50, 3, [], 0), (114, .aload_n 0, 1, [], 0), (115, .getfield 59, 3, [], 0), (118, .iload_n 1, 1, [], 0), (119, .iaload, 1, [], 0), (120, .iaload, 1, [], 0), (121, .isub, 1, [], 0), (122, .invokestatic 267, 3, [], 0), (125, .iadd, 1, [], 0), (126, .iastore, 1, [], 0), (127, .aload_n 0, 1, [], 0), (128, .iload 4, 2, [], 0), (130, .invokevirtual 276, 3, [], 0), (133, .aload_n 0, 1, [], 0), (134, .iload_n 3, 1, [], 0), (135, .invokevirtual 276, 3, [], 0), (138, .return_, 1, [], 0), (139, .iinc 4 1, 3, [], 1), (142, .goto (-127), 3, [15], 0), (145, .iinc 3 1, 3, [], 1), (148, .goto (-146), 3, [2], 0), (151, .return_, 1, [], 0)]
theorem tk_X9_takesOn : tbok m_X9_takesOn tb_X9_takesOn = true := by decide +kernel
def tb_X9_goesBy : List Row := [(0, .aload_n 0, 1, [], 0), (1, .iconst 0, 1, [], 0), (2, .putfield 264, 3, [], 0), (5, .iconst 0, 1, [], 0), (6, .istore_n 2, 1, [], 0), (7, .iload_n 2, 1, [], 0), (8, .aload_n 0, 1, [], 0), (9, .getfield 148, 3, [], 0), (12, .if_icmp .ge 33, 3, [45], 0), (15, .aload_n 0, 1, [], 0), (16, .getfield 50, 3, [], 0), (19, .iload_n 2, 1, [], 0), (20, .iconst 0, 1, [], 0), (21, .iastore, 1, [], 0), (22, .aload_n 0, 1, [], 0), (23, .getfield 53, 3, [], 0), (26, .iload_n 2, 1, [], 0), (27, .iload_n 2, 1, [], 0), (28, .iastore, 1, [], 0), (29, .aload_n 0, 1, [], 0), (30, .dup, 1, [], 0), (31, .getfield 264, 3, [], 0), (34, .iconst 1, 1, [], 1), (35, .iadd, 1, [], 0), (36, .putfield 264, 3, [], 0), (39, .iinc 2 1, 3, [], 1), (42, .goto (-35), 3, [7], 0), (45, .iconst 0, 1, [], 0), (46, .istore_n 2, 1, [], 0), (47, .iload_n 2, 1, [], 0), (48, .iconst 3, 1, [], 3), (49, .if_icmp .ge 17, 3, [66], 0), (52, .aload_n 0, 1, [], 0), (53, .getfield 56, 3, [], 0), (56, .iload_n 2, 1, [], 0), (57, .bipush (-9), 2, [], -9), (59, .iastore, 1, [], 0), (60, .iinc 2 1, 3, [], 1), (63, .goto (-16), 3, [47], 0), (66, .iconst 0, 1, [], 0), (67, .istore_n 2, 1, [], 0), (68, .iload_n 2, 1, [], 0), (69, .iload_n 1, 1, [], 0), (70, .if_icmp .ge 125, 3, [195], 0), (73, .iconst 0, 1, [], 0), (74, .istore_n 3, 1, [], 0), (75, .iload_n 3, 1, [], 0), (76, .aload_n 0, 1, [], 0), (77, .getfield 145, 3, [], 0), (80, .if_icmp .ge 52, 3, [132], 0), (83, .aload_n 0, 1, [], 0), (84, .getfield 56, 3, [], 0), (87, .iload_n 3, 1, [], 0), (88, .iaload, 1, [], 0), (89, .bipush (-9), 2, [], -9), (91, .if_icmp .eq 18, 3, [109], 0), (94, .aload_n 0, 1, [], 0), (95, .getfield 62, 3, [], 0), (98, .iload_n 3, 1, [], 0), (99, .iaload, 1, [], 0), (100, .iload_n 2, 1, [], 0), (101, .if_icmp .ne 8, 3, [109], 0), (104, .aload_n 0, 1, [], 0), (105, .iload_n 3, 1, [], 0), (106, .invokevirtual 279, 3, [], 0), (109, .aload_n 0, 1, [], 0), (110, .getfield 56, 3, [], 0), (113, .iload_n 3, 1, [], 0), (114, .iaload, 1, [], 0), (115, .bipush (-9), 2, [], -9), (117, .if_icmp .ne 9, 3, [126], 0), (120, .aload_n 0, 1, [], 0), (121, .iload_n 3, 1, [], 0), (122, .iload_n 2, 1, [], 0), (123, .invokevirtual 282, 3, [], 0), (126, .iinc 3 1, 3, [], 1), (129, .goto (-54), 3, [75], 0), (132, .iconst 0, 1, [], 0), (133, .istore_n 3, 1, [], 0), (134, .iload_n 3, 1, [], 0), (135, .aload_n 0, 1, [], 0), (136, .getfield 145, 3, [], 0), (139, .if_icmp .ge 50, 3, [189], 0), (142, .aload_n 0, 1, [], 0), (143, .getfield 56, 3, [], 0), (146, .iload_n 3, 1, [], 0), (147, .iaload, 1, [], 0), (148, .bipush (-9), 2, [], -9), (150, .if_icmp .eq 33, 3, [183], 0), (153, .aload_n 0, 1, [], 0), (154, .getfield 50, 3, [], 0), (157, .aload_n 0, 1, [], 0), (158, .getfield 56, 3, [], 0), (161, .iload_n 3, 1, [], 0), (162, .iaload, 1, [], 0), (163, .dup2, 1, [], 0), (164, .iaload, 1, [], 0), (165, .iconst 1, 1, [], 1), (166, .iadd, 1, [], 0), (167, .iastore, 1, [], 0), (168, .aload_n 0, 1, [], 0), (169, .getfield 50, 3, [], 0), (172, .aload_n 0, 1, [], 0), (173, .getfield 59, 3, [], 0), (176, .iload_n 3, 1, [], 0), (177, .iaload, 1, [], 0), (178, .dup2, 1, [], 0), (179, .iaload, 1, [], 0), (180, .iconst 1, 1, [], 1), (181, .iadd, 1, [], 0), (182, .iastore, 1, [], 0), (183, .iinc 3 1, 3, [], 1), (186, .goto (-52), 3, [134], 0), (189, .iinc 2 1, 3, [], 1), (192, .goto (-124), 3, [68], 0), (195, .return_, 1, [], 0)]
theorem tk_X9_goesBy : tbok m_X9_goesBy tb_X9_goesBy = true := by decide +kernel
def tb_X9_rides : List Row := [(0, .aload_n 0, 1, [], 0), (1, .iconst 0, 1, [], 0), (2, .putfield 72, 3, [], 0), (5, .iload_n 1, 1, [], 0), (6, .iconst 0, 1, [], 0), (7, .bipush 99, 2, [], 99), (9, .invokestatic 75, 3, [], 0), (12, .ifCond .eq 16, 3, [28], 0), (15, .iload_n 2, 1, [], 0), (16, .iconst (-1), 1, [], -1), (17, .if_icmp .eq 13, 3, [30], 0), (20, .aload_n 0, 1, [], 0), (21, .iload_n 2, 1, [], 0), (22, .invokevirtual 177, 3, [], 0), (25, .ifCond .ne 5, 3, [30], 0), (28, .iconst (-1), 1, [], -1), (29, .ireturn, 1, [], 0), (30, .aload_n 0, 1, [], 0), (31, .iload_n 1, 1, [], 0), (32, .invokevirtual 286, 3, [], 0), (35, .iload_n 2, 1, [], 0), (36, .iconst (-1), 1, [], -1), (37, .if_icmp .ne 10, 3, [47], 0), (40, .aload_n 0, 1, [], 0), (41, .getfield 264, 3, [], 0), (44, .goto 9, 3, [53], 0), (47, .aload_n 0, 1, [], 0), (48, .getfield 50, 3, [], 0), (51, .iload_n 2, 1, [], 0), (52, .iaload, 1, [], 0), (53, .ireturn, 1, [], 0)]
theorem tk_X9_rides : tbok m_X9_rides tb_X9_rides = true := by decide +kernel
def tb_X9_forever : List Row := [(0, .aload_n 0, 1, [], 0), (1, .iconst 0, 1, [], 0), (2, .putfield 72, 3, [], 0), (5, .iconst 0, 1, [], 0), (6, .istore_n 1, 1, [], 0), (7, .iconst 0, 1, [], 0), (8, .istore_n 2, 1, [], 0), (9, .iload_n 2, 1, [], 0), (10, .aload_n 0, 1, [], 0), (11, .getfield 148, 3, [], 0), (14, .if_icmp .ge 89, 3, [103], 0), (17, .iconst 0, 1, [], 0), (18, .istore_n 3, 1, [], 0), (19, .iconst 0, 1, [], 0), (20, .istore 4, 2, [], 0), (22, .iload 4, 2, [], 0), (24, .aload_n 0, 1, [], 0), (25, .getfield 148, 3, [], 0), (28, .if_icmp .ge 55, 3, [83], 0), (31, .iconst 0, 1, [], 0), (32, .istore 5, 2, [], 0), (34, .iload 5, 2, [], 0), (36, .aload_n 0, 1, [], 0), (37, .getfield 145, 3, [], 0), (40, .if_icmp .ge 37, 3, [77], 0), (43, .iload_n 3, 1, [], 0), (44, .ifCond .ne 21, 3, [65], 0), (47, .iload_n 2, 1, [], 0), (48, .iload 4, 2, [], 0), (50, .if_icmp .eq 19, 3, [69], 0), (53, .aload_n 0, 1, [], 0), (54, .iload 5, 2, [], 0), (56, .iload_n 2, 1, [], 0), (57, .iload 4, 2, [], 0), (59, .invokevirtual 273, 3, [], 0), (62, .ifCond .eq 7, 3, [69], 0), (65, .iconst 1, 1, [], 1), (66, .goto 4, 3, [70], 0), (69, .iconst 0, 1, [], 0), (70, .istore_n 3, 1, [], 0), (71, .iinc 5 1, 3, [], 1), (74, .goto (-40), 3, [34], 0), (77, .iinc 4 1, 3, [], 1), (80, .goto (-58), 3, [22], 0), (83, .iload_n 1, 1, [], 0), (84, .iload_n 3, 1, [], 0), (85, .ifCond .eq 7, 3, [92], 0), (88, .iconst 0, 1, [], 0), (89, .goto 6, 3, [95], 0), (92, .iconst 1, 1, [], 1), (93, .iload_n 2, 1, [], 0), (94, .ishl, 1, [], 0), (95, .ior, 1, [], 0), (96, .istore_n 1, 1, [], 0), (97, .iinc 2 1, 3, [], 1), (100, .goto (-91), 3, [9], 0), (103, .iload_n 1, 1, [], 0), (104, .ireturn, 1, [], 0)]
theorem tk_X9_forever : tbok m_X9_forever tb_X9_forever = true := by decide +kernel
def tb_X9_rate : List Row := [(0, .aload_n 0, 1, [], 0), (1, .iconst 0, 1, [], 0), (2, .putfield 72, 3, [], 0), (5, .iload_n 1, 1, [], 0), (6, .iconst 0, 1, [], 0), (7, .iconst 5, 1, [], 5), (8, .invokestatic 75, 3, [], 0), (11, .ifCond .eq 11, 3, [22], 0), (14, .aload_n 0, 1, [], 0), (15, .iload_n 2, 1, [], 0), (16, .invokevirtual 177, 3, [], 0), (19, .ifCond .ne 6, 3, [25], 0), (22, .ldc 170, 2, [], 0), (24, .ireturn, 1, [], 0), (25, .aload_n 0, 1, [], 0), (26, .getfield 19, 3, [], 0), (29, .iload_n 2, 1, [], 0), (30, .iaload, 1, [], 0), (31, .aload_n 0, 1, [], 0), (32, .getfield 28, 3, [], 0), (35, .bipush 16, 2, [], 16), (37, .iload_n 2, 1, [], 0), (38, .iadd, 1, [], 0), (39, .iaload, 1, [], 0), (40, .iadd, 1, [], 0), (41, .istore_n 3, 1, [], 0), (42, .aload_n 0, 1, [], 0), (43, .getfield 19, 3, [], 0), (46, .iload_n 2, 1, [], 0), (47, .iaload, 1, [], 0), (48, .aload_n 0, 1, [], 0), (49, .getfield 28, 3, [], 0), (52, .bipush 8, 2, [], 8), (54, .iload_n 2, 1, [], 0), (55, .iadd, 1, [], 0), (56, .iaload, 1, [], 0), (57, .isub, 1, [], 0), (58, .istore 4, 2, [], 0), (60, .aload_n 0, 1, [], 0), (61, .dup, 1, [], 0), (62, .getfield 289, 3, [], 0), (65, .iload_n 1, 1, [], 0), (66, .ifCond .ne 7, 3, [73], 0), (69, .lconst 1, 1, [], 0), (70, .goto 50, 3, [120], 0), (73, .iload_n 1, 1, [], 0), (74, .iconst 1, 1, [], 1), (75, .if_icmp .ne 9, 3, [84], 0), (78, .ldc2_w 293, 3, [], 0), (81, .goto 39, 3, [120], 0), (84, .iload_n 1, 1, [], 0), (85, .iconst 2, 1, [], 2), (86, .if_icmp .ne 9, 3, [95], 0), (89, .ldc2_w 295, 3, [], 0), (92, .goto 28, 3, [120], 0), (95, .iload_n 1, 1, [], 0), (96, .iconst 3, 1, [], 3), (97, .if_icmp .ne 9, 3, [106], 0), (100, .ldc2_w 297, 3, [], 0), (103, .goto 17, 3, [120], 0), (106, .iload_n 1, 1, [], 0), (107, .iconst 4, 1, [], 4), (108, .if_icmp .ne 9, 3, [117], 0), (111, .ldc2_w 299, 3, [], 0), (114, .goto 6, 3, [120], 0), (117, .ldc2_w 301, 3, [], 0), (120, .ladd, 1, [], 0), (121, .putfield 289, 3, [], 0), (124, .iload_n 1, 1, [], 0), (125, .ifCond .ne 12, 3, [137], 0), (128, .aload_n 0, 1, [], 0), (129, .getfield 19, 3, [], 0), (132, .iload_n 2, 1, [], 0), (133, .iaload, 1, [], 0), (134, .goto 58, 3, [192], 0), (137, .iload_n 1, 1, [], 0), (138, .iconst 1, 1, [], 1), (139, .if_icmp .ne 7, 3, [146], 0), (142, .iload_n 3, 1, [], 0), (143, .goto 49, 3, [192], 0), (146, .iload_n 1, 1, [], 0), (147, .iconst 2, 1, [], 2), (148, .if_icmp .ne 8, 3, [156], 0), (151, .iload 4, 2, [], 0), (153, .goto 39, 3, [192], 0), (156, .iload_n 1, 1, [], 0), (157, .iconst 3, 1, [], 3), (158, .if_icmp .ne 9, 3, [167], 0), (161, .iconst 2, 1, [], 2), (162, .iload_n 3, 1, [], 0), (163, .imul, 1, [], 0), (164, .goto 28, 3, [192], 0), (167, .iload_n 1, 1, [], 0), (168, .iconst 4, 1, [], 4), (169, .if_icmp .ne 15, 3, [184], 0), (172, .iload 4, 2, [], 0), (174, .aload_n 0, 1, [], 0), (175, .getfield 22, 3, [], 0), (178, .iload_n 2, 1, [], 0), (179, .iaload, 1, [], 0), (180, .iadd, 1, [], 0), (181, .goto 11, 3, [192], 0), (184, .aload_n 0, 1, [], 0), (185, .getfield 19, 3, [], 0), (188, .iload_n 2, 1, [], 0), (189, .iaload, 1, [], 0), (190, .iload_n 2, 1, [], 0), (191, .isub, 1, [], 0), (192, .ireturn, 1, [], 0)]
theorem tk_X9_rate : tbok m_X9_rate tb_X9_rate = true := by decide +kernel
def tb_X9_sitting : List Row := [(0, .iconst 0, 1, [], 0), (1, .istore_n 1, 1, [], 0), (2, .iconst 0, 1, [], 0), (3, .istore_n 2, 1, [], 0), (4, .iload_n 2, 1, [], 0), (5, .aload_n 0, 1, [], 0), (6, .getfield 148, 3, [], 0), (9, .if_icmp .ge 30, 3, [39], 0), (12, .iload_n 1, 1, [], 0), (13, .aload_n 0, 1, [], 0), (14, .getfield 28, 3, [], 0), (17, .iconst 0, 1, [], 0), (18, .iload_n 2, 1, [], 0), (19, .iadd, 1, [], 0), (20, .iaload, 1, [], 0), (21, .bipush (-9), 2, [], -9), (23, .if_icmp .eq 7, 3, [30], 0), (26, .iconst 1, 1, [], 1), (27, .goto 4, 3, [31], 0), (30, .iconst 0, 1, [], 0), (31, .iadd, 1, [], 0), (32, .istore_n 1, 1, [], 0), (33, .iinc 2 1, 3, [], 1), (36, .goto (-32), 3, [4], 0), (39, .iload_n 1, 1, [], 0), (40, .ireturn, 1, [], 0)]
theorem tk_X9_sitting : tbok m_X9_sitting tb_X9_sitting = true := by decide +kernel
def tb_X9_keep : List Row := [(0, .aload_n 0, 1, [], 0), (1, .iconst 0, 1, [], 0), (2, .putfield 72, 3, [], 0), (5, .iload_n 1, 1, [], 0), (6, .iconst 0, 1, [], 0), (7, .iconst 1, 1, [], 1), (8, .invokestatic 75, 3, [], 0), (11, .ifCond .ne 5, 3, [16], 0), (14, .iconst (-1), 1, [], -1), (15, .ireturn, 1, [], 0), (16, .iconst 0, 1, [], 0), (17, .istore_n 2, 1, [], 0), (18, .iload_n 2, 1, [], 0), (19, .bipush 34, 2, [], 34), (21, .if_icmp .ge 26, 3, [47], 0), (24, .aload_n 0, 1, [], 0), (25, .getfield 31, 3, [], 0), (28, .bipush 34, 2, [], 34), (30, .iload_n 1, 1, [], 0), (31, .imul, 1, [], 0), (32, .iload_n 2, 1, [], 0), (33, .iadd, 1, [], 0), (34, .aload_n 0, 1, [], 0), (35, .getfield 28, 3, [], 0), (38, .iload_n 2, 1, [], 0), (39, .iaload, 1, [], 0), (40, .iastore, 1, [], 0), (41, .iinc 2 1, 3, [], 1), (44, .goto (-26), 3, [18], 0), (47, .aload_n 0, 1, [], 0), (48, .getfield 34, 3, [], 0), (51, .iload_n 1, 1, [], 0), (52, .iconst 1, 1, [], 1), (53, .bastore, 1, [], 0), (54, .aload_n 0, 1, [], 0), (55, .invokevirtual 303, 3, [], 0), (58, .ireturn, 1, [], 0)]
theorem tk_X9_keep : tbok m_X9_keep tb_X9_keep = true := by decide +kernel
def tb_X9_back : List Row := [(0, .aload_n 0, 1, [], 0), (1, .iconst 0, 1, [], 0), (2, .putfield 72, 3, [], 0), (5, .iload_n 1, 1, [], 0), (6, .iconst 0, 1, [], 0), (7, .iconst 1, 1, [], 1), (8, .invokestatic 75, 3, [], 0), (11, .ifCond .ne 5, 3, [16], 0), (14, .iconst (-1), 1, [], -1), (15, .ireturn, 1, [], 0), (16, .aload_n 0, 1, [], 0), (17, .getfield 34, 3, [], 0), (20, .iload_n 1, 1, [], 0), (21, .baload, 1, [], 0), (22, .ifCond .ne 6, 3, [28], 0), (25, .bipush (-2), 2, [], -2), (27, .ireturn, 1, [], 0), (28, .iconst 0, 1, [], 0), (29, .istore_n 2, 1, [], 0), (30, .iload_n 2, 1, [], 0), (31, .bipush 34, 2, [], 34), (33, .if_icmp .ge 26, 3, [59], 0), (36, .aload_n 0, 1, [], 0), (37, .getfield 28, 3, [], 0), (40, .iload_n 2, 1, [], 0), (41, .aload_n 0, 1, [], 0), (42, .getfield 31, 3, [], 0), (45, .bipush 34, 2, [], 34), (47, .iload_n 1, 1, [], 0), (48, .imul, 1, [], 0), (49, .iload_n 2, 1, [], 0), (50, .iadd, 1, [], 0), (51, .iaload, 1, [], 0), (52, .iastore, 1, [], 0), (53, .iinc 2 1, 3, [], 1), (56, .goto (-26), 3, [30], 0), (59, .aload_n 0, 1, [], 0), (60, .invokevirtual 303, 3, [], 0), (63, .ireturn, 1, [], 0)]
theorem tk_X9_back : tbok m_X9_back tb_X9_back = true := by decide +kernel
def tb_X9_count : List Row := [(0, .aload_n 0, 1, [], 0), (1, .iconst 0, 1, [], 0), (2, .putfield 72, 3, [], 0), (5, .iload_n 1, 1, [], 0), (6, .ifCond .ne 10, 3, [16], 0), (9, .aload_n 0, 1, [], 0), (10, .getfield 145, 3, [], 0), (13, .goto 77, 3, [90], 0), (16, .iload_n 1, 1, [], 0), (17, .iconst 1, 1, [], 1), (18, .if_icmp .ne 10, 3, [28], 0), (21, .aload_n 0, 1, [], 0), (22, .getfield 148, 3, [], 0), (25, .goto 65, 3, [90], 0), (28, .iload_n 1, 1, [], 0), (29, .iconst 2, 1, [], 2), (30, .if_icmp .ne 10, 3, [40], 0), (33, .aload_n 0, 1, [], 0), (34, .getfield 151, 3, [], 0), (37, .goto 53, 3, [90], 0), (40, .iload_n 1, 1, [], 0), (41, .iconst 3, 1, [], 3), (42, .if_icmp .ne 10, 3, [52], 0), (45, .aload_n 0, 1, [], 0), (46, .getfield 243, 3, [], 0), (49, .goto 41, 3, [90], 0), (52, .iload_n 1, 1, [], 0), (53, .iconst 4, 1, [], 4), (54, .if_icmp .ne 10, 3, [64], 0), (57, .aload_n 0, 1, [], 0), (58, .getfield 65, 3, [], 0), (61, .goto 29, 3, [90], 0), (64, .iload_n 1, 1, [], 0), (65, .iconst 5, 1, [], 5), (66, .if_icmp .ne 10, 3, [76], 0), (69, .aload_n 0, 1, [], 0), (70, .getfield 79, 3, [], 0), (73, .goto 17, 3, [90], 0), (76, .iload_n 1, 1, [], 0), (77, .bipush 6, 2, [], 6), (79, .if_icmp .ne 10, 3, [89], 0), (82, .aload_n 0, 1, [], 0), (83, .invokevirtual 303, 3, [], 0), (86, .goto 4, 3, [90], 0), (89, .iconst (-1), 1, [], -1), (90, .ireturn, 1, [], 0)]
theorem tk_X9_count : tbok m_X9_count tb_X9_count = true := by decide +kernel
def tb_X9_trace : List Row := [(0, .aload_n 0, 1, [], 0), (1, .iconst 0, 1, [], 0), (2, .putfield 72, 3, [], 0), (5, .aload_n 0, 1, [], 0), (6, .getfield 289, 3, [], 0), (9, .lreturn, 1, [], 0)]
theorem tk_X9_trace : tbok m_X9_trace tb_X9_trace = true := by decide +kernel
end
section
set_option maxRecDepth 100000 in
theorem g_X0_begin_0 {G : GG} {d : Nat} {Post : Option Value → PM → Prop} {M : PM} {x3 : Int32} (h : (¬ (nI 0) < 0 ∧ ¬ (nI 0) < 0 ∧ ¬ (nI 8) < 0 ∧ (nI 0).toNatClampNeg + (nI 8).toNatClampNeg ≤ 8 ∧ (nI 0).toNatClampNeg + (nI 8).toNatClampNeg ≤ 8) ∧ (vp_in x3 3 ∧ (vp_in x3 3 ∧ (PX G d m_X0_begin Post 49 [some (.ref 41), none, some (.ref 7), some (.int x3), some (.int (M.1 2 x3.toNatClampNeg)), some (.int (nI 0)), none] [] (wI (wI (cpI (wI M 41 2 (M.1 1 6)) 42 4 (nI 0).toNatClampNeg (nI 0).toNatClampNeg (nI 8).toNatClampNeg) 41 4 (M.1 3 x3.toNatClampNeg)) 41 3 (nI 0)))))) :
  PX G d m_X0_begin Post 0 [some (.ref 41), some (.ref 1), some (.ref 7), some (.int x3), none, none, none] [] M := wp_ok [(49, [true, false, true, true, true, true, false])] ok_X0_begin tk_X0_begin 300 _ _ _ _ h
set_option maxRecDepth 100000 in
theorem g_X0_begin_49 {G : GG} {d : Nat} {Post : Option Value → PM → Prop} {M : PM} {x3 : Int32} {x4 : Int32} {x5 : Int32} (h : br (((nI 2) * x4) ≤ x5)
    (Post none M)
    (PC G d m_X8_stepOfSeat [.int x5, .int x4] M (fun v N1 => gI v (fun r1 => PC G d m_X4_hasChildAt [.ref 7, .int x3, .int r1] N1 (fun v N2 => gI v (fun r2 => br (r2 = 0)
      (vp_in (N2.1 41 3) 8 ∧ (PX G d m_X0_begin Post 49 [some (.ref 41), none, some (.ref 7), some (.int x3), some (.int x4), some (.int (x5 + nI 1)), none] [] (wI (wI N2 43 ((N2.1 41 3).toNatClampNeg) r1) 41 3 ((N2.1 41 3) + (nI 1)))))
      (PX G d m_X0_begin Post 49 [some (.ref 41), none, some (.ref 7), some (.int x3), some (.int x4), some (.int (x5 + nI 1)), none] [] N2))))))) :
  PX G d m_X0_begin Post 49 [some (.ref 41), none, some (.ref 7), some (.int x3), some (.int x4), some (.int x5), none] [] M := wp_ok [(49, [true, false, true, true, true, true, false])] ok_X0_begin tk_X0_begin 300 _ _ _ _ h
set_option maxRecDepth 100000 in
theorem g_X0_winningMove_0 {G : GG} {d : Nat} {Post : Option Value → PM → Prop} {M : PM} {x1 : Int32} {x2 : Int32} (h : PC G d m_X0_moveFrom [.ref 41, .int x1, .int (nI 0), .int x2, .int (nI 0)] M (fun v N1 => gI v (fun r1 => Post (some (.int r1)) N1))) :
  PX G d m_X0_winningMove Post 0 [some (.ref 41), some (.int x1), some (.int x2)] [] M := wp_ok [] ok_X0_winningMove tk_X0_winningMove 300 _ _ _ _ h
set_option maxRecDepth 100000 in
theorem g_X0_moveFrom_0 {G : GG} {d : Nat} {Post : Option Value → PM → Prop} {M : PM} {x1 : Int32} {x2 : Int32} {x3 : Int32} {x4 : Int32} (h : br (x4 ≤ (nI 4))
    (PX G d m_X0_moveFrom Post 11 [some (.ref 41), some (.int x1), some (.int x2), some (.int x3), some (.int x4), some (.int (nI 0)), none, none] [] M)
    (Post (some (.int (-1))) M)) :
  PX G d m_X0_moveFrom Post 0 [some (.ref 41), some (.int x1), some (.int x2), some (.int x3), some (.int x4), none, none, none] [] M := wp_ok [(11, [true, true, true, true, true, true, false, false]), (35, [true, true, true, true, true, true, true, false])] ok_X0_moveFrom tk_X0_moveFrom 300 _ _ _ _ h
set_option maxRecDepth 100000 in
theorem g_X0_moveFrom_11 {G : GG} {d : Nat} {Post : Option Value → PM → Prop} {M : PM} {x1 : Int32} {x2 : Int32} {x3 : Int32} {x4 : Int32} {x5 : Int32} (h : br ((M.1 41 2) ≤ x5)
    (Post (some (.int (-1))) M)
    (br ((x1 &&& ((nI 1) <<< (x5 &&& 31))) = 0)
      (PX G d m_X0_moveFrom Post 11 [some (.ref 41), some (.int x1), some (.int x2), some (.int x3), some (.int x4), some (.int (x5 + nI 1)), none, none] [] M)
      (PX G d m_X0_moveFrom Post 35 [some (.ref 41), some (.int x1), some (.int x2), some (.int x3), some (.int x4), some (.int x5), some (.int (nI 0)), none] [] M))) :
  PX G d m_X0_moveFrom Post 11 [some (.ref 41), some (.int x1), some (.int x2), some (.int x3), some (.int x4), some (.int x5), none, none] [] M := wp_ok [(11, [true, true, true, true, true, true, false, false]), (35, [true, true, true, true, true, true, true, false])] ok_X0_moveFrom tk_X0_moveFrom 300 _ _ _ _ h
set_option maxRecDepth 100000 in
theorem g_X0_moveFrom_35 {G : GG} {d : Nat} {Post : Option Value → PM → Prop} {M : PM} {x1 : Int32} {x2 : Int32} {x3 : Int32} {x4 : Int32} {x5 : Int32} {x6 : Int32} (h : br ((M.1 41 3) ≤ x6)
    (PX G d m_X0_moveFrom Post 11 [some (.ref 41), some (.int x1), some (.int x2), some (.int x3), some (.int x4), some (.int (x5 + nI 1)), none, none] [] M)
    (vp_in x5 8 ∧ (vp_in x6 8 ∧ (br ((x2 &&& ((nI 1) <<< (x6 &&& 31))) = 0)
      (br ((M.1 41 4) < (if 0 ≤ (x3 + ((M.1 42 x5.toNatClampNeg) * (M.1 43 x6.toNatClampNeg))) then (x3 + ((M.1 42 x5.toNatClampNeg) * (M.1 43 x6.toNatClampNeg))) else 0 - (x3 + ((M.1 42 x5.toNatClampNeg) * (M.1 43 x6.toNatClampNeg)))))
        (PX G d m_X0_moveFrom Post 35 [some (.ref 41), some (.int x1), some (.int x2), some (.int x3), some (.int x4), some (.int x5), some (.int (x6 + nI 1)), none] [] M)
        (PC G d m_X0_moveFrom [.ref 41, .int (x1 ^^^ ((nI 1) <<< (x5 &&& 31))), .int (x2 ||| ((nI 1) <<< (x6 &&& 31))), .int (x3 + ((M.1 42 x5.toNatClampNeg) * (M.1 43 x6.toNatClampNeg))), .int (x4 + (nI 1))] M (fun v N1 => gI v (fun r1 => br (r1 = (-1 : Int32))
          (vp_in x6 8 ∧ (Post (some (.int ((((nI 100) * x5) + (N1.1 43 x6.toNatClampNeg)) + (nI 4)))) N1))
          (PX G d m_X0_moveFrom Post 35 [some (.ref 41), some (.int x1), some (.int x2), some (.int x3), some (.int x4), some (.int x5), some (.int (x6 + nI 1)), none] [] N1)))))
      (PX G d m_X0_moveFrom Post 35 [some (.ref 41), some (.int x1), some (.int x2), some (.int x3), some (.int x4), some (.int x5), some (.int (x6 + nI 1)), none] [] M))))) :
  PX G d m_X0_moveFrom Post 35 [some (.ref 41), some (.int x1), some (.int x2), some (.int x3), some (.int x4), some (.int x5), some (.int x6), none] [] M := wp_ok [(11, [true, true, true, true, true, true, false, false]), (35, [true, true, true, true, true, true, true, false])] ok_X0_moveFrom tk_X0_moveFrom 300 _ _ _ _ h
set_option maxRecDepth 100000 in
theorem g_X1_spread_0 {G : GG} {d : Nat} {Post : Option Value → PM → Prop} {M : PM} {x2 : Int32} (h : PX G d m_X1_spread Post 10 [some (.ref 39), some (.ref 1), some (.int x2), some (.int ((nI 1) <<< ((M.1 1 6) &&& 31))), some (.int (nI 0)), none, none, none] [] M) :
  PX G d m_X1_spread Post 0 [some (.ref 39), some (.ref 1), some (.int x2), none, none, none, none, none] [] M := wp_ok [(10, [true, true, true, true, true, false, false, false]), (54, [true, true, false, true, true, true, false, false]), (77, [true, true, false, true, true, true, true, true])] ok_X1_spread tk_X1_spread 300 _ _ _ _ h
set_option maxRecDepth 100000 in
theorem g_X1_spread_10 {G : GG} {d : Nat} {Post : Option Value → PM → Prop} {M : PM} {x2 : Int32} {x3 : Int32} {x4 : Int32} (h : br ((x3 * (nI 19)) ≤ x4)
    (vp_in (nI 9) 4864 ∧ (vp_in x2 3 ∧ (PX G d m_X1_spread Post 54 [some (.ref 39), some (.ref 1), none, some (.int x3), some (.int (M.1 2 x2.toNatClampNeg)), some (.int (nI 0)), none, none] [] (wL M 40 ((nI 9).toNatClampNeg) 16777216))))
    (vp_in x4 4864 ∧ (PX G d m_X1_spread Post 10 [some (.ref 39), some (.ref 1), some (.int x2), some (.int x3), some (.int (x4 + nI 1)), none, none, none] [] (wL M 40 x4.toNatClampNeg 0)))) :
  PX G d m_X1_spread Post 10 [some (.ref 39), some (.ref 1), some (.int x2), some (.int x3), some (.int x4), none, none, none] [] M := wp_ok [(10, [true, true, true, true, true, false, false, false]), (54, [true, true, false, true, true, true, false, false]), (77, [true, true, false, true, true, true, true, true])] ok_X1_spread tk_X1_spread 300 _ _ _ _ h
set_option maxRecDepth 100000 in
theorem g_X1_spread_54 {G : GG} {d : Nat} {Post : Option Value → PM → Prop} {M : PM} {x3 : Int32} {x4 : Int32} {x5 : Int32} (h : br (((nI 2) * x4) ≤ x5)
    (Post none M)
    (PC G d m_X8_stepOfSeat [.int x5, .int x4] M (fun v N1 => gI v (fun r1 => PX G d m_X1_spread Post 77 [some (.ref 39), some (.ref 1), none, some (.int x3), some (.int x4), some (.int x5), some (.int r1), some (.int (x3 - (nI 1)))] [] N1)))) :
  PX G d m_X1_spread Post 54 [some (.ref 39), some (.ref 1), none, some (.int x3), some (.int x4), some (.int x5), none, none] [] M := wp_ok [(10, [true, true, true, true, true, false, false, false]), (54, [true, true, false, true, true, true, false, false]), (77, [true, true, false, true, true, true, true, true])] ok_X1_spread tk_X1_spread 300 _ _ _ _ h
set_option maxRecDepth 100000 in
theorem g_X1_spread_77 {G : GG} {d : Nat} {Post : Option Value → PM → Prop} {M : PM} {x3 : Int32} {x4 : Int32} {x5 : Int32} {x6 : Int32} {x7 : Int32} (h : br (x7 ≤ 0)
    (PX G d m_X1_spread Post 54 [some (.ref 39), some (.ref 1), none, some (.int x3), some (.int x4), some (.int (x5 + nI 1)), none, none] [] M)
    (PC G d m_X1_addSeatOf [.ref 39, .ref 1, .int x7, .int x6] M (fun v N1 => gN v (PX G d m_X1_spread Post 77 [some (.ref 39), some (.ref 1), none, some (.int x3), some (.int x4), some (.int x5), some (.int x6), some (.int (x7 + (-1)))] [] N1)))) :
  PX G d m_X1_spread Post 77 [some (.ref 39), some (.ref 1), none, some (.int x3), some (.int x4), some (.int x5), some (.int x6), some (.int x7)] [] M := wp_ok [(10, [true, true, true, true, true, false, false, false]), (54, [true, true, false, true, true, true, false, false]), (77, [true, true, false, true, true, true, true, true])] ok_X1_spread tk_X1_spread 300 _ _ _ _ h
set_option maxRecDepth 100000 in
theorem g_X1_addSeatOf_0 {G : GG} {d : Nat} {Post : Option Value → PM → Prop} {M : PM} {x2 : Int32} {x3 : Int32} (h : PX G d m_X1_addSeatOf Post 3 [some (.ref 39), some (.ref 1), some (.int x2), some (.int x3), some (.int (nI 0))] [] M) :
  PX G d m_X1_addSeatOf Post 0 [some (.ref 39), some (.ref 1), some (.int x2), some (.int x3), none] [] M := wp_ok [(3, [true, true, true, true, true])] ok_X1_addSeatOf tk_X1_addSeatOf 300 _ _ _ _ h
set_option maxRecDepth 100000 in
theorem g_X1_addSeatOf_3 {G : GG} {d : Nat} {Post : Option Value → PM → Prop} {M : PM} {x2 : Int32} {x3 : Int32} {x4 : Int32} (h : br ((M.1 1 6) ≤ x4)
    (Post none M)
    (br ((x2 &&& ((nI 1) <<< (x4 &&& 31))) = 0)
      (PX G d m_X1_addSeatOf Post 3 [some (.ref 39), some (.ref 1), some (.int x2), some (.int x3), some (.int (x4 + nI 1))] [] M)
      (vp_in x4 8 ∧ (PC G d m_X1_mergeShifted [.ref 39, .int x2, .int (x2 ^^^ ((nI 1) <<< (x4 &&& 31))), .int ((M.1 4 x4.toNatClampNeg) * x3)] M (fun v N1 => gN v (PX G d m_X1_addSeatOf Post 3 [some (.ref 39), some (.ref 1), some (.int x2), some (.int x3), some (.int (x4 + nI 1))] [] N1)))))) :
  PX G d m_X1_addSeatOf Post 3 [some (.ref 39), some (.ref 1), some (.int x2), some (.int x3), some (.int x4)] [] M := wp_ok [(3, [true, true, true, true, true])] ok_X1_addSeatOf tk_X1_addSeatOf 300 _ _ _ _ h
set_option maxRecDepth 100000 in
theorem g_X1_mergeShifted_0 {G : GG} {d : Nat} {Post : Option Value → PM → Prop} {M : PM} {x1 : Int32} {x2 : Int32} {x3 : Int32} (h : PX G d m_X1_mergeShifted Post 15 [some (.ref 39), some (.int x1), some (.int x2), none, some (.int (x3 >>> ((nI 6) &&& 31))), some (.int (x3 &&& (nI 63))), some (.int (nI 0)), none, none] [] M) :
  PX G d m_X1_mergeShifted Post 0 [some (.ref 39), some (.int x1), some (.int x2), some (.int x3), none, none, none, none, none] [] M := wp_ok [(15, [true, true, true, false, true, true, true, false, false])] ok_X1_mergeShifted tk_X1_mergeShifted 300 _ _ _ _ h
set_option maxRecDepth 100000 in
theorem g_X1_mergeShifted_15 {G : GG} {d : Nat} {Post : Option Value → PM → Prop} {M : PM} {x1 : Int32} {x2 : Int32} {x4 : Int32} {x5 : Int32} {x6 : Int32} (h : br ((nI 19) ≤ x6)
    (Post none M)
    (PC G d m_X1_wordAt [.ref 39, .int x2, .int (x6 - x4)] M (fun v N1 => gL v (fun r1 => br (x5 = 0)
      (vp_in ((x1 * (nI 19)) + x6) 4864 ∧ (vp_in ((x1 * (nI 19)) + x6) 4864 ∧ (PX G d m_X1_mergeShifted Post 15 [some (.ref 39), some (.int x1), some (.int x2), none, some (.int x4), some (.int x5), some (.int (x6 + nI 1)), none, none] [] (wL N1 40 (((x1 * (nI 19)) + x6).toNatClampNeg) ((N1.2 40 (((x1 * (nI 19)) + x6).toNatClampNeg)) ||| (r1 <<< (x5.toInt64 &&& 63)))))))
      (PC G d m_X1_wordAt [.ref 39, .int x2, .int ((x6 - x4) - (nI 1))] N1 (fun v N2 => gL v (fun r2 => vp_in ((x1 * (nI 19)) + x6) 4864 ∧ (vp_in ((x1 * (nI 19)) + x6) 4864 ∧ (PX G d m_X1_mergeShifted Post 15 [some (.ref 39), some (.int x1), some (.int x2), none, some (.int x4), some (.int x5), some (.int (x6 + nI 1)), none, none] [] (wL N2 40 (((x1 * (nI 19)) + x6).toNatClampNeg) ((N2.2 40 (((x1 * (nI 19)) + x6).toNatClampNeg)) ||| ((r1 <<< (x5.toInt64 &&& 63)) ||| ((r2.toUInt64 >>> (((nI 64) - x5).toInt64.toUInt64 &&& Int64.toUInt64 63)).toInt64))))))))))))) :
  PX G d m_X1_mergeShifted Post 15 [some (.ref 39), some (.int x1), some (.int x2), none, some (.int x4), some (.int x5), some (.int x6), none, none] [] M := wp_ok [(15, [true, true, true, false, true, true, true, false, false])] ok_X1_mergeShifted tk_X1_mergeShifted 300 _ _ _ _ h
set_option maxRecDepth 100000 in
theorem g_X1_wordAt_0 {G : GG} {d : Nat} {Post : Option Value → PM → Prop} {M : PM} {x1 : Int32} {x2 : Int32} (h : br (x2 < 0)
    (Post (some (.long 0)) M)
    (br ((nI 19) ≤ x2)
      (Post (some (.long 0)) M)
      (vp_in ((x1 * (nI 19)) + x2) 4864 ∧ (Post (some (.long (M.2 40 (((x1 * (nI 19)) + x2).toNatClampNeg)))) M)))) :
  PX G d m_X1_wordAt Post 0 [some (.ref 39), some (.int x1), some (.int x2)] [] M := wp_ok [] ok_X1_wordAt tk_X1_wordAt 300 _ _ _ _ h
set_option maxRecDepth 100000 in
theorem g_X1_largestLevel_0 {G : GG} {d : Nat} {Post : Option Value → PM → Prop} {M : PM} {x1 : Int32} {x2 : Int32} {x3 : Int32} (h : PX G d m_X1_largestLevel Post 3 [some (.ref 39), some (.int x1), some (.int x2), some (.int x3), some (.int x1), none] [] M) :
  PX G d m_X1_largestLevel Post 0 [some (.ref 39), some (.int x1), some (.int x2), some (.int x3), none, none] [] M := wp_ok [(3, [true, true, true, true, true, false]), (11, [true, true, true, true, true, true])] ok_X1_largestLevel tk_X1_largestLevel 300 _ _ _ _ h
set_option maxRecDepth 100000 in
theorem g_X1_largestLevel_3 {G : GG} {d : Nat} {Post : Option Value → PM → Prop} {M : PM} {x1 : Int32} {x2 : Int32} {x3 : Int32} {x4 : Int32} (h : br (x4 < 0)
    (Post (some (.int (-1))) M)
    (PX G d m_X1_largestLevel Post 11 [some (.ref 39), some (.int x1), some (.int x2), some (.int x3), some (.int x4), some (.int (nI 0))] [] M)) :
  PX G d m_X1_largestLevel Post 3 [some (.ref 39), some (.int x1), some (.int x2), some (.int x3), some (.int x4), none] [] M := wp_ok [(3, [true, true, true, true, true, false]), (11, [true, true, true, true, true, true])] ok_X1_largestLevel tk_X1_largestLevel 300 _ _ _ _ h
set_option maxRecDepth 100000 in
theorem g_X1_largestLevel_11 {G : GG} {d : Nat} {Post : Option Value → PM → Prop} {M : PM} {x1 : Int32} {x2 : Int32} {x3 : Int32} {x4 : Int32} {x5 : Int32} (h : br (((nI 1) <<< (x1 &&& 31)) ≤ x5)
    (PX G d m_X1_largestLevel Post 3 [some (.ref 39), some (.int x1), some (.int x2), some (.int x3), some (.int (x4 + (-1))), none] [] M)
    (PC G d m_J6_bitCount_0f7a4 [.int x5] M (fun v N1 => gI v (fun r1 => br (r1 = x4)
      (PC G d m_X1_canLevel [.ref 39, .int x5, .int x2, .int x3] N1 (fun v N2 => gI v (fun r2 => br (r2 = 0)
        (PX G d m_X1_largestLevel Post 11 [some (.ref 39), some (.int x1), some (.int x2), some (.int x3), some (.int x4), some (.int (x5 + nI 1))] [] N2)
        (Post (some (.int x5)) N2))))
      (PX G d m_X1_largestLevel Post 11 [some (.ref 39), some (.int x1), some (.int x2), some (.int x3), some (.int x4), some (.int (x5 + nI 1))] [] N1))))) :
  PX G d m_X1_largestLevel Post 11 [some (.ref 39), some (.int x1), some (.int x2), some (.int x3), some (.int x4), some (.int x5)] [] M := wp_ok [(3, [true, true, true, true, true, false]), (11, [true, true, true, true, true, true])] ok_X1_largestLevel tk_X1_largestLevel 300 _ _ _ _ h
set_option maxRecDepth 100000 in
theorem g_X1_canLevel_0 {G : GG} {d : Nat} {Post : Option Value → PM → Prop} {M : PM} {x1 : Int32} {x2 : Int32} {x3 : Int32} (h : PX G d m_X1_canLevel Post 6 [some (.ref 39), some (.int x1), some (.int x2), some (.int x3), some (.int ((-x2) - x3)), none] [] M) :
  PX G d m_X1_canLevel Post 0 [some (.ref 39), some (.int x1), some (.int x2), some (.int x3), none, none] [] M := wp_ok [(6, [true, true, true, true, true, false])] ok_X1_canLevel tk_X1_canLevel 300 _ _ _ _ h
set_option maxRecDepth 100000 in
theorem g_X1_canLevel_6 {G : GG} {d : Nat} {Post : Option Value → PM → Prop} {M : PM} {x1 : Int32} {x2 : Int32} {x3 : Int32} {x4 : Int32} (h : br ((x3 - x2) < x4)
    (((nI 0) = 0 ∨ (nI 0) = 1) ∧ Post (some (.int (nI 0))) M)
    (PC G d m_X1_wordAt [.ref 39, .int x1, .int ((x4 + (nI 600)) >>> ((nI 6) &&& 31))] M (fun v N1 => gL v (fun r1 => br ((lg_cmp (((r1.toUInt64 >>> (((x4 + (nI 600)) &&& (nI 63)).toInt64.toUInt64 &&& Int64.toUInt64 63)).toInt64) &&& 1) 0) = 0)
      (PX G d m_X1_canLevel Post 6 [some (.ref 39), some (.int x1), some (.int x2), some (.int x3), some (.int (x4 + nI 1)), none] [] N1)
      (((nI 1) = 0 ∨ (nI 1) = 1) ∧ Post (some (.int (nI 1))) N1))))) :
  PX G d m_X1_canLevel Post 6 [some (.ref 39), some (.int x1), some (.int x2), some (.int x3), some (.int x4), none] [] M := wp_ok [(6, [true, true, true, true, true, false])] ok_X1_canLevel tk_X1_canLevel 300 _ _ _ _ h
set_option maxRecDepth 100000 in
theorem g_X2_run_0 {G : GG} {d : Nat} {Post : Option Value → PM → Prop} {M : PM} {x1 : Int32} (h : PX G d m_X2_run Post 7 [some (.ref 51), some (.int x1), some (.int (nI 0)), none] [] (wI M 51 5 (nI 0))) :
  PX G d m_X2_run Post 0 [some (.ref 51), some (.int x1), none, none] [] M := wp_ok [(7, [true, true, true, false]), (38, [true, true, true, false]), (71, [true, true, true, false]), (78, [true, true, true, true])] ok_X2_run tk_X2_run 300 _ _ _ _ h
set_option maxRecDepth 100000 in
theorem g_X2_run_7 {G : GG} {d : Nat} {Post : Option Value → PM → Prop} {M : PM} {x1 : Int32} {x2 : Int32} (h : br ((M.1 1 6) ≤ x2)
    (PX G d m_X2_run Post 38 [some (.ref 51), some (.int x1), some (.int (nI 0)), none] [] M)
    (vp_in x2 8 ∧ (PC G d m_X2_joinRow [.ref 51, .int x2] (wI M 52 x2.toNatClampNeg (nI 0)) (fun v N1 => gN v (PX G d m_X2_run Post 7 [some (.ref 51), some (.int x1), some (.int (x2 + nI 1)), none] [] N1))))) :
  PX G d m_X2_run Post 7 [some (.ref 51), some (.int x1), some (.int x2), none] [] M := wp_ok [(7, [true, true, true, false]), (38, [true, true, true, false]), (71, [true, true, true, false]), (78, [true, true, true, true])] ok_X2_run tk_X2_run 300 _ _ _ _ h
set_option maxRecDepth 100000 in
theorem g_X2_run_38 {G : GG} {d : Nat} {Post : Option Value → PM → Prop} {M : PM} {x1 : Int32} {x2 : Int32} (h : br ((M.1 1 5) ≤ x2)
    (PX G d m_X2_run Post 71 [some (.ref 51), some (.int x1), some (.int (nI 0)), none] [] M)
    (vp_in x2 3 ∧ (vp_in x2 3 ∧ (PX G d m_X2_run Post 38 [some (.ref 51), some (.int x1), some (.int (x2 + nI 1)), none] [] (wI (wI M 54 x2.toNatClampNeg (-1)) 55 x2.toNatClampNeg (-1)))))) :
  PX G d m_X2_run Post 38 [some (.ref 51), some (.int x1), some (.int x2), none] [] M := wp_ok [(7, [true, true, true, false]), (38, [true, true, true, false]), (71, [true, true, true, false]), (78, [true, true, true, true])] ok_X2_run tk_X2_run 300 _ _ _ _ h
set_option maxRecDepth 100000 in
theorem g_X2_run_71 {G : GG} {d : Nat} {Post : Option Value → PM → Prop} {M : PM} {x1 : Int32} {x2 : Int32} (h : br (x1 ≤ x2)
    (Post none M)
    (PX G d m_X2_run Post 78 [some (.ref 51), some (.int x1), some (.int x2), some (.int (nI 0))] [] M)) :
  PX G d m_X2_run Post 71 [some (.ref 51), some (.int x1), some (.int x2), none] [] M := wp_ok [(7, [true, true, true, false]), (38, [true, true, true, false]), (71, [true, true, true, false]), (78, [true, true, true, true])] ok_X2_run tk_X2_run 300 _ _ _ _ h
set_option maxRecDepth 100000 in
theorem g_X2_run_78 {G : GG} {d : Nat} {Post : Option Value → PM → Prop} {M : PM} {x1 : Int32} {x2 : Int32} {x3 : Int32} (h : br ((M.1 1 5) ≤ x3)
    (PC G d m_X2_rideOn [.ref 51] M (fun v N1 => gN v (PX G d m_X2_run Post 71 [some (.ref 51), some (.int x1), some (.int (x2 + nI 1)), none] [] N1)))
    (PC G d m_X2_letOff [.ref 51, .int x3] M (fun v N2 => gN v (PC G d m_X2_letOn [.ref 51, .int x3] N2 (fun v N3 => gN v (PX G d m_X2_run Post 78 [some (.ref 51), some (.int x1), some (.int x2), some (.int (x3 + nI 1))] [] N3)))))) :
  PX G d m_X2_run Post 78 [some (.ref 51), some (.int x1), some (.int x2), some (.int x3)] [] M := wp_ok [(7, [true, true, true, false]), (38, [true, true, true, false]), (71, [true, true, true, false]), (78, [true, true, true, true])] ok_X2_run tk_X2_run 300 _ _ _ _ h
set_option maxRecDepth 100000 in
theorem g_X2_letOff_0 {G : GG} {d : Nat} {Post : Option Value → PM → Prop} {M : PM} {x1 : Int32} (h : vp_in x1 3 ∧ (vp_in x1 3 ∧ (br ((M.1 54 x1.toNatClampNeg) = (-1 : Int32))
    (Post none M)
    (br ((M.1 55 x1.toNatClampNeg) = (-1 : Int32))
      (Post none M)
      (PC G d m_X2_wantsMore [.ref 51, .int (M.1 54 x1.toNatClampNeg)] M (fun v N1 => gI v (fun r1 => br (r1 = 0)
        (vp_in x1 3 ∧ (vp_in x1 3 ∧ (PC G d m_X2_wantsMore [.ref 51, .int (M.1 54 x1.toNatClampNeg)] (wI (wI N1 54 x1.toNatClampNeg (-1)) 55 x1.toNatClampNeg (-1)) (fun v N2 => gI v (fun r2 => br (r2 = 0)
          (PC G d m_X2_wantsMore [.ref 51, .int (M.1 55 x1.toNatClampNeg)] N2 (fun v N3 => gI v (fun r3 => br (r3 = 0)
            (Post none N3)
            (PC G d m_X2_joinRow [.ref 51, .int (M.1 55 x1.toNatClampNeg)] N3 (fun v N4 => gN v (Post none N4))))))
          (PC G d m_X2_joinRow [.ref 51, .int (M.1 54 x1.toNatClampNeg)] N2 (fun v N5 => gN v (PC G d m_X2_wantsMore [.ref 51, .int (M.1 55 x1.toNatClampNeg)] N5 (fun v N6 => gI v (fun r6 => br (r6 = 0)
            (Post none N6)
            (PC G d m_X2_joinRow [.ref 51, .int (M.1 55 x1.toNatClampNeg)] N6 (fun v N7 => gN v (Post none N7)))))))))))))
        (PC G d m_X2_wantsMore [.ref 51, .int (M.1 55 x1.toNatClampNeg)] N1 (fun v N8 => gI v (fun r8 => br (r8 = 0)
          (vp_in x1 3 ∧ (vp_in x1 3 ∧ (PC G d m_X2_wantsMore [.ref 51, .int (M.1 54 x1.toNatClampNeg)] (wI (wI N8 54 x1.toNatClampNeg (-1)) 55 x1.toNatClampNeg (-1)) (fun v N9 => gI v (fun r9 => br (r9 = 0)
            (PC G d m_X2_wantsMore [.ref 51, .int (M.1 55 x1.toNatClampNeg)] N9 (fun v N10 => gI v (fun r10 => br (r10 = 0)
              (Post none N10)
              (PC G d m_X2_joinRow [.ref 51, .int (M.1 55 x1.toNatClampNeg)] N10 (fun v N11 => gN v (Post none N11))))))
            (PC G d m_X2_joinRow [.ref 51, .int (M.1 54 x1.toNatClampNeg)] N9 (fun v N12 => gN v (PC G d m_X2_wantsMore [.ref 51, .int (M.1 55 x1.toNatClampNeg)] N12 (fun v N13 => gI v (fun r13 => br (r13 = 0)
              (Post none N13)
              (PC G d m_X2_joinRow [.ref 51, .int (M.1 55 x1.toNatClampNeg)] N13 (fun v N14 => gN v (Post none N14)))))))))))))
          (Post none N8))))))))))) :
  PX G d m_X2_letOff Post 0 [some (.ref 51), some (.int x1), none, none] [] M := wp_ok [] ok_X2_letOff tk_X2_letOff 300 _ _ _ _ h
set_option maxRecDepth 100000 in
theorem g_X2_wantsMore_0 {G : GG} {d : Nat} {Post : Option Value → PM → Prop} {M : PM} {x1 : Int32} (h : vp_in x1 8 ∧ (vp_in x1 8 ∧ (br ((M.1 5 x1.toNatClampNeg) ≤ (M.1 52 x1.toNatClampNeg))
    (((nI 0) = 0 ∨ (nI 0) = 1) ∧ Post (some (.int (nI 0))) M)
    (((nI 1) = 0 ∨ (nI 1) = 1) ∧ Post (some (.int (nI 1))) M)))) :
  PX G d m_X2_wantsMore Post 0 [some (.ref 51), some (.int x1)] [] M := wp_ok [] ok_X2_wantsMore tk_X2_wantsMore 300 _ _ _ _ h
set_option maxRecDepth 100000 in
theorem g_X2_letOn_0 {G : GG} {d : Nat} {Post : Option Value → PM → Prop} {M : PM} {x1 : Int32} (h : vp_in x1 3 ∧ (br ((M.1 54 x1.toNatClampNeg) = (-1 : Int32))
    (PX G d m_X2_letOn Post 13 [some (.ref 51), some (.int x1), some (.int (nI 0)), none] [] M)
    (Post none M))) :
  PX G d m_X2_letOn Post 0 [some (.ref 51), some (.int x1), none, none] [] M := wp_ok [(13, [true, true, true, false]), (25, [true, true, true, true])] ok_X2_letOn tk_X2_letOn 300 _ _ _ _ h
set_option maxRecDepth 100000 in
theorem g_X2_letOn_13 {G : GG} {d : Nat} {Post : Option Value → PM → Prop} {M : PM} {x1 : Int32} {x2 : Int32} (h : br ((M.1 51 5) ≤ x2)
    (Post none M)
    (PX G d m_X2_letOn Post 25 [some (.ref 51), some (.int x1), some (.int x2), some (.int (x2 + (nI 1)))] [] M)) :
  PX G d m_X2_letOn Post 13 [some (.ref 51), some (.int x1), some (.int x2), none] [] M := wp_ok [(13, [true, true, true, false]), (25, [true, true, true, true])] ok_X2_letOn tk_X2_letOn 300 _ _ _ _ h
set_option maxRecDepth 100000 in
theorem g_X2_letOn_25 {G : GG} {d : Nat} {Post : Option Value → PM → Prop} {M : PM} {x1 : Int32} {x2 : Int32} {x3 : Int32} (h : br ((M.1 51 5) ≤ x3)
    (PX G d m_X2_letOn Post 13 [some (.ref 51), some (.int x1), some (.int (x2 + nI 1)), none] [] M)
    (vp_in x2 8 ∧ (vp_in x3 8 ∧ (PC G d m_X3_fits [.ref 1, .int x1, .int (M.1 53 x2.toNatClampNeg), .int (M.1 53 x3.toNatClampNeg)] M (fun v N1 => gI v (fun r1 => br (r1 = 0)
      (PX G d m_X2_letOn Post 25 [some (.ref 51), some (.int x1), some (.int x2), some (.int (x3 + nI 1))] [] N1)
      (vp_in x2 8 ∧ (vp_in x1 3 ∧ (vp_in x3 8 ∧ (vp_in x1 3 ∧ (PC G d m_X2_leaveRow [.ref 51, .int x3] (wI (wI N1 54 x1.toNatClampNeg (N1.1 53 x2.toNatClampNeg)) 55 x1.toNatClampNeg (N1.1 53 x3.toNatClampNeg)) (fun v N2 => gN v (PC G d m_X2_leaveRow [.ref 51, .int x2] N2 (fun v N3 => gN v (Post none N3))))))))))))))) :
  PX G d m_X2_letOn Post 25 [some (.ref 51), some (.int x1), some (.int x2), some (.int x3)] [] M := wp_ok [(13, [true, true, true, false]), (25, [true, true, true, true])] ok_X2_letOn tk_X2_letOn 300 _ _ _ _ h
set_option maxRecDepth 100000 in
theorem g_X2_rideOn_0 {G : GG} {d : Nat} {Post : Option Value → PM → Prop} {M : PM} (h : PX G d m_X2_rideOn Post 2 [some (.ref 51), some (.int (nI 0))] [] M) :
  PX G d m_X2_rideOn Post 0 [some (.ref 51), none] [] M := wp_ok [(2, [true, true])] ok_X2_rideOn tk_X2_rideOn 300 _ _ _ _ h
set_option maxRecDepth 100000 in
theorem g_X2_rideOn_2 {G : GG} {d : Nat} {Post : Option Value → PM → Prop} {M : PM} {x1 : Int32} (h : br ((M.1 1 5) ≤ x1)
    (Post none M)
    (vp_in x1 3 ∧ (br ((M.1 54 x1.toNatClampNeg) = (-1 : Int32))
      (PX G d m_X2_rideOn Post 2 [some (.ref 51), some (.int (x1 + nI 1))] [] M)
      (vp_in x1 3 ∧ (br ((M.1 55 x1.toNatClampNeg) = (-1 : Int32))
        (PX G d m_X2_rideOn Post 2 [some (.ref 51), some (.int (x1 + nI 1))] [] M)
        (vp_in x1 3 ∧ (vp_in (M.1 54 x1.toNatClampNeg) 8 ∧ (vp_in (M.1 54 x1.toNatClampNeg) 8 ∧ (vp_in x1 3 ∧ (vp_in (M.1 55 x1.toNatClampNeg) 8 ∧ (vp_in (M.1 55 x1.toNatClampNeg) 8 ∧ (PX G d m_X2_rideOn Post 2 [some (.ref 51), some (.int (x1 + nI 1))] [] (wI (wI M 52 ((M.1 54 x1.toNatClampNeg).toNatClampNeg) ((M.1 52 ((M.1 54 x1.toNatClampNeg).toNatClampNeg)) + (nI 1))) 52 ((M.1 55 x1.toNatClampNeg).toNatClampNeg) (((wI M 52 ((M.1 54 x1.toNatClampNeg).toNatClampNeg) ((M.1 52 ((M.1 54 x1.toNatClampNeg).toNatClampNeg)) + (nI 1))).1 52 ((M.1 55 x1.toNatClampNeg).toNatClampNeg)) + (nI 1))))))))))))))) :
  PX G d m_X2_rideOn Post 2 [some (.ref 51), some (.int x1)] [] M := wp_ok [(2, [true, true])] ok_X2_rideOn tk_X2_rideOn 300 _ _ _ _ h
set_option maxRecDepth 100000 in
theorem g_X2_joinRow_0 {G : GG} {d : Nat} {Post : Option Value → PM → Prop} {M : PM} {x1 : Int32} (h : br ((nI 8) ≤ (M.1 51 5))
    (Post none M)
    (vp_in (M.1 51 5) 8 ∧ (Post none (wI (wI M 53 ((M.1 51 5).toNatClampNeg) x1) 51 5 ((M.1 51 5) + (nI 1)))))) :
  PX G d m_X2_joinRow Post 0 [some (.ref 51), some (.int x1)] [] M := wp_ok [] ok_X2_joinRow tk_X2_joinRow 300 _ _ _ _ h
set_option maxRecDepth 100000 in
theorem g_X2_leaveRow_0 {G : GG} {d : Nat} {Post : Option Value → PM → Prop} {M : PM} {x1 : Int32} (h : PX G d m_X2_leaveRow Post 12 [some (.ref 51), none, some (.int x1)] [] (wI M 51 5 ((M.1 51 5) - (nI 1)))) :
  PX G d m_X2_leaveRow Post 0 [some (.ref 51), some (.int x1), none] [] M := wp_ok [(12, [true, false, true])] ok_X2_leaveRow tk_X2_leaveRow 300 _ _ _ _ h
set_option maxRecDepth 100000 in
theorem g_X2_leaveRow_12 {G : GG} {d : Nat} {Post : Option Value → PM → Prop} {M : PM} {x2 : Int32} (h : br ((M.1 51 5) ≤ x2)
    (Post none M)
    (vp_in (x2 + (nI 1)) 8 ∧ (vp_in x2 8 ∧ (PX G d m_X2_leaveRow Post 12 [some (.ref 51), none, some (.int (x2 + nI 1))] [] (wI M 53 x2.toNatClampNeg (M.1 53 ((x2 + (nI 1)).toNatClampNeg))))))) :
  PX G d m_X2_leaveRow Post 12 [some (.ref 51), none, some (.int x2)] [] M := wp_ok [(12, [true, false, true])] ok_X2_leaveRow tk_X2_leaveRow 300 _ _ _ _ h
set_option maxRecDepth 100000 in
theorem g_X3_forget_0 {G : GG} {d : Nat} {Post : Option Value → PM → Prop} {M : PM} (h : Post none (wI (wI (wI M 26 5 (nI 0)) 26 6 (nI 0)) 26 7 (nI 0))) :
  PX G d m_X3_forget Post 0 [some (.ref 26)] [] M := wp_ok [] ok_X3_forget tk_X3_forget 300 _ _ _ _ h
set_option maxRecDepth 100000 in
theorem g_X3_copyFrom_0 {G : GG} {d : Nat} {Post : Option Value → PM → Prop} {M : PM} (h : (¬ (nI 0) < 0 ∧ ¬ (nI 0) < 0 ∧ ¬ (nI 3) < 0 ∧ (nI 0).toNatClampNeg + (nI 3).toNatClampNeg ≤ 3 ∧ (nI 0).toNatClampNeg + (nI 3).toNatClampNeg ≤ 3) ∧ ((¬ (nI 0) < 0 ∧ ¬ (nI 0) < 0 ∧ ¬ (nI 3) < 0 ∧ (nI 0).toNatClampNeg + (nI 3).toNatClampNeg ≤ 3 ∧ (nI 0).toNatClampNeg + (nI 3).toNatClampNeg ≤ 3) ∧ ((¬ (nI 0) < 0 ∧ ¬ (nI 0) < 0 ∧ ¬ (nI 8) < 0 ∧ (nI 0).toNatClampNeg + (nI 8).toNatClampNeg ≤ 8 ∧ (nI 0).toNatClampNeg + (nI 8).toNatClampNeg ≤ 8) ∧ ((¬ (nI 0) < 0 ∧ ¬ (nI 0) < 0 ∧ ¬ (nI 8) < 0 ∧ (nI 0).toNatClampNeg + (nI 8).toNatClampNeg ≤ 8 ∧ (nI 0).toNatClampNeg + (nI 8).toNatClampNeg ≤ 8) ∧ ((¬ (nI 0) < 0 ∧ ¬ (nI 0) < 0 ∧ ¬ (nI 5) < 0 ∧ (nI 0).toNatClampNeg + (nI 5).toNatClampNeg ≤ 5 ∧ (nI 0).toNatClampNeg + (nI 5).toNatClampNeg ≤ 5) ∧ (Post none (wI (wI (wI (cpI (cpI (cpI (cpI (cpI M 2 27 (nI 0).toNatClampNeg (nI 0).toNatClampNeg (nI 3).toNatClampNeg) 3 28 (nI 0).toNatClampNeg (nI 0).toNatClampNeg (nI 3).toNatClampNeg) 4 29 (nI 0).toNatClampNeg (nI 0).toNatClampNeg (nI 8).toNatClampNeg) 5 30 (nI 0).toNatClampNeg (nI 0).toNatClampNeg (nI 8).toNatClampNeg) 6 31 (nI 0).toNatClampNeg (nI 0).toNatClampNeg (nI 5).toNatClampNeg) 1 5 (M.1 26 5)) 1 6 (M.1 26 6)) 1 7 (M.1 26 7)))))))) :
  PX G d m_X3_copyFrom Post 0 [some (.ref 1), some (.ref 26)] [] M := wp_ok [] ok_X3_copyFrom tk_X3_copyFrom 300 _ _ _ _ h
set_option maxRecDepth 100000 in
theorem g_X3_hasPlank_0 {G : GG} {d : Nat} {Post : Option Value → PM → Prop} {M : PM} {x1 : Int32} (h : br (x1 < 0)
    (((nI 0) = 0 ∨ (nI 0) = 1) ∧ Post (some (.int (nI 0))) M)
    (br ((M.1 1 5) ≤ x1)
      (((nI 0) = 0 ∨ (nI 0) = 1) ∧ Post (some (.int (nI 0))) M)
      (((nI 1) = 0 ∨ (nI 1) = 1) ∧ Post (some (.int (nI 1))) M))) :
  PX G d m_X3_hasPlank Post 0 [some (.ref 1), some (.int x1)] [] M := wp_ok [] ok_X3_hasPlank tk_X3_hasPlank 300 _ _ _ _ h
set_option maxRecDepth 100000 in
theorem g_X3_hasChild_0 {G : GG} {d : Nat} {Post : Option Value → PM → Prop} {M : PM} {x1 : Int32} (h : br (x1 < 0)
    (((nI 0) = 0 ∨ (nI 0) = 1) ∧ Post (some (.int (nI 0))) M)
    (br ((M.1 1 6) ≤ x1)
      (((nI 0) = 0 ∨ (nI 0) = 1) ∧ Post (some (.int (nI 0))) M)
      (((nI 1) = 0 ∨ (nI 1) = 1) ∧ Post (some (.int (nI 1))) M))) :
  PX G d m_X3_hasChild Post 0 [some (.ref 1), some (.int x1)] [] M := wp_ok [] ok_X3_hasChild tk_X3_hasChild 300 _ _ _ _ h
set_option maxRecDepth 100000 in
theorem g_X3_hasStone_0 {G : GG} {d : Nat} {Post : Option Value → PM → Prop} {M : PM} {x1 : Int32} (h : br (x1 < 0)
    (((nI 0) = 0 ∨ (nI 0) = 1) ∧ Post (some (.int (nI 0))) M)
    (br ((M.1 1 7) ≤ x1)
      (((nI 0) = 0 ∨ (nI 0) = 1) ∧ Post (some (.int (nI 0))) M)
      (((nI 1) = 0 ∨ (nI 1) = 1) ∧ Post (some (.int (nI 1))) M))) :
  PX G d m_X3_hasStone Post 0 [some (.ref 1), some (.int x1)] [] M := wp_ok [] ok_X3_hasStone tk_X3_hasStone 300 _ _ _ _ h
set_option maxRecDepth 100000 in
theorem g_X3_hasSeat_0 {G : GG} {d : Nat} {Post : Option Value → PM → Prop} {M : PM} {x1 : Int32} {x2 : Int32} (h : PC G d m_X3_hasPlank [.ref 1, .int x1] M (fun v N1 => gI v (fun r1 => br (r1 = 0)
    (((nI 0) = 0 ∨ (nI 0) = 1) ∧ Post (some (.int (nI 0))) N1)
    (br (x2 = 0)
      (((nI 0) = 0 ∨ (nI 0) = 1) ∧ Post (some (.int (nI 0))) N1)
      (vp_in x1 3 ∧ (br (x2 < (-(N1.1 2 x1.toNatClampNeg)))
        (((nI 0) = 0 ∨ (nI 0) = 1) ∧ Post (some (.int (nI 0))) N1)
        (vp_in x1 3 ∧ (br ((N1.1 2 x1.toNatClampNeg) < x2)
          (((nI 0) = 0 ∨ (nI 0) = 1) ∧ Post (some (.int (nI 0))) N1)
          (((nI 1) = 0 ∨ (nI 1) = 1) ∧ Post (some (.int (nI 1))) N1))))))))) :
  PX G d m_X3_hasSeat Post 0 [some (.ref 1), some (.int x1), some (.int x2)] [] M := wp_ok [] ok_X3_hasSeat tk_X3_hasSeat 300 _ _ _ _ h
set_option maxRecDepth 100000 in
theorem g_X3_allChildren_0 {G : GG} {d : Nat} {Post : Option Value → PM → Prop} {M : PM} (h : Post (some (.int (((nI 1) <<< ((M.1 1 6) &&& 31)) - (nI 1)))) M) :
  PX G d m_X3_allChildren Post 0 [some (.ref 1)] [] M := wp_ok [] ok_X3_allChildren tk_X3_allChildren 300 _ _ _ _ h
set_option maxRecDepth 100000 in
theorem g_X3_fits_0 {G : GG} {d : Nat} {Post : Option Value → PM → Prop} {M : PM} {x1 : Int32} {x2 : Int32} {x3 : Int32} (h : vp_in x2 8 ∧ (vp_in x3 8 ∧ (vp_in x1 3 ∧ (br ((M.1 3 x1.toNatClampNeg) < (if 0 ≤ ((M.1 4 x2.toNatClampNeg) - (M.1 4 x3.toNatClampNeg)) then ((M.1 4 x2.toNatClampNeg) - (M.1 4 x3.toNatClampNeg)) else 0 - ((M.1 4 x2.toNatClampNeg) - (M.1 4 x3.toNatClampNeg))))
    (((nI 0) = 0 ∨ (nI 0) = 1) ∧ Post (some (.int (nI 0))) M)
    (((nI 1) = 0 ∨ (nI 1) = 1) ∧ Post (some (.int (nI 1))) M))))) :
  PX G d m_X3_fits Post 0 [some (.ref 1), some (.int x1), some (.int x2), some (.int x3)] [] M := wp_ok [] ok_X3_fits tk_X3_fits 300 _ _ _ _ h
set_option maxRecDepth 100000 in
theorem g_X4_reset_0 {G : GG} {d : Nat} {Post : Option Value → PM → Prop} {M : PM} (h : PX G d m_X4_reset Post 2 [some (.ref 7), some (.int (nI 0))] [] M) :
  PX G d m_X4_reset Post 0 [some (.ref 7), none] [] M := wp_ok [(2, [true, true]), (37, [true, true])] ok_X4_reset tk_X4_reset 300 _ _ _ _ h
set_option maxRecDepth 100000 in
theorem g_X4_reset_2 {G : GG} {d : Nat} {Post : Option Value → PM → Prop} {M : PM} {x1 : Int32} (h : br ((nI 8) ≤ x1)
    (PX G d m_X4_reset Post 37 [some (.ref 7), some (.int (nI 0))] [] M)
    (vp_in x1 8 ∧ (vp_in x1 8 ∧ (vp_in x1 8 ∧ (PX G d m_X4_reset Post 2 [some (.ref 7), some (.int (x1 + nI 1))] [] (wI (wI (wI M 8 x1.toNatClampNeg (nI 0)) 9 x1.toNatClampNeg (nI 0)) 10 x1.toNatClampNeg (nI 0))))))) :
  PX G d m_X4_reset Post 2 [some (.ref 7), some (.int x1)] [] M := wp_ok [(2, [true, true]), (37, [true, true])] ok_X4_reset tk_X4_reset 300 _ _ _ _ h
set_option maxRecDepth 100000 in
theorem g_X4_reset_37 {G : GG} {d : Nat} {Post : Option Value → PM → Prop} {M : PM} {x1 : Int32} (h : br ((nI 5) ≤ x1)
    (Post none M)
    (vp_in x1 5 ∧ (vp_in x1 5 ∧ (PX G d m_X4_reset Post 37 [some (.ref 7), some (.int (x1 + nI 1))] [] (wI (wI M 11 x1.toNatClampNeg (nI 0)) 12 x1.toNatClampNeg (nI 0)))))) :
  PX G d m_X4_reset Post 37 [some (.ref 7), some (.int x1)] [] M := wp_ok [(2, [true, true]), (37, [true, true])] ok_X4_reset tk_X4_reset 300 _ _ _ _ h
set_option maxRecDepth 100000 in
theorem g_X4_copyFromv0_0 {G : GG} {d : Nat} {Post : Option Value → PM → Prop} {M : PM} (h : (¬ (nI 0) < 0 ∧ ¬ (nI 0) < 0 ∧ ¬ (nI 8) < 0 ∧ (nI 0).toNatClampNeg + (nI 8).toNatClampNeg ≤ 8 ∧ (nI 0).toNatClampNeg + (nI 8).toNatClampNeg ≤ 8) ∧ ((¬ (nI 0) < 0 ∧ ¬ (nI 0) < 0 ∧ ¬ (nI 8) < 0 ∧ (nI 0).toNatClampNeg + (nI 8).toNatClampNeg ≤ 8 ∧ (nI 0).toNatClampNeg + (nI 8).toNatClampNeg ≤ 8) ∧ ((¬ (nI 0) < 0 ∧ ¬ (nI 0) < 0 ∧ ¬ (nI 8) < 0 ∧ (nI 0).toNatClampNeg + (nI 8).toNatClampNeg ≤ 8 ∧ (nI 0).toNatClampNeg + (nI 8).toNatClampNeg ≤ 8) ∧ ((¬ (nI 0) < 0 ∧ ¬ (nI 0) < 0 ∧ ¬ (nI 5) < 0 ∧ (nI 0).toNatClampNeg + (nI 5).toNatClampNeg ≤ 5 ∧ (nI 0).toNatClampNeg + (nI 5).toNatClampNeg ≤ 5) ∧ ((¬ (nI 0) < 0 ∧ ¬ (nI 0) < 0 ∧ ¬ (nI 5) < 0 ∧ (nI 0).toNatClampNeg + (nI 5).toNatClampNeg ≤ 5 ∧ (nI 0).toNatClampNeg + (nI 5).toNatClampNeg ≤ 5) ∧ (Post none (cpI (cpI (cpI (cpI (cpI M 14 8 (nI 0).toNatClampNeg (nI 0).toNatClampNeg (nI 8).toNatClampNeg) 15 9 (nI 0).toNatClampNeg (nI 0).toNatClampNeg (nI 8).toNatClampNeg) 16 10 (nI 0).toNatClampNeg (nI 0).toNatClampNeg (nI 8).toNatClampNeg) 17 11 (nI 0).toNatClampNeg (nI 0).toNatClampNeg (nI 5).toNatClampNeg) 18 12 (nI 0).toNatClampNeg (nI 0).toNatClampNeg (nI 5).toNatClampNeg))))))) :
  PX G d m_X4_copyFrom Post 0 [some (.ref 13), some (.ref 7)] [] M := wp_ok [] ok_X4_copyFrom tk_X4_copyFrom 300 _ _ _ _ h
set_option maxRecDepth 100000 in
theorem g_X4_copyFromv1_0 {G : GG} {d : Nat} {Post : Option Value → PM → Prop} {M : PM} (h : (¬ (nI 0) < 0 ∧ ¬ (nI 0) < 0 ∧ ¬ (nI 8) < 0 ∧ (nI 0).toNatClampNeg + (nI 8).toNatClampNeg ≤ 8 ∧ (nI 0).toNatClampNeg + (nI 8).toNatClampNeg ≤ 8) ∧ ((¬ (nI 0) < 0 ∧ ¬ (nI 0) < 0 ∧ ¬ (nI 8) < 0 ∧ (nI 0).toNatClampNeg + (nI 8).toNatClampNeg ≤ 8 ∧ (nI 0).toNatClampNeg + (nI 8).toNatClampNeg ≤ 8) ∧ ((¬ (nI 0) < 0 ∧ ¬ (nI 0) < 0 ∧ ¬ (nI 8) < 0 ∧ (nI 0).toNatClampNeg + (nI 8).toNatClampNeg ≤ 8 ∧ (nI 0).toNatClampNeg + (nI 8).toNatClampNeg ≤ 8) ∧ ((¬ (nI 0) < 0 ∧ ¬ (nI 0) < 0 ∧ ¬ (nI 5) < 0 ∧ (nI 0).toNatClampNeg + (nI 5).toNatClampNeg ≤ 5 ∧ (nI 0).toNatClampNeg + (nI 5).toNatClampNeg ≤ 5) ∧ ((¬ (nI 0) < 0 ∧ ¬ (nI 0) < 0 ∧ ¬ (nI 5) < 0 ∧ (nI 0).toNatClampNeg + (nI 5).toNatClampNeg ≤ 5 ∧ (nI 0).toNatClampNeg + (nI 5).toNatClampNeg ≤ 5) ∧ (Post none (cpI (cpI (cpI (cpI (cpI M 20 8 (nI 0).toNatClampNeg (nI 0).toNatClampNeg (nI 8).toNatClampNeg) 21 9 (nI 0).toNatClampNeg (nI 0).toNatClampNeg (nI 8).toNatClampNeg) 22 10 (nI 0).toNatClampNeg (nI 0).toNatClampNeg (nI 8).toNatClampNeg) 23 11 (nI 0).toNatClampNeg (nI 0).toNatClampNeg (nI 5).toNatClampNeg) 24 12 (nI 0).toNatClampNeg (nI 0).toNatClampNeg (nI 5).toNatClampNeg))))))) :
  PX G d m_X4_copyFrom Post 0 [some (.ref 19), some (.ref 7)] [] M := wp_ok [] ok_X4_copyFrom tk_X4_copyFrom 300 _ _ _ _ h
set_option maxRecDepth 100000 in
theorem g_X4_copyFromv2_0 {G : GG} {d : Nat} {Post : Option Value → PM → Prop} {M : PM} (h : (¬ (nI 0) < 0 ∧ ¬ (nI 0) < 0 ∧ ¬ (nI 8) < 0 ∧ (nI 0).toNatClampNeg + (nI 8).toNatClampNeg ≤ 8 ∧ (nI 0).toNatClampNeg + (nI 8).toNatClampNeg ≤ 8) ∧ ((¬ (nI 0) < 0 ∧ ¬ (nI 0) < 0 ∧ ¬ (nI 8) < 0 ∧ (nI 0).toNatClampNeg + (nI 8).toNatClampNeg ≤ 8 ∧ (nI 0).toNatClampNeg + (nI 8).toNatClampNeg ≤ 8) ∧ ((¬ (nI 0) < 0 ∧ ¬ (nI 0) < 0 ∧ ¬ (nI 8) < 0 ∧ (nI 0).toNatClampNeg + (nI 8).toNatClampNeg ≤ 8 ∧ (nI 0).toNatClampNeg + (nI 8).toNatClampNeg ≤ 8) ∧ ((¬ (nI 0) < 0 ∧ ¬ (nI 0) < 0 ∧ ¬ (nI 5) < 0 ∧ (nI 0).toNatClampNeg + (nI 5).toNatClampNeg ≤ 5 ∧ (nI 0).toNatClampNeg + (nI 5).toNatClampNeg ≤ 5) ∧ ((¬ (nI 0) < 0 ∧ ¬ (nI 0) < 0 ∧ ¬ (nI 5) < 0 ∧ (nI 0).toNatClampNeg + (nI 5).toNatClampNeg ≤ 5 ∧ (nI 0).toNatClampNeg + (nI 5).toNatClampNeg ≤ 5) ∧ (Post none (cpI (cpI (cpI (cpI (cpI M 8 14 (nI 0).toNatClampNeg (nI 0).toNatClampNeg (nI 8).toNatClampNeg) 9 15 (nI 0).toNatClampNeg (nI 0).toNatClampNeg (nI 8).toNatClampNeg) 10 16 (nI 0).toNatClampNeg (nI 0).toNatClampNeg (nI 8).toNatClampNeg) 11 17 (nI 0).toNatClampNeg (nI 0).toNatClampNeg (nI 5).toNatClampNeg) 12 18 (nI 0).toNatClampNeg (nI 0).toNatClampNeg (nI 5).toNatClampNeg))))))) :
  PX G d m_X4_copyFrom Post 0 [some (.ref 7), some (.ref 13)] [] M := wp_ok [] ok_X4_copyFrom tk_X4_copyFrom 300 _ _ _ _ h
set_option maxRecDepth 100000 in
theorem g_X4_copyFromv3_0 {G : GG} {d : Nat} {Post : Option Value → PM → Prop} {M : PM} (h : (¬ (nI 0) < 0 ∧ ¬ (nI 0) < 0 ∧ ¬ (nI 8) < 0 ∧ (nI 0).toNatClampNeg + (nI 8).toNatClampNeg ≤ 8 ∧ (nI 0).toNatClampNeg + (nI 8).toNatClampNeg ≤ 8) ∧ ((¬ (nI 0) < 0 ∧ ¬ (nI 0) < 0 ∧ ¬ (nI 8) < 0 ∧ (nI 0).toNatClampNeg + (nI 8).toNatClampNeg ≤ 8 ∧ (nI 0).toNatClampNeg + (nI 8).toNatClampNeg ≤ 8) ∧ ((¬ (nI 0) < 0 ∧ ¬ (nI 0) < 0 ∧ ¬ (nI 8) < 0 ∧ (nI 0).toNatClampNeg + (nI 8).toNatClampNeg ≤ 8 ∧ (nI 0).toNatClampNeg + (nI 8).toNatClampNeg ≤ 8) ∧ ((¬ (nI 0) < 0 ∧ ¬ (nI 0) < 0 ∧ ¬ (nI 5) < 0 ∧ (nI 0).toNatClampNeg + (nI 5).toNatClampNeg ≤ 5 ∧ (nI 0).toNatClampNeg + (nI 5).toNatClampNeg ≤ 5) ∧ ((¬ (nI 0) < 0 ∧ ¬ (nI 0) < 0 ∧ ¬ (nI 5) < 0 ∧ (nI 0).toNatClampNeg + (nI 5).toNatClampNeg ≤ 5 ∧ (nI 0).toNatClampNeg + (nI 5).toNatClampNeg ≤ 5) ∧ (Post none (cpI (cpI (cpI (cpI (cpI M 8 20 (nI 0).toNatClampNeg (nI 0).toNatClampNeg (nI 8).toNatClampNeg) 9 21 (nI 0).toNatClampNeg (nI 0).toNatClampNeg (nI 8).toNatClampNeg) 10 22 (nI 0).toNatClampNeg (nI 0).toNatClampNeg (nI 8).toNatClampNeg) 11 23 (nI 0).toNatClampNeg (nI 0).toNatClampNeg (nI 5).toNatClampNeg) 12 24 (nI 0).toNatClampNeg (nI 0).toNatClampNeg (nI 5).toNatClampNeg))))))) :
  PX G d m_X4_copyFrom Post 0 [some (.ref 7), some (.ref 19)] [] M := wp_ok [] ok_X4_copyFrom tk_X4_copyFrom 300 _ _ _ _ h
set_option maxRecDepth 100000 in
theorem g_X4_hasChildAt_0 {G : GG} {d : Nat} {Post : Option Value → PM → Prop} {M : PM} {x1 : Int32} {x2 : Int32} (h : PX G d m_X4_hasChildAt Post 2 [some (.ref 7), some (.int x1), some (.int x2), some (.int (nI 0))] [] M) :
  PX G d m_X4_hasChildAt Post 0 [some (.ref 7), some (.int x1), some (.int x2), none] [] M := wp_ok [(2, [true, true, true, true])] ok_X4_hasChildAt tk_X4_hasChildAt 300 _ _ _ _ h
set_option maxRecDepth 100000 in
theorem g_X4_hasChildAt_2 {G : GG} {d : Nat} {Post : Option Value → PM → Prop} {M : PM} {x1 : Int32} {x2 : Int32} {x3 : Int32} (h : br ((M.1 1 6) ≤ x3)
    (((nI 0) = 0 ∨ (nI 0) = 1) ∧ Post (some (.int (nI 0))) M)
    (vp_in x3 8 ∧ (br ((M.1 9 x3.toNatClampNeg) = x2)
      (vp_in x3 8 ∧ (br ((M.1 8 x3.toNatClampNeg) = x1)
        (((nI 1) = 0 ∨ (nI 1) = 1) ∧ Post (some (.int (nI 1))) M)
        (PX G d m_X4_hasChildAt Post 2 [some (.ref 7), some (.int x1), some (.int x2), some (.int (x3 + nI 1))] [] M)))
      (PX G d m_X4_hasChildAt Post 2 [some (.ref 7), some (.int x1), some (.int x2), some (.int (x3 + nI 1))] [] M)))) :
  PX G d m_X4_hasChildAt Post 2 [some (.ref 7), some (.int x1), some (.int x2), some (.int x3)] [] M := wp_ok [(2, [true, true, true, true])] ok_X4_hasChildAt tk_X4_hasChildAt 300 _ _ _ _ h
set_option maxRecDepth 100000 in
theorem g_X4_hasStoneAt_0 {G : GG} {d : Nat} {Post : Option Value → PM → Prop} {M : PM} {x1 : Int32} {x2 : Int32} (h : PX G d m_X4_hasStoneAt Post 2 [some (.ref 7), some (.int x1), some (.int x2), some (.int (nI 0))] [] M) :
  PX G d m_X4_hasStoneAt Post 0 [some (.ref 7), some (.int x1), some (.int x2), none] [] M := wp_ok [(2, [true, true, true, true])] ok_X4_hasStoneAt tk_X4_hasStoneAt 300 _ _ _ _ h
set_option maxRecDepth 100000 in
theorem g_X4_hasStoneAt_2 {G : GG} {d : Nat} {Post : Option Value → PM → Prop} {M : PM} {x1 : Int32} {x2 : Int32} {x3 : Int32} (h : br ((M.1 1 7) ≤ x3)
    (((nI 0) = 0 ∨ (nI 0) = 1) ∧ Post (some (.int (nI 0))) M)
    (vp_in x3 5 ∧ (br ((M.1 12 x3.toNatClampNeg) = x2)
      (vp_in x3 5 ∧ (br ((M.1 11 x3.toNatClampNeg) = x1)
        (((nI 1) = 0 ∨ (nI 1) = 1) ∧ Post (some (.int (nI 1))) M)
        (PX G d m_X4_hasStoneAt Post 2 [some (.ref 7), some (.int x1), some (.int x2), some (.int (x3 + nI 1))] [] M)))
      (PX G d m_X4_hasStoneAt Post 2 [some (.ref 7), some (.int x1), some (.int x2), some (.int (x3 + nI 1))] [] M)))) :
  PX G d m_X4_hasStoneAt Post 2 [some (.ref 7), some (.int x1), some (.int x2), some (.int x3)] [] M := wp_ok [(2, [true, true, true, true])] ok_X4_hasStoneAt tk_X4_hasStoneAt 300 _ _ _ _ h
set_option maxRecDepth 100000 in
theorem g_X4_childrenOn_0 {G : GG} {d : Nat} {Post : Option Value → PM → Prop} {M : PM} {x1 : Int32} (h : PX G d m_X4_childrenOn Post 4 [some (.ref 7), some (.int x1), some (.int (nI 0)), some (.int (nI 0))] [] M) :
  PX G d m_X4_childrenOn Post 0 [some (.ref 7), some (.int x1), none, none] [] M := wp_ok [(4, [true, true, true, true])] ok_X4_childrenOn tk_X4_childrenOn 300 _ _ _ _ h
set_option maxRecDepth 100000 in
theorem g_X4_childrenOn_4 {G : GG} {d : Nat} {Post : Option Value → PM → Prop} {M : PM} {x1 : Int32} {x2 : Int32} {x3 : Int32} (h : br ((M.1 1 6) ≤ x3)
    (Post (some (.int x2)) M)
    (vp_in x3 8 ∧ (br ((M.1 9 x3.toNatClampNeg) = 0)
      (PX G d m_X4_childrenOn Post 4 [some (.ref 7), some (.int x1), some (.int x2), some (.int (x3 + nI 1))] [] M)
      (vp_in x3 8 ∧ (br ((M.1 8 x3.toNatClampNeg) = x1)
        (PX G d m_X4_childrenOn Post 4 [some (.ref 7), some (.int x1), some (.int (x2 ||| ((nI 1) <<< (x3 &&& 31)))), some (.int (x3 + nI 1))] [] M)
        (PX G d m_X4_childrenOn Post 4 [some (.ref 7), some (.int x1), some (.int x2), some (.int (x3 + nI 1))] [] M)))))) :
  PX G d m_X4_childrenOn Post 4 [some (.ref 7), some (.int x1), some (.int x2), some (.int x3)] [] M := wp_ok [(4, [true, true, true, true])] ok_X4_childrenOn tk_X4_childrenOn 300 _ _ _ _ h
set_option maxRecDepth 100000 in
theorem g_X4_idleChildren_0 {G : GG} {d : Nat} {Post : Option Value → PM → Prop} {M : PM} (h : PX G d m_X4_idleChildren Post 4 [some (.ref 7), some (.int (nI 0)), some (.int (nI 0))] [] M) :
  PX G d m_X4_idleChildren Post 0 [some (.ref 7), none, none] [] M := wp_ok [(4, [true, true, true])] ok_X4_idleChildren tk_X4_idleChildren 300 _ _ _ _ h
set_option maxRecDepth 100000 in
theorem g_X4_idleChildren_4 {G : GG} {d : Nat} {Post : Option Value → PM → Prop} {M : PM} {x1 : Int32} {x2 : Int32} (h : br ((M.1 1 6) ≤ x2)
    (Post (some (.int x1)) M)
    (vp_in x2 8 ∧ (br ((M.1 9 x2.toNatClampNeg) = 0)
      (PX G d m_X4_idleChildren Post 4 [some (.ref 7), some (.int (x1 ||| ((nI 1) <<< (x2 &&& 31)))), some (.int (x2 + nI 1))] [] M)
      (PX G d m_X4_idleChildren Post 4 [some (.ref 7), some (.int x1), some (.int (x2 + nI 1))] [] M)))) :
  PX G d m_X4_idleChildren Post 4 [some (.ref 7), some (.int x1), some (.int x2)] [] M := wp_ok [(4, [true, true, true])] ok_X4_idleChildren tk_X4_idleChildren 300 _ _ _ _ h
set_option maxRecDepth 100000 in
theorem g_X4_idleStones_0 {G : GG} {d : Nat} {Post : Option Value → PM → Prop} {M : PM} (h : PX G d m_X4_idleStones Post 4 [some (.ref 7), some (.int (nI 0)), some (.int (nI 0))] [] M) :
  PX G d m_X4_idleStones Post 0 [some (.ref 7), none, none] [] M := wp_ok [(4, [true, true, true])] ok_X4_idleStones tk_X4_idleStones 300 _ _ _ _ h
set_option maxRecDepth 100000 in
theorem g_X4_idleStones_4 {G : GG} {d : Nat} {Post : Option Value → PM → Prop} {M : PM} {x1 : Int32} {x2 : Int32} (h : br ((M.1 1 7) ≤ x2)
    (Post (some (.int x1)) M)
    (vp_in x2 5 ∧ (br ((M.1 12 x2.toNatClampNeg) = 0)
      (PX G d m_X4_idleStones Post 4 [some (.ref 7), some (.int (x1 ||| ((nI 1) <<< (x2 &&& 31)))), some (.int (x2 + nI 1))] [] M)
      (PX G d m_X4_idleStones Post 4 [some (.ref 7), some (.int x1), some (.int (x2 + nI 1))] [] M)))) :
  PX G d m_X4_idleStones Post 4 [some (.ref 7), some (.int x1), some (.int x2)] [] M := wp_ok [(4, [true, true, true])] ok_X4_idleStones tk_X4_idleStones 300 _ _ _ _ h
set_option maxRecDepth 100000 in
theorem g_X4_seatedChildren_0 {G : GG} {d : Nat} {Post : Option Value → PM → Prop} {M : PM} (h : PC G d m_X4_idleChildren [.ref 7] M (fun v N1 => gI v (fun r1 => PC G d m_J6_bitCount_0f7a4 [.int r1] N1 (fun v N2 => gI v (fun r2 => Post (some (.int ((M.1 1 6) - r2))) N2))))) :
  PX G d m_X4_seatedChildren Post 0 [some (.ref 7)] [] M := wp_ok [] ok_X4_seatedChildren tk_X4_seatedChildren 300 _ _ _ _ h
set_option maxRecDepth 100000 in
theorem g_X4_stoneMoment_0 {G : GG} {d : Nat} {Post : Option Value → PM → Prop} {M : PM} {x1 : Int32} (h : PX G d m_X4_stoneMoment Post 4 [some (.ref 7), some (.int x1), some (.int (nI 0)), some (.int (nI 0))] [] M) :
  PX G d m_X4_stoneMoment Post 0 [some (.ref 7), some (.int x1), none, none] [] M := wp_ok [(4, [true, true, true, true])] ok_X4_stoneMoment tk_X4_stoneMoment 300 _ _ _ _ h
set_option maxRecDepth 100000 in
theorem g_X4_stoneMoment_4 {G : GG} {d : Nat} {Post : Option Value → PM → Prop} {M : PM} {x1 : Int32} {x2 : Int32} {x3 : Int32} (h : br ((M.1 1 7) ≤ x3)
    (Post (some (.int x2)) M)
    (vp_in x3 5 ∧ (br ((M.1 11 x3.toNatClampNeg) = x1)
      (vp_in x3 5 ∧ (vp_in x3 5 ∧ (PX G d m_X4_stoneMoment Post 4 [some (.ref 7), some (.int x1), some (.int (x2 + ((M.1 6 x3.toNatClampNeg) * (M.1 12 x3.toNatClampNeg)))), some (.int (x3 + nI 1))] [] M)))
      (PX G d m_X4_stoneMoment Post 4 [some (.ref 7), some (.int x1), some (.int x2), some (.int (x3 + nI 1))] [] M)))) :
  PX G d m_X4_stoneMoment Post 4 [some (.ref 7), some (.int x1), some (.int x2), some (.int x3)] [] M := wp_ok [(4, [true, true, true, true])] ok_X4_stoneMoment tk_X4_stoneMoment 300 _ _ _ _ h
set_option maxRecDepth 100000 in
theorem g_X4_moment_0 {G : GG} {d : Nat} {Post : Option Value → PM → Prop} {M : PM} {x1 : Int32} (h : PC G d m_X4_stoneMoment [.ref 7, .int x1] M (fun v N1 => gI v (fun r1 => PX G d m_X4_moment Post 8 [some (.ref 7), some (.int x1), some (.int r1), some (.int (nI 0))] [] N1))) :
  PX G d m_X4_moment Post 0 [some (.ref 7), some (.int x1), none, none] [] M := wp_ok [(8, [true, true, true, true])] ok_X4_moment tk_X4_moment 300 _ _ _ _ h
set_option maxRecDepth 100000 in
theorem g_X4_moment_8 {G : GG} {d : Nat} {Post : Option Value → PM → Prop} {M : PM} {x1 : Int32} {x2 : Int32} {x3 : Int32} (h : br ((M.1 1 6) ≤ x3)
    (Post (some (.int x2)) M)
    (vp_in x3 8 ∧ (br ((M.1 8 x3.toNatClampNeg) = x1)
      (vp_in x3 8 ∧ (vp_in x3 8 ∧ (PX G d m_X4_moment Post 8 [some (.ref 7), some (.int x1), some (.int (x2 + ((M.1 4 x3.toNatClampNeg) * (M.1 9 x3.toNatClampNeg)))), some (.int (x3 + nI 1))] [] M)))
      (PX G d m_X4_moment Post 8 [some (.ref 7), some (.int x1), some (.int x2), some (.int (x3 + nI 1))] [] M)))) :
  PX G d m_X4_moment Post 8 [some (.ref 7), some (.int x1), some (.int x2), some (.int x3)] [] M := wp_ok [(8, [true, true, true, true])] ok_X4_moment tk_X4_moment 300 _ _ _ _ h
set_option maxRecDepth 100000 in
theorem g_X4_tilt_0 {G : GG} {d : Nat} {Post : Option Value → PM → Prop} {M : PM} {x1 : Int32} (h : PC G d m_X4_moment [.ref 7, .int x1] M (fun v N1 => gI v (fun r1 => vp_in x1 3 ∧ (br ((N1.1 3 x1.toNatClampNeg) < (if 0 ≤ r1 then r1 else 0 - r1))
    (br (0 ≤ r1)
      (Post (some (.int (nI 1))) N1)
      (Post (some (.int (-1))) N1))
    (Post (some (.int (nI 0))) N1))))) :
  PX G d m_X4_tilt Post 0 [some (.ref 7), some (.int x1), none] [] M := wp_ok [] ok_X4_tilt tk_X4_tilt 300 _ _ _ _ h
set_option maxRecDepth 100000 in
theorem g_X4_seatChild_0 {G : GG} {d : Nat} {Post : Option Value → PM → Prop} {M : PM} {x1 : Int32} {x2 : Int32} {x3 : Int32} (h : PC G d m_X4_tilt [.ref 7, .int x2] M (fun v N1 => gI v (fun r1 => vp_in x1 8 ∧ (vp_in x1 8 ∧ (PC G d m_X4_settle [.ref 7, .int x2, .int r1] (wI (wI N1 8 x1.toNatClampNeg x2) 9 x1.toNatClampNeg x3) (fun v N2 => gI v (fun r2 => Post (some (.int r2)) N2))))))) :
  PX G d m_X4_seatChild Post 0 [some (.ref 7), some (.int x1), some (.int x2), some (.int x3), none] [] M := wp_ok [] ok_X4_seatChild tk_X4_seatChild 300 _ _ _ _ h
set_option maxRecDepth 100000 in
theorem g_X4_unseatChild_0 {G : GG} {d : Nat} {Post : Option Value → PM → Prop} {M : PM} {x1 : Int32} (h : vp_in x1 8 ∧ (PC G d m_X4_tilt [.ref 7, .int (M.1 8 x1.toNatClampNeg)] M (fun v N1 => gI v (fun r1 => vp_in x1 8 ∧ (PC G d m_X4_settle [.ref 7, .int (M.1 8 x1.toNatClampNeg), .int r1] (wI N1 9 x1.toNatClampNeg (nI 0)) (fun v N2 => gI v (fun r2 => Post (some (.int r2)) N2))))))) :
  PX G d m_X4_unseatChild Post 0 [some (.ref 7), some (.int x1), none, none] [] M := wp_ok [] ok_X4_unseatChild tk_X4_unseatChild 300 _ _ _ _ h
set_option maxRecDepth 100000 in
theorem g_X4_putStone_0 {G : GG} {d : Nat} {Post : Option Value → PM → Prop} {M : PM} {x1 : Int32} {x2 : Int32} {x3 : Int32} (h : PC G d m_X4_tilt [.ref 7, .int x2] M (fun v N1 => gI v (fun r1 => vp_in x1 5 ∧ (vp_in x1 5 ∧ (PC G d m_X4_settle [.ref 7, .int x2, .int r1] (wI (wI N1 11 x1.toNatClampNeg x2) 12 x1.toNatClampNeg x3) (fun v N2 => gI v (fun r2 => Post (some (.int r2)) N2))))))) :
  PX G d m_X4_putStone Post 0 [some (.ref 7), some (.int x1), some (.int x2), some (.int x3), none] [] M := wp_ok [] ok_X4_putStone tk_X4_putStone 300 _ _ _ _ h
set_option maxRecDepth 100000 in
theorem g_X4_liftStone_0 {G : GG} {d : Nat} {Post : Option Value → PM → Prop} {M : PM} {x1 : Int32} (h : vp_in x1 5 ∧ (PC G d m_X4_tilt [.ref 7, .int (M.1 11 x1.toNatClampNeg)] M (fun v N1 => gI v (fun r1 => vp_in x1 5 ∧ (PC G d m_X4_settle [.ref 7, .int (M.1 11 x1.toNatClampNeg), .int r1] (wI N1 12 x1.toNatClampNeg (nI 0)) (fun v N2 => gI v (fun r2 => Post (some (.int r2)) N2))))))) :
  PX G d m_X4_liftStone Post 0 [some (.ref 7), some (.int x1), none, none] [] M := wp_ok [] ok_X4_liftStone tk_X4_liftStone 300 _ _ _ _ h
set_option maxRecDepth 100000 in
theorem g_X4_settle_0 {G : GG} {d : Nat} {Post : Option Value → PM → Prop} {M : PM} {x1 : Int32} {x2 : Int32} (h : PC G d m_X4_tilt [.ref 7, .int x1] M (fun v N1 => gI v (fun r1 => br (r1 = 0)
    (Post (some (.int (nI 0))) N1)
    (br (r1 = x2)
      (Post (some (.int (nI 0))) N1)
      (PX G d m_X4_settle Post 23 [some (.ref 7), some (.int x1), none, some (.int r1), some (.int (nI 0)), some (.int (nI 0))] [] N1))))) :
  PX G d m_X4_settle Post 0 [some (.ref 7), some (.int x1), some (.int x2), none, none, none] [] M := wp_ok [(23, [true, true, false, true, true, true])] ok_X4_settle tk_X4_settle 300 _ _ _ _ h
set_option maxRecDepth 100000 in
theorem g_X4_settle_23 {G : GG} {d : Nat} {Post : Option Value → PM → Prop} {M : PM} {x1 : Int32} {x3 : Int32} {x4 : Int32} {x5 : Int32} (h : br ((M.1 1 6) ≤ x5)
    (Post (some (.int x4)) M)
    (vp_in x5 8 ∧ (br ((M.1 8 x5.toNatClampNeg) = x1)
      (vp_in x5 8 ∧ (PC G d m_J6_signum_0f7a4 [.int (M.1 9 x5.toNatClampNeg)] M (fun v N1 => gI v (fun r1 => br (r1 = x3)
        (vp_in x5 8 ∧ (vp_in x5 8 ∧ (PX G d m_X4_settle Post 23 [some (.ref 7), some (.int x1), none, some (.int x3), some (.int (x4 + nI 1)), some (.int (x5 + nI 1))] [] (wI N1 10 x5.toNatClampNeg ((N1.1 10 x5.toNatClampNeg) + (nI 1))))))
        (PX G d m_X4_settle Post 23 [some (.ref 7), some (.int x1), none, some (.int x3), some (.int x4), some (.int (x5 + nI 1))] [] N1)))))
      (PX G d m_X4_settle Post 23 [some (.ref 7), some (.int x1), none, some (.int x3), some (.int x4), some (.int (x5 + nI 1))] [] M)))) :
  PX G d m_X4_settle Post 23 [some (.ref 7), some (.int x1), none, some (.int x3), some (.int x4), some (.int x5)] [] M := wp_ok [(23, [true, true, false, true, true, true])] ok_X4_settle tk_X4_settle 300 _ _ _ _ h
set_option maxRecDepth 100000 in
theorem g_J6_bitCount_0f7a4_0 {G : GG} {d : Nat} {Post : Option Value → PM → Prop} {M : PM} {x0 : Int32} (h : Post (some (.int ((((((((x0 - (((x0.toUInt32 >>> ((nI 1).toUInt32 &&& Int32.toUInt32 31)).toInt32) &&& (nI 1431655765))) &&& (nI 858993459)) + ((((x0 - (((x0.toUInt32 >>> ((nI 1).toUInt32 &&& Int32.toUInt32 31)).toInt32) &&& (nI 1431655765))).toUInt32 >>> ((nI 2).toUInt32 &&& Int32.toUInt32 31)).toInt32) &&& (nI 858993459))) + (((((x0 - (((x0.toUInt32 >>> ((nI 1).toUInt32 &&& Int32.toUInt32 31)).toInt32) &&& (nI 1431655765))) &&& (nI 858993459)) + ((((x0 - (((x0.toUInt32 >>> ((nI 1).toUInt32 &&& Int32.toUInt32 31)).toInt32) &&& (nI 1431655765))).toUInt32 >>> ((nI 2).toUInt32 &&& Int32.toUInt32 31)).toInt32) &&& (nI 858993459))).toUInt32 >>> ((nI 4).toUInt32 &&& Int32.toUInt32 31)).toInt32)) &&& (nI 252645135)) + (((((((x0 - (((x0.toUInt32 >>> ((nI 1).toUInt32 &&& Int32.toUInt32 31)).toInt32) &&& (nI 1431655765))) &&& (nI 858993459)) + ((((x0 - (((x0.toUInt32 >>> ((nI 1).toUInt32 &&& Int32.toUInt32 31)).toInt32) &&& (nI 1431655765))).toUInt32 >>> ((nI 2).toUInt32 &&& Int32.toUInt32 31)).toInt32) &&& (nI 858993459))) + (((((x0 - (((x0.toUInt32 >>> ((nI 1).toUInt32 &&& Int32.toUInt32 31)).toInt32) &&& (nI 1431655765))) &&& (nI 858993459)) + ((((x0 - (((x0.toUInt32 >>> ((nI 1).toUInt32 &&& Int32.toUInt32 31)).toInt32) &&& (nI 1431655765))).toUInt32 >>> ((nI 2).toUInt32 &&& Int32.toUInt32 31)).toInt32) &&& (nI 858993459))).toUInt32 >>> ((nI 4).toUInt32 &&& Int32.toUInt32 31)).toInt32)) &&& (nI 252645135)).toUInt32 >>> ((nI 8).toUInt32 &&& Int32.toUInt32 31)).toInt32)) + ((((((((x0 - (((x0.toUInt32 >>> ((nI 1).toUInt32 &&& Int32.toUInt32 31)).toInt32) &&& (nI 1431655765))) &&& (nI 858993459)) + ((((x0 - (((x0.toUInt32 >>> ((nI 1).toUInt32 &&& Int32.toUInt32 31)).toInt32) &&& (nI 1431655765))).toUInt32 >>> ((nI 2).toUInt32 &&& Int32.toUInt32 31)).toInt32) &&& (nI 858993459))) + (((((x0 - (((x0.toUInt32 >>> ((nI 1).toUInt32 &&& Int32.toUInt32 31)).toInt32) &&& (nI 1431655765))) &&& (nI 858993459)) + ((((x0 - (((x0.toUInt32 >>> ((nI 1).toUInt32 &&& Int32.toUInt32 31)).toInt32) &&& (nI 1431655765))).toUInt32 >>> ((nI 2).toUInt32 &&& Int32.toUInt32 31)).toInt32) &&& (nI 858993459))).toUInt32 >>> ((nI 4).toUInt32 &&& Int32.toUInt32 31)).toInt32)) &&& (nI 252645135)) + (((((((x0 - (((x0.toUInt32 >>> ((nI 1).toUInt32 &&& Int32.toUInt32 31)).toInt32) &&& (nI 1431655765))) &&& (nI 858993459)) + ((((x0 - (((x0.toUInt32 >>> ((nI 1).toUInt32 &&& Int32.toUInt32 31)).toInt32) &&& (nI 1431655765))).toUInt32 >>> ((nI 2).toUInt32 &&& Int32.toUInt32 31)).toInt32) &&& (nI 858993459))) + (((((x0 - (((x0.toUInt32 >>> ((nI 1).toUInt32 &&& Int32.toUInt32 31)).toInt32) &&& (nI 1431655765))) &&& (nI 858993459)) + ((((x0 - (((x0.toUInt32 >>> ((nI 1).toUInt32 &&& Int32.toUInt32 31)).toInt32) &&& (nI 1431655765))).toUInt32 >>> ((nI 2).toUInt32 &&& Int32.toUInt32 31)).toInt32) &&& (nI 858993459))).toUInt32 >>> ((nI 4).toUInt32 &&& Int32.toUInt32 31)).toInt32)) &&& (nI 252645135)).toUInt32 >>> ((nI 8).toUInt32 &&& Int32.toUInt32 31)).toInt32)).toUInt32 >>> ((nI 16).toUInt32 &&& Int32.toUInt32 31)).toInt32)) &&& (nI 63)))) M) :
  PX G d m_J6_bitCount_0f7a4 Post 0 [some (.int x0)] [] M := wp_ok [] ok_J6_bitCount_0f7a4 tk_J6_bitCount_0f7a4 300 _ _ _ _ h
set_option maxRecDepth 100000 in
theorem g_J6_signum_0f7a4_0 {G : GG} {d : Nat} {Post : Option Value → PM → Prop} {M : PM} {x0 : Int32} (h : Post (some (.int ((x0 >>> ((nI 31) &&& 31)) ||| (((-x0).toUInt32 >>> ((nI 31).toUInt32 &&& Int32.toUInt32 31)).toInt32)))) M) :
  PX G d m_J6_signum_0f7a4 Post 0 [some (.int x0)] [] M := wp_ok [] ok_J6_signum_0f7a4 tk_J6_signum_0f7a4 300 _ _ _ _ h
set_option maxRecDepth 100000 in
theorem g_J0_length_8abf5v0_0 {G : GG} {d : Nat} {Post : Option Value → PM → Prop} {M : PM} (h : PC G d m_J0_coder_7d493 [.ref 210] M (fun v N1 => gI v (fun r1 => Post (some (.int ((nI 5) >>> (r1 &&& 31)))) N1))) :
  PX G d m_J0_length_8abf5 Post 0 [some (.ref 210)] [] M := wp_ok [] ok_J0_length_8abf5 tk_J0_length_8abf5 300 _ _ _ _ h
set_option maxRecDepth 100000 in
theorem g_J0_length_8abf5v1_0 {G : GG} {d : Nat} {Post : Option Value → PM → Prop} {M : PM} (h : PC G d m_J0_coder_7d493 [.ref 211] M (fun v N1 => gI v (fun r1 => Post (some (.int ((nI 5) >>> (r1 &&& 31)))) N1))) :
  PX G d m_J0_length_8abf5 Post 0 [some (.ref 211)] [] M := wp_ok [] ok_J0_length_8abf5 tk_J0_length_8abf5 300 _ _ _ _ h
set_option maxRecDepth 100000 in
theorem g_J0_length_8abf5v2_0 {G : GG} {d : Nat} {Post : Option Value → PM → Prop} {M : PM} (h : PC G d m_J0_coder_7d493 [.ref 212] M (fun v N1 => gI v (fun r1 => Post (some (.int ((nI 5) >>> (r1 &&& 31)))) N1))) :
  PX G d m_J0_length_8abf5 Post 0 [some (.ref 212)] [] M := wp_ok [] ok_J0_length_8abf5 tk_J0_length_8abf5 300 _ _ _ _ h
set_option maxRecDepth 100000 in
theorem g_J0_charAt_5068ev0_0 {G : GG} {d : Nat} {Post : Option Value → PM → Prop} {M : PM} {x1 : Int32} (h : PC G d m_J0_isLatin1_aae02 [.ref 210] M (fun v N1 => gI v (fun r1 => br (r1 = 0)
    (False)
    (PC G d m_J1_charAt_3b067 [.ref 220, .int x1] N1 (fun v N2 => gI v (fun r2 => narrow .char (.int r2) = .int r2 ∧ Post (some (.int r2)) N2)))))) :
  PX G d m_J0_charAt_5068e Post 0 [some (.ref 210), some (.int x1)] [] M := wp_ok [] ok_J0_charAt_5068e tk_J0_charAt_5068e 300 _ _ _ _ h
set_option maxRecDepth 100000 in
theorem g_J0_charAt_5068ev1_0 {G : GG} {d : Nat} {Post : Option Value → PM → Prop} {M : PM} {x1 : Int32} (h : PC G d m_J0_isLatin1_aae02 [.ref 211] M (fun v N1 => gI v (fun r1 => br (r1 = 0)
    (False)
    (PC G d m_J1_charAt_3b067 [.ref 221, .int x1] N1 (fun v N2 => gI v (fun r2 => narrow .char (.int r2) = .int r2 ∧ Post (some (.int r2)) N2)))))) :
  PX G d m_J0_charAt_5068e Post 0 [some (.ref 211), some (.int x1)] [] M := wp_ok [] ok_J0_charAt_5068e tk_J0_charAt_5068e 300 _ _ _ _ h
set_option maxRecDepth 100000 in
theorem g_J0_charAt_5068ev2_0 {G : GG} {d : Nat} {Post : Option Value → PM → Prop} {M : PM} {x1 : Int32} (h : PC G d m_J0_isLatin1_aae02 [.ref 212] M (fun v N1 => gI v (fun r1 => br (r1 = 0)
    (False)
    (PC G d m_J1_charAt_3b067 [.ref 222, .int x1] N1 (fun v N2 => gI v (fun r2 => narrow .char (.int r2) = .int r2 ∧ Post (some (.int r2)) N2)))))) :
  PX G d m_J0_charAt_5068e Post 0 [some (.ref 212), some (.int x1)] [] M := wp_ok [] ok_J0_charAt_5068e tk_J0_charAt_5068e 300 _ _ _ _ h
set_option maxRecDepth 100000 in
theorem g_J0_coder_7d493v0_0 {G : GG} {d : Nat} {Post : Option Value → PM → Prop} {M : PM} (h : br ((nI 1) = 0)
    (narrow .byte (.int (nI 1)) = .int (nI 1) ∧ Post (some (.int (nI 1))) M)
    (narrow .byte (.int (nI 0)) = .int (nI 0) ∧ Post (some (.int (nI 0))) M)) :
  PX G d m_J0_coder_7d493 Post 0 [some (.ref 210)] [] M := wp_ok [] ok_J0_coder_7d493 tk_J0_coder_7d493 300 _ _ _ _ h
set_option maxRecDepth 100000 in
theorem g_J0_coder_7d493v1_0 {G : GG} {d : Nat} {Post : Option Value → PM → Prop} {M : PM} (h : br ((nI 1) = 0)
    (narrow .byte (.int (nI 1)) = .int (nI 1) ∧ Post (some (.int (nI 1))) M)
    (narrow .byte (.int (nI 0)) = .int (nI 0) ∧ Post (some (.int (nI 0))) M)) :
  PX G d m_J0_coder_7d493 Post 0 [some (.ref 211)] [] M := wp_ok [] ok_J0_coder_7d493 tk_J0_coder_7d493 300 _ _ _ _ h
set_option maxRecDepth 100000 in
theorem g_J0_coder_7d493v2_0 {G : GG} {d : Nat} {Post : Option Value → PM → Prop} {M : PM} (h : br ((nI 1) = 0)
    (narrow .byte (.int (nI 1)) = .int (nI 1) ∧ Post (some (.int (nI 1))) M)
    (narrow .byte (.int (nI 0)) = .int (nI 0) ∧ Post (some (.int (nI 0))) M)) :
  PX G d m_J0_coder_7d493 Post 0 [some (.ref 212)] [] M := wp_ok [] ok_J0_coder_7d493 tk_J0_coder_7d493 300 _ _ _ _ h
set_option maxRecDepth 100000 in
theorem g_J0_isLatin1_aae02v0_0 {G : GG} {d : Nat} {Post : Option Value → PM → Prop} {M : PM} (h : br ((nI 1) = 0)
    (((nI 0) = 0 ∨ (nI 0) = 1) ∧ Post (some (.int (nI 0))) M)
    (br ((nI 0) = 0)
      (((nI 1) = 0 ∨ (nI 1) = 1) ∧ Post (some (.int (nI 1))) M)
      (((nI 0) = 0 ∨ (nI 0) = 1) ∧ Post (some (.int (nI 0))) M))) :
  PX G d m_J0_isLatin1_aae02 Post 0 [some (.ref 210)] [] M := wp_ok [] ok_J0_isLatin1_aae02 tk_J0_isLatin1_aae02 300 _ _ _ _ h
set_option maxRecDepth 100000 in
theorem g_J0_isLatin1_aae02v1_0 {G : GG} {d : Nat} {Post : Option Value → PM → Prop} {M : PM} (h : br ((nI 1) = 0)
    (((nI 0) = 0 ∨ (nI 0) = 1) ∧ Post (some (.int (nI 0))) M)
    (br ((nI 0) = 0)
      (((nI 1) = 0 ∨ (nI 1) = 1) ∧ Post (some (.int (nI 1))) M)
      (((nI 0) = 0 ∨ (nI 0) = 1) ∧ Post (some (.int (nI 0))) M))) :
  PX G d m_J0_isLatin1_aae02 Post 0 [some (.ref 211)] [] M := wp_ok [] ok_J0_isLatin1_aae02 tk_J0_isLatin1_aae02 300 _ _ _ _ h
set_option maxRecDepth 100000 in
theorem g_J0_isLatin1_aae02v2_0 {G : GG} {d : Nat} {Post : Option Value → PM → Prop} {M : PM} (h : br ((nI 1) = 0)
    (((nI 0) = 0 ∨ (nI 0) = 1) ∧ Post (some (.int (nI 0))) M)
    (br ((nI 0) = 0)
      (((nI 1) = 0 ∨ (nI 1) = 1) ∧ Post (some (.int (nI 1))) M)
      (((nI 0) = 0 ∨ (nI 0) = 1) ∧ Post (some (.int (nI 0))) M))) :
  PX G d m_J0_isLatin1_aae02 Post 0 [some (.ref 212)] [] M := wp_ok [] ok_J0_isLatin1_aae02 tk_J0_isLatin1_aae02 300 _ _ _ _ h
set_option maxRecDepth 100000 in
theorem g_J0_checkIndex_df160_0 {G : GG} {d : Nat} {Post : Option Value → PM → Prop} {M : PM} {x0 : Int32} {x1 : Int32} (h : (PC G d m_J3_checkIndex_8e157 [.int x0, .int x1, .null] M (fun v N1 => gI v (fun r1 => Post none N1))) ∧ (PC G d m_J3_checkIndex_8e157 [.int x0, .int x1, .ref 230] M (fun v N2 => gI v (fun r2 => Post none N2)))) :
  PX G d m_J0_checkIndex_df160 Post 0 [some (.int x0), some (.int x1)] [] M := wp_ok [] ok_J0_checkIndex_df160 tk_J0_checkIndex_df160 300 _ _ _ _ h
set_option maxRecDepth 100000 in
theorem g_J1_charAt_3b067v0_0 {G : GG} {d : Nat} {Post : Option Value → PM → Prop} {M : PM} {x1 : Int32} (h : PC G d m_J0_checkIndex_df160 [.int x1, .int (nI 5)] M (fun v N1 => gN v (vp_in x1 5 ∧ (narrow .char (.int (((((ctB.getD 0 []).getD x1.toNatClampNeg 0) &&& (nI 255)).toUInt32 % 65536).toInt32)) = .int (((((ctB.getD 0 []).getD x1.toNatClampNeg 0) &&& (nI 255)).toUInt32 % 65536).toInt32) ∧ Post (some (.int (((((ctB.getD 0 []).getD x1.toNatClampNeg 0) &&& (nI 255)).toUInt32 % 65536).toInt32))) N1)))) :
  PX G d m_J1_charAt_3b067 Post 0 [some (.ref 220), some (.int x1)] [] M := wp_ok [] ok_J1_charAt_3b067 tk_J1_charAt_3b067 300 _ _ _ _ h
set_option maxRecDepth 100000 in
theorem g_J1_charAt_3b067v1_0 {G : GG} {d : Nat} {Post : Option Value → PM → Prop} {M : PM} {x1 : Int32} (h : PC G d m_J0_checkIndex_df160 [.int x1, .int (nI 5)] M (fun v N1 => gN v (vp_in x1 5 ∧ (narrow .char (.int (((((ctB.getD 1 []).getD x1.toNatClampNeg 0) &&& (nI 255)).toUInt32 % 65536).toInt32)) = .int (((((ctB.getD 1 []).getD x1.toNatClampNeg 0) &&& (nI 255)).toUInt32 % 65536).toInt32) ∧ Post (some (.int (((((ctB.getD 1 []).getD x1.toNatClampNeg 0) &&& (nI 255)).toUInt32 % 65536).toInt32))) N1)))) :
  PX G d m_J1_charAt_3b067 Post 0 [some (.ref 221), some (.int x1)] [] M := wp_ok [] ok_J1_charAt_3b067 tk_J1_charAt_3b067 300 _ _ _ _ h
set_option maxRecDepth 100000 in
theorem g_J1_charAt_3b067v2_0 {G : GG} {d : Nat} {Post : Option Value → PM → Prop} {M : PM} {x1 : Int32} (h : PC G d m_J0_checkIndex_df160 [.int x1, .int (nI 5)] M (fun v N1 => gN v (vp_in x1 5 ∧ (narrow .char (.int (((((ctB.getD 2 []).getD x1.toNatClampNeg 0) &&& (nI 255)).toUInt32 % 65536).toInt32)) = .int (((((ctB.getD 2 []).getD x1.toNatClampNeg 0) &&& (nI 255)).toUInt32 % 65536).toInt32) ∧ Post (some (.int (((((ctB.getD 2 []).getD x1.toNatClampNeg 0) &&& (nI 255)).toUInt32 % 65536).toInt32))) N1)))) :
  PX G d m_J1_charAt_3b067 Post 0 [some (.ref 222), some (.int x1)] [] M := wp_ok [] ok_J1_charAt_3b067 tk_J1_charAt_3b067 300 _ _ _ _ h
set_option maxRecDepth 100000 in
theorem g_J7_fill_53178v0_0 {G : GG} {d : Nat} {Post : Option Value → PM → Prop} {M : PM} {x1 : Int32} (h : PX G d m_J7_fill_53178 Post 5 [some (.ref 49), some (.int x1), some (.int (nI 0)), some (.int (nI 35))] [] M) :
  PX G d m_J7_fill_53178 Post 0 [some (.ref 49), some (.int x1), none, none] [] M := wp_ok [(5, [true, true, true, true])] ok_J7_fill_53178 tk_J7_fill_53178 300 _ _ _ _ h
set_option maxRecDepth 100000 in
theorem g_J7_fill_53178v0_5 {G : GG} {d : Nat} {Post : Option Value → PM → Prop} {M : PM} {x1 : Int32} {x2 : Int32} {x3 : Int32} (h : br (x3 ≤ x2)
    (Post none M)
    (vp_in x2 35 ∧ (PX G d m_J7_fill_53178 Post 5 [some (.ref 49), some (.int x1), some (.int (x2 + nI 1)), some (.int x3)] [] (wI M 49 x2.toNatClampNeg x1)))) :
  PX G d m_J7_fill_53178 Post 5 [some (.ref 49), some (.int x1), some (.int x2), some (.int x3)] [] M := wp_ok [(5, [true, true, true, true])] ok_J7_fill_53178 tk_J7_fill_53178 300 _ _ _ _ h
set_option maxRecDepth 100000 in
theorem g_J7_fill_53178v1_0 {G : GG} {d : Nat} {Post : Option Value → PM → Prop} {M : PM} {x1 : Int32} (h : PX G d m_J7_fill_53178 Post 5 [some (.ref 50), some (.int x1), some (.int (nI 0)), some (.int (nI 75))] [] M) :
  PX G d m_J7_fill_53178 Post 0 [some (.ref 50), some (.int x1), none, none] [] M := wp_ok [(5, [true, true, true, true])] ok_J7_fill_53178 tk_J7_fill_53178 300 _ _ _ _ h
set_option maxRecDepth 100000 in
theorem g_J7_fill_53178v1_5 {G : GG} {d : Nat} {Post : Option Value → PM → Prop} {M : PM} {x1 : Int32} {x2 : Int32} {x3 : Int32} (h : br (x3 ≤ x2)
    (Post none M)
    (vp_in x2 75 ∧ (PX G d m_J7_fill_53178 Post 5 [some (.ref 50), some (.int x1), some (.int (x2 + nI 1)), some (.int x3)] [] (wI M 50 x2.toNatClampNeg x1)))) :
  PX G d m_J7_fill_53178 Post 5 [some (.ref 50), some (.int x1), some (.int x2), some (.int x3)] [] M := wp_ok [(5, [true, true, true, true])] ok_J7_fill_53178 tk_J7_fill_53178 300 _ _ _ _ h
set_option maxRecDepth 100000 in
theorem g_J3_checkIndex_8e157v0_0 {G : GG} {d : Nat} {Post : Option Value → PM → Prop} {M : PM} {x0 : Int32} {x1 : Int32} (h : br (x0 < 0)
    (False)
    (br (x0 < x1)
      (Post (some (.int x0)) M)
      (False))) :
  PX G d m_J3_checkIndex_8e157 Post 0 [some (.int x0), some (.int x1), some (.null)] [] M := wp_ok [] ok_J3_checkIndex_8e157 tk_J3_checkIndex_8e157 300 _ _ _ _ h
set_option maxRecDepth 100000 in
theorem g_J3_checkIndex_8e157v1_0 {G : GG} {d : Nat} {Post : Option Value → PM → Prop} {M : PM} {x0 : Int32} {x1 : Int32} (h : br (x0 < 0)
    (False)
    (br (x0 < x1)
      (Post (some (.int x0)) M)
      (False))) :
  PX G d m_J3_checkIndex_8e157 Post 0 [some (.int x0), some (.int x1), some (.ref 230)] [] M := wp_ok [] ok_J3_checkIndex_8e157 tk_J3_checkIndex_8e157 300 _ _ _ _ h
end
section
set_option maxRecDepth 100000 in
theorem g_X5_begin_0 {G : GG} {d : Nat} {Post : Option Value → PM → Prop} {M : PM} {x1 : Int32} {x2 : Int32} (h : Post none (wI (wI (wI (wI M 33 5 (nI 0)) 33 6 (nI 0)) 33 7 x1) 33 8 x2)) :
  PX G d m_X5_begin Post 0 [some (.ref 33), some (.int x1), some (.int x2)] [] M := wp_ok [] ok_X5_begin tk_X5_begin 300 _ _ _ _ h
set_option maxRecDepth 100000 in
theorem g_X5_addSeat_0 {G : GG} {d : Nat} {Post : Option Value → PM → Prop} {M : PM} {x1 : Int32} (h : br ((nI 8) ≤ (M.1 33 5))
    (Post none M)
    (vp_in (M.1 33 5) 8 ∧ (Post none (wI (wI M 34 ((M.1 33 5).toNatClampNeg) x1) 33 5 ((M.1 33 5) + (nI 1)))))) :
  PX G d m_X5_addSeat Post 0 [some (.ref 33), some (.int x1)] [] M := wp_ok [] ok_X5_addSeat tk_X5_addSeat 300 _ _ _ _ h
set_option maxRecDepth 100000 in
theorem g_X5_addBody_0 {G : GG} {d : Nat} {Post : Option Value → PM → Prop} {M : PM} {x1 : Int32} {x2 : Int32} (h : br ((nI 8) ≤ (M.1 33 6))
    (Post none M)
    (vp_in (M.1 33 6) 8 ∧ (vp_in (M.1 33 6) 8 ∧ (Post none (wI (wI (wI M 35 ((M.1 33 6).toNatClampNeg) x1) 36 ((M.1 33 6).toNatClampNeg) x2) 33 6 ((M.1 33 6) + (nI 1))))))) :
  PX G d m_X5_addBody Post 0 [some (.ref 33), some (.int x1), some (.int x2)] [] M := wp_ok [] ok_X5_addBody tk_X5_addBody 300 _ _ _ _ h
set_option maxRecDepth 100000 in
theorem g_X5_chosenStep_0 {G : GG} {d : Nat} {Post : Option Value → PM → Prop} {M : PM} {x1 : Int32} (h : br (x1 < 0)
    (Post (some (.int (nI 0))) M)
    (br ((M.1 33 6) ≤ x1)
      (Post (some (.int (nI 0))) M)
      (vp_in x1 8 ∧ (Post (some (.int (M.1 37 x1.toNatClampNeg))) M)))) :
  PX G d m_X5_chosenStep Post 0 [some (.ref 33), some (.int x1)] [] M := wp_ok [] ok_X5_chosenStep tk_X5_chosenStep 300 _ _ _ _ h
set_option maxRecDepth 100000 in
theorem g_X5_countWays_0 {G : GG} {d : Nat} {Post : Option Value → PM → Prop} {M : PM} (h : PC G d m_X5_measureReach [.ref 33] M (fun v N1 => gN v (PC G d m_X5_countFrom [.ref 33, .int (nI 0), .int (nI 0), .int (N1.1 33 7)] N1 (fun v N2 => gI v (fun r2 => Post (some (.int r2)) N2))))) :
  PX G d m_X5_countWays Post 0 [some (.ref 33)] [] M := wp_ok [] ok_X5_countWays tk_X5_countWays 300 _ _ _ _ h
set_option maxRecDepth 100000 in
theorem g_X5_findFirst_0 {G : GG} {d : Nat} {Post : Option Value → PM → Prop} {M : PM} (h : PC G d m_X5_measureReach [.ref 33] M (fun v N1 => gN v (PC G d m_X5_findFrom [.ref 33, .int (nI 0), .int (nI 0), .int (N1.1 33 7)] N1 (fun v N2 => gI v (fun r2 => (r2 = 0 ∨ r2 = 1) ∧ Post (some (.int r2)) N2))))) :
  PX G d m_X5_findFirst Post 0 [some (.ref 33)] [] M := wp_ok [] ok_X5_findFirst tk_X5_findFirst 300 _ _ _ _ h
set_option maxRecDepth 100000 in
theorem g_X5_fewestChanges_0 {G : GG} {d : Nat} {Post : Option Value → PM → Prop} {M : PM} (h : PC G d m_X5_measureReach [.ref 33] M (fun v N1 => gN v (PC G d m_X5_changeFrom [.ref 33, .int (nI 0), .int (nI 0), .int (N1.1 33 7), .int (nI 0)] (wI N1 33 9 ((N1.1 33 6) + (nI 1))) (fun v N2 => gN v (br ((N2.1 33 9) ≤ (N2.1 33 6))
    (Post (some (.int (N2.1 33 9))) N2)
    (Post (some (.int (-1))) N2)))))) :
  PX G d m_X5_fewestChanges Post 0 [some (.ref 33)] [] M := wp_ok [] ok_X5_fewestChanges tk_X5_fewestChanges 300 _ _ _ _ h
set_option maxRecDepth 100000 in
theorem g_X5_measureReach_0 {G : GG} {d : Nat} {Post : Option Value → PM → Prop} {M : PM} (h : vp_in (M.1 33 6) 9 ∧ (PX G d m_X5_measureReach Post 17 [some (.ref 33), some (.int ((M.1 33 6) - (nI 1)))] [] (wI M 38 ((M.1 33 6).toNatClampNeg) (nI 0)))) :
  PX G d m_X5_measureReach Post 0 [some (.ref 33), none] [] M := wp_ok [(17, [true, true])] ok_X5_measureReach tk_X5_measureReach 300 _ _ _ _ h
set_option maxRecDepth 100000 in
theorem g_X5_measureReach_17 {G : GG} {d : Nat} {Post : Option Value → PM → Prop} {M : PM} {x1 : Int32} (h : br (x1 < 0)
    (Post none M)
    (vp_in (x1 + (nI 1)) 9 ∧ (vp_in x1 8 ∧ (vp_in x1 9 ∧ (PX G d m_X5_measureReach Post 17 [some (.ref 33), some (.int (x1 + (-1)))] [] (wI M 38 x1.toNatClampNeg ((M.1 38 ((x1 + (nI 1)).toNatClampNeg)) + ((nI 4) * (M.1 35 x1.toNatClampNeg))))))))) :
  PX G d m_X5_measureReach Post 17 [some (.ref 33), some (.int x1)] [] M := wp_ok [(17, [true, true])] ok_X5_measureReach tk_X5_measureReach 300 _ _ _ _ h
set_option maxRecDepth 100000 in
theorem g_X5_isHopeless_0 {G : GG} {d : Nat} {Post : Option Value → PM → Prop} {M : PM} {x1 : Int32} {x2 : Int32} (h : vp_in x1 9 ∧ (br ((if 0 ≤ x2 then x2 else 0 - x2) ≤ ((M.1 33 8) + (M.1 38 x1.toNatClampNeg)))
    (((nI 0) = 0 ∨ (nI 0) = 1) ∧ Post (some (.int (nI 0))) M)
    (((nI 1) = 0 ∨ (nI 1) = 1) ∧ Post (some (.int (nI 1))) M))) :
  PX G d m_X5_isHopeless Post 0 [some (.ref 33), some (.int x1), some (.int x2)] [] M := wp_ok [] ok_X5_isHopeless tk_X5_isHopeless 300 _ _ _ _ h
set_option maxRecDepth 100000 in
theorem g_X5_countFrom_0 {G : GG} {d : Nat} {Post : Option Value → PM → Prop} {M : PM} {x1 : Int32} {x2 : Int32} {x3 : Int32} (h : PC G d m_X5_isHopeless [.ref 33, .int x1, .int x3] M (fun v N1 => gI v (fun r1 => br (r1 = 0)
    (br (x1 < (N1.1 33 6))
      (PX G d m_X5_countFrom Post 27 [some (.ref 33), some (.int x1), some (.int x2), some (.int x3), some (.int (nI 0)), some (.int (nI 0))] [] N1)
      (Post (some (.int (nI 1))) N1))
    (Post (some (.int (nI 0))) N1)))) :
  PX G d m_X5_countFrom Post 0 [some (.ref 33), some (.int x1), some (.int x2), some (.int x3), none, none] [] M := wp_ok [(27, [true, true, true, true, true, true])] ok_X5_countFrom tk_X5_countFrom 300 _ _ _ _ h
set_option maxRecDepth 100000 in
theorem g_X5_countFrom_27 {G : GG} {d : Nat} {Post : Option Value → PM → Prop} {M : PM} {x1 : Int32} {x2 : Int32} {x3 : Int32} {x4 : Int32} {x5 : Int32} (h : br ((M.1 33 5) ≤ x5)
    (Post (some (.int x4)) M)
    (br ((x2 &&& ((nI 1) <<< (x5 &&& 31))) = 0)
      (vp_in x1 8 ∧ (vp_in x5 8 ∧ (PC G d m_X5_countFrom [.ref 33, .int (x1 + (nI 1)), .int (x2 ||| ((nI 1) <<< (x5 &&& 31))), .int (x3 + ((M.1 35 x1.toNatClampNeg) * (M.1 34 x5.toNatClampNeg)))] M (fun v N1 => gI v (fun r1 => PX G d m_X5_countFrom Post 27 [some (.ref 33), some (.int x1), some (.int x2), some (.int x3), some (.int (x4 + r1)), some (.int (x5 + nI 1))] [] N1)))))
      (PX G d m_X5_countFrom Post 27 [some (.ref 33), some (.int x1), some (.int x2), some (.int x3), some (.int x4), some (.int (x5 + nI 1))] [] M))) :
  PX G d m_X5_countFrom Post 27 [some (.ref 33), some (.int x1), some (.int x2), some (.int x3), some (.int x4), some (.int x5)] [] M := wp_ok [(27, [true, true, true, true, true, true])] ok_X5_countFrom tk_X5_countFrom 300 _ _ _ _ h
set_option maxRecDepth 100000 in
theorem g_X5_findFrom_0 {G : GG} {d : Nat} {Post : Option Value → PM → Prop} {M : PM} {x1 : Int32} {x2 : Int32} {x3 : Int32} (h : PC G d m_X5_isHopeless [.ref 33, .int x1, .int x3] M (fun v N1 => gI v (fun r1 => br (r1 = 0)
    (br (x1 < (N1.1 33 6))
      (PX G d m_X5_findFrom Post 24 [some (.ref 33), some (.int x1), some (.int x2), some (.int x3), some (.int (nI 0))] [] N1)
      (((nI 1) = 0 ∨ (nI 1) = 1) ∧ Post (some (.int (nI 1))) N1))
    (((nI 0) = 0 ∨ (nI 0) = 1) ∧ Post (some (.int (nI 0))) N1)))) :
  PX G d m_X5_findFrom Post 0 [some (.ref 33), some (.int x1), some (.int x2), some (.int x3), none] [] M := wp_ok [(24, [true, true, true, true, true])] ok_X5_findFrom tk_X5_findFrom 300 _ _ _ _ h
set_option maxRecDepth 100000 in
theorem g_X5_findFrom_24 {G : GG} {d : Nat} {Post : Option Value → PM → Prop} {M : PM} {x1 : Int32} {x2 : Int32} {x3 : Int32} {x4 : Int32} (h : br ((M.1 33 5) ≤ x4)
    (((nI 0) = 0 ∨ (nI 0) = 1) ∧ Post (some (.int (nI 0))) M)
    (br ((x2 &&& ((nI 1) <<< (x4 &&& 31))) = 0)
      (vp_in x4 8 ∧ (vp_in x1 8 ∧ (vp_in x1 8 ∧ (vp_in x4 8 ∧ (PC G d m_X5_findFrom [.ref 33, .int (x1 + (nI 1)), .int (x2 ||| ((nI 1) <<< (x4 &&& 31))), .int (x3 + ((M.1 35 x1.toNatClampNeg) * (M.1 34 x4.toNatClampNeg)))] (wI M 37 x1.toNatClampNeg (M.1 34 x4.toNatClampNeg)) (fun v N1 => gI v (fun r1 => br (r1 = 0)
        (PX G d m_X5_findFrom Post 24 [some (.ref 33), some (.int x1), some (.int x2), some (.int x3), some (.int (x4 + nI 1))] [] N1)
        (((nI 1) = 0 ∨ (nI 1) = 1) ∧ Post (some (.int (nI 1))) N1))))))))
      (PX G d m_X5_findFrom Post 24 [some (.ref 33), some (.int x1), some (.int x2), some (.int x3), some (.int (x4 + nI 1))] [] M))) :
  PX G d m_X5_findFrom Post 24 [some (.ref 33), some (.int x1), some (.int x2), some (.int x3), some (.int x4)] [] M := wp_ok [(24, [true, true, true, true, true])] ok_X5_findFrom tk_X5_findFrom 300 _ _ _ _ h
set_option maxRecDepth 100000 in
theorem g_X5_changeFrom_0 {G : GG} {d : Nat} {Post : Option Value → PM → Prop} {M : PM} {x1 : Int32} {x2 : Int32} {x3 : Int32} {x4 : Int32} (h : br ((M.1 33 9) ≤ x4)
    (Post none M)
    (PC G d m_X5_isHopeless [.ref 33, .int x1, .int x3] M (fun v N1 => gI v (fun r1 => br (r1 = 0)
      (br (x1 < (N1.1 33 6))
        (PX G d m_X5_changeFrom Post 37 [some (.ref 33), some (.int x1), some (.int x2), some (.int x3), some (.int x4), some (.int (nI 0)), none] [] N1)
        (Post none (wI N1 33 9 x4)))
      (Post none N1))))) :
  PX G d m_X5_changeFrom Post 0 [some (.ref 33), some (.int x1), some (.int x2), some (.int x3), some (.int x4), none, none] [] M := wp_ok [(37, [true, true, true, true, true, true, false])] ok_X5_changeFrom tk_X5_changeFrom 300 _ _ _ _ h
set_option maxRecDepth 100000 in
theorem g_X5_changeFrom_37 {G : GG} {d : Nat} {Post : Option Value → PM → Prop} {M : PM} {x1 : Int32} {x2 : Int32} {x3 : Int32} {x4 : Int32} {x5 : Int32} (h : br ((M.1 33 5) ≤ x5)
    (Post none M)
    (br ((x2 &&& ((nI 1) <<< (x5 &&& 31))) = 0)
      (vp_in x5 8 ∧ (vp_in x1 8 ∧ (br ((M.1 34 x5.toNatClampNeg) = (M.1 36 x1.toNatClampNeg))
        (vp_in x1 8 ∧ (vp_in x5 8 ∧ (PC G d m_X5_changeFrom [.ref 33, .int (x1 + (nI 1)), .int (x2 ||| ((nI 1) <<< (x5 &&& 31))), .int (x3 + ((M.1 35 x1.toNatClampNeg) * (M.1 34 x5.toNatClampNeg))), .int (x4 + (nI 0))] M (fun v N2 => gN v (PX G d m_X5_changeFrom Post 37 [some (.ref 33), some (.int x1), some (.int x2), some (.int x3), some (.int x4), some (.int (x5 + nI 1)), none] [] N2)))))
        (vp_in x1 8 ∧ (vp_in x5 8 ∧ (PC G d m_X5_changeFrom [.ref 33, .int (x1 + (nI 1)), .int (x2 ||| ((nI 1) <<< (x5 &&& 31))), .int (x3 + ((M.1 35 x1.toNatClampNeg) * (M.1 34 x5.toNatClampNeg))), .int (x4 + (nI 1))] M (fun v N1 => gN v (PX G d m_X5_changeFrom Post 37 [some (.ref 33), some (.int x1), some (.int x2), some (.int x3), some (.int x4), some (.int (x5 + nI 1)), none] [] N1))))))))
      (PX G d m_X5_changeFrom Post 37 [some (.ref 33), some (.int x1), some (.int x2), some (.int x3), some (.int x4), some (.int (x5 + nI 1)), none] [] M))) :
  PX G d m_X5_changeFrom Post 37 [some (.ref 33), some (.int x1), some (.int x2), some (.int x3), some (.int x4), some (.int x5), none] [] M := wp_ok [(37, [true, true, true, true, true, true, false])] ok_X5_changeFrom tk_X5_changeFrom 300 _ _ _ _ h
set_option maxRecDepth 100000 in
theorem g_X6_append_0 {G : GG} {d : Nat} {Post : Option Value → PM → Prop} {M : PM} {x1 : Int32} (h : br ((nI 300) ≤ (M.1 25 2))
    (Post none M)
    (vp_in (M.1 25 2) 300 ∧ (Post none (wI (wI M 32 ((M.1 25 2).toNatClampNeg) x1) 25 2 ((M.1 25 2) + (nI 1)))))) :
  PX G d m_X6_append Post 0 [some (.ref 25), some (.int x1)] [] M := wp_ok [] ok_X6_append tk_X6_append 300 _ _ _ _ h
set_option maxRecDepth 100000 in
theorem g_X6_readAll_0 {G : GG} {d : Nat} {Post : Option Value → PM → Prop} {M : PM} (h : PC G d m_X3_forget [.ref 26] M (fun v N1 => gN v (PX G d m_X6_readAll Post 14 [some (.ref 25), some (.int (nI 0)), none] [] (wI N1 25 4 (nI 0))))) :
  PX G d m_X6_readAll Post 0 [some (.ref 25), none, none] [] M := wp_ok [(14, [true, true, false])] ok_X6_readAll tk_X6_readAll 300 _ _ _ _ h
set_option maxRecDepth 100000 in
theorem g_X6_readAll_14 {G : GG} {d : Nat} {Post : Option Value → PM → Prop} {M : PM} {x1 : Int32} (h : br ((nI 300) < x1)
    (Post (some (.int (-1))) M)
    (PC G d m_X6_readToken [.ref 25] M (fun v N1 => gN v (br ((N1.1 25 5) = 0)
      (Post (some (.int x1)) N1)
      (br ((N1.1 25 5) = (nI 1))
        (PC G d m_X6_readPlank [.ref 25] N1 (fun v N4 => gI v (fun r4 => br (r4 = 0)
          (Post (some (.int (-1))) N4)
          (PX G d m_X6_readAll Post 14 [some (.ref 25), some (.int (x1 + nI 1)), none] [] N4))))
        (br ((N1.1 25 5) = (nI 2))
          (PC G d m_X6_readChild [.ref 25] N1 (fun v N3 => gI v (fun r3 => br (r3 = 0)
            (Post (some (.int (-1))) N3)
            (PX G d m_X6_readAll Post 14 [some (.ref 25), some (.int (x1 + nI 1)), none] [] N3))))
          (br ((N1.1 25 5) = (nI 3))
            (PC G d m_X6_readStone [.ref 25] N1 (fun v N2 => gI v (fun r2 => br (r2 = 0)
              (br ((nI 0) = 0)
                (Post (some (.int (-1))) N2)
                (PX G d m_X6_readAll Post 14 [some (.ref 25), some (.int (x1 + nI 1)), none] [] N2))
              (br ((nI 1) = 0)
                (Post (some (.int (-1))) N2)
                (PX G d m_X6_readAll Post 14 [some (.ref 25), some (.int (x1 + nI 1)), none] [] N2)))))
            (br ((nI 0) = 0)
              (Post (some (.int (-1))) N1)
              (PX G d m_X6_readAll Post 14 [some (.ref 25), some (.int (x1 + nI 1)), none] [] N1))))))))) :
  PX G d m_X6_readAll Post 14 [some (.ref 25), some (.int x1), none] [] M := wp_ok [(14, [true, true, false])] ok_X6_readAll tk_X6_readAll 300 _ _ _ _ h
set_option maxRecDepth 100000 in
theorem g_X6_readPlank_0 {G : GG} {d : Nat} {Post : Option Value → PM → Prop} {M : PM} (h : br ((nI 3) ≤ (M.1 26 5))
    (((nI 0) = 0 ∨ (nI 0) = 1) ∧ Post (some (.int (nI 0))) M)
    (PC G d m_X6_readNumber [.ref 25, .int (nI 1), .int (nI 4)] M (fun v N1 => gI v (fun r1 => br (r1 = 0)
      (((nI 0) = 0 ∨ (nI 0) = 1) ∧ Post (some (.int (nI 0))) N1)
      (vp_in (M.1 26 5) 3 ∧ (PC G d m_X6_readNumber [.ref 25, .int (nI 0), .int (nI 20)] (wI N1 27 ((M.1 26 5).toNatClampNeg) (N1.1 25 6)) (fun v N2 => gI v (fun r2 => br (r2 = 0)
        (((nI 0) = 0 ∨ (nI 0) = 1) ∧ Post (some (.int (nI 0))) N2)
        (vp_in (M.1 26 5) 3 ∧ (PC G d m_X6_readSemicolon [.ref 25] (wI (wI N2 28 ((M.1 26 5).toNatClampNeg) (N2.1 25 6)) 26 5 ((N2.1 26 5) + (nI 1))) (fun v N3 => gI v (fun r3 => (r3 = 0 ∨ r3 = 1) ∧ Post (some (.int r3)) N3)))))))))))) :
  PX G d m_X6_readPlank Post 0 [some (.ref 25), none] [] M := wp_ok [] ok_X6_readPlank tk_X6_readPlank 300 _ _ _ _ h
set_option maxRecDepth 100000 in
theorem g_X6_readChild_0 {G : GG} {d : Nat} {Post : Option Value → PM → Prop} {M : PM} (h : br ((nI 8) ≤ (M.1 26 6))
    (((nI 0) = 0 ∨ (nI 0) = 1) ∧ Post (some (.int (nI 0))) M)
    (PC G d m_X6_readNumber [.ref 25, .int (nI 1), .int (nI 60)] M (fun v N1 => gI v (fun r1 => br (r1 = 0)
      (((nI 0) = 0 ∨ (nI 0) = 1) ∧ Post (some (.int (nI 0))) N1)
      (vp_in (M.1 26 6) 8 ∧ (PC G d m_X6_readNumber [.ref 25, .int (nI 1), .int (nI 30)] (wI N1 29 ((M.1 26 6).toNatClampNeg) (N1.1 25 6)) (fun v N2 => gI v (fun r2 => br (r2 = 0)
        (((nI 0) = 0 ∨ (nI 0) = 1) ∧ Post (some (.int (nI 0))) N2)
        (vp_in (M.1 26 6) 8 ∧ (PC G d m_X6_readSemicolon [.ref 25] (wI (wI N2 30 ((M.1 26 6).toNatClampNeg) (N2.1 25 6)) 26 6 ((N2.1 26 6) + (nI 1))) (fun v N3 => gI v (fun r3 => (r3 = 0 ∨ r3 = 1) ∧ Post (some (.int r3)) N3)))))))))))) :
  PX G d m_X6_readChild Post 0 [some (.ref 25), none] [] M := wp_ok [] ok_X6_readChild tk_X6_readChild 300 _ _ _ _ h
set_option maxRecDepth 100000 in
theorem g_X6_readStone_0 {G : GG} {d : Nat} {Post : Option Value → PM → Prop} {M : PM} (h : br ((nI 5) ≤ (M.1 26 7))
    (((nI 0) = 0 ∨ (nI 0) = 1) ∧ Post (some (.int (nI 0))) M)
    (PC G d m_X6_readNumber [.ref 25, .int (nI 1), .int (nI 20)] M (fun v N1 => gI v (fun r1 => br (r1 = 0)
      (((nI 0) = 0 ∨ (nI 0) = 1) ∧ Post (some (.int (nI 0))) N1)
      (vp_in (M.1 26 7) 5 ∧ (PC G d m_X6_readSemicolon [.ref 25] (wI (wI N1 31 ((M.1 26 7).toNatClampNeg) (N1.1 25 6)) 26 7 ((N1.1 26 7) + (nI 1))) (fun v N2 => gI v (fun r2 => (r2 = 0 ∨ r2 = 1) ∧ Post (some (.int r2)) N2)))))))) :
  PX G d m_X6_readStone Post 0 [some (.ref 25), none] [] M := wp_ok [] ok_X6_readStone tk_X6_readStone 300 _ _ _ _ h
set_option maxRecDepth 100000 in
theorem g_X6_readNumber_0 {G : GG} {d : Nat} {Post : Option Value → PM → Prop} {M : PM} {x1 : Int32} {x2 : Int32} (h : PC G d m_X6_readToken [.ref 25] M (fun v N1 => gN v (br ((N1.1 25 5) = (nI 4))
    (br ((N1.1 25 6) < x1)
      (((nI 0) = 0 ∨ (nI 0) = 1) ∧ Post (some (.int (nI 0))) N1)
      (br (x2 < (N1.1 25 6))
        (((nI 0) = 0 ∨ (nI 0) = 1) ∧ Post (some (.int (nI 0))) N1)
        (((nI 1) = 0 ∨ (nI 1) = 1) ∧ Post (some (.int (nI 1))) N1)))
    (((nI 0) = 0 ∨ (nI 0) = 1) ∧ Post (some (.int (nI 0))) N1)))) :
  PX G d m_X6_readNumber Post 0 [some (.ref 25), some (.int x1), some (.int x2)] [] M := wp_ok [] ok_X6_readNumber tk_X6_readNumber 300 _ _ _ _ h
set_option maxRecDepth 100000 in
theorem g_X6_readSemicolon_0 {G : GG} {d : Nat} {Post : Option Value → PM → Prop} {M : PM} (h : PC G d m_X6_readToken [.ref 25] M (fun v N1 => gN v (br ((N1.1 25 5) = (nI 5))
    (((nI 1) = 0 ∨ (nI 1) = 1) ∧ Post (some (.int (nI 1))) N1)
    (((nI 0) = 0 ∨ (nI 0) = 1) ∧ Post (some (.int (nI 0))) N1)))) :
  PX G d m_X6_readSemicolon Post 0 [some (.ref 25)] [] M := wp_ok [] ok_X6_readSemicolon tk_X6_readSemicolon 300 _ _ _ _ h
set_option maxRecDepth 100000 in
theorem g_X6_readToken_0 {G : GG} {d : Nat} {Post : Option Value → PM → Prop} {M : PM} (h : br ((M.1 25 2) ≤ (M.1 25 4))
    (br ((M.1 25 4) < (M.1 25 2))
      (vp_in (M.1 25 4) 300 ∧ (PC G d m_X6_isLetter [.int (M.1 32 ((M.1 25 4).toNatClampNeg))] (wI M 25 3 (M.1 25 4)) (fun v N1 => gI v (fun r1 => br (r1 = 0)
        (PC G d m_X6_isDigit [.int (M.1 32 ((M.1 25 4).toNatClampNeg))] N1 (fun v N2 => gI v (fun r2 => br (r2 = 0)
          (br ((M.1 32 ((M.1 25 4).toNatClampNeg)) = (nI 59))
            (Post none (wI (wI N2 25 4 ((N2.1 25 4) + (nI 1))) 25 5 (nI 5)))
            (Post none (wI (wI N2 25 4 ((N2.1 25 4) + (nI 1))) 25 5 (nI 6))))
          (PC G d m_X6_readDigits [.ref 25] N2 (fun v N3 => gN v (Post none N3))))))
        (PC G d m_X6_readWord [.ref 25] N1 (fun v N4 => gN v (Post none N4)))))))
      (Post none (wI (wI M 25 3 (M.1 25 4)) 25 5 (nI 0))))
    (vp_in (M.1 25 4) 300 ∧ (br ((M.1 32 ((M.1 25 4).toNatClampNeg)) = (nI 32))
      (PX G d m_X6_readToken Post 0 [some (.ref 25), none] [] (wI M 25 4 ((M.1 25 4) + (nI 1))))
      (br ((M.1 25 4) < (M.1 25 2))
        (vp_in (M.1 25 4) 300 ∧ (PC G d m_X6_isLetter [.int (M.1 32 ((M.1 25 4).toNatClampNeg))] (wI M 25 3 (M.1 25 4)) (fun v N5 => gI v (fun r5 => br (r5 = 0)
          (PC G d m_X6_isDigit [.int (M.1 32 ((M.1 25 4).toNatClampNeg))] N5 (fun v N6 => gI v (fun r6 => br (r6 = 0)
            (br ((M.1 32 ((M.1 25 4).toNatClampNeg)) = (nI 59))
              (Post none (wI (wI N6 25 4 ((N6.1 25 4) + (nI 1))) 25 5 (nI 5)))
              (Post none (wI (wI N6 25 4 ((N6.1 25 4) + (nI 1))) 25 5 (nI 6))))
            (PC G d m_X6_readDigits [.ref 25] N6 (fun v N7 => gN v (Post none N7))))))
          (PC G d m_X6_readWord [.ref 25] N5 (fun v N8 => gN v (Post none N8)))))))
        (Post none (wI (wI M 25 3 (M.1 25 4)) 25 5 (nI 0))))))) :
  PX G d m_X6_readToken Post 0 [some (.ref 25), none] [] M := wp_ok [(0, [true, false])] ok_X6_readToken tk_X6_readToken 300 _ _ _ _ h
set_option maxRecDepth 100000 in
theorem g_X6_readWord_0 {G : GG} {d : Nat} {Post : Option Value → PM → Prop} {M : PM} (h : br ((M.1 25 2) ≤ (M.1 25 4))
    (PC G d m_X6_spells [.ref 25, .ref 210] M (fun v N1 => gI v (fun r1 => br (r1 = 0)
      (PC G d m_X6_spells [.ref 25, .ref 211] N1 (fun v N2 => gI v (fun r2 => br (r2 = 0)
        (PC G d m_X6_spells [.ref 25, .ref 212] N2 (fun v N3 => gI v (fun r3 => br (r3 = 0)
          (Post none (wI N3 25 5 (nI 6)))
          (Post none (wI N3 25 5 (nI 3))))))
        (Post none (wI N2 25 5 (nI 2))))))
      (Post none (wI N1 25 5 (nI 1))))))
    (vp_in (M.1 25 4) 300 ∧ (PC G d m_X6_isLetter [.int (M.1 32 ((M.1 25 4).toNatClampNeg))] M (fun v N4 => gI v (fun r4 => br (r4 = 0)
      (PC G d m_X6_spells [.ref 25, .ref 210] N4 (fun v N5 => gI v (fun r5 => br (r5 = 0)
        (PC G d m_X6_spells [.ref 25, .ref 211] N5 (fun v N6 => gI v (fun r6 => br (r6 = 0)
          (PC G d m_X6_spells [.ref 25, .ref 212] N6 (fun v N7 => gI v (fun r7 => br (r7 = 0)
            (Post none (wI N7 25 5 (nI 6)))
            (Post none (wI N7 25 5 (nI 3))))))
          (Post none (wI N6 25 5 (nI 2))))))
        (Post none (wI N5 25 5 (nI 1))))))
      (PX G d m_X6_readWord Post 0 [some (.ref 25)] [] (wI N4 25 4 ((N4.1 25 4) + (nI 1))))))))) :
  PX G d m_X6_readWord Post 0 [some (.ref 25)] [] M := wp_ok [(0, [true])] ok_X6_readWord tk_X6_readWord 300 _ _ _ _ h
set_option maxRecDepth 100000 in
theorem g_X6_spellsv0_0 {G : GG} {d : Nat} {Post : Option Value → PM → Prop} {M : PM} (h : PC G d m_J0_length_8abf5 [.ref 210] M (fun v N1 => gI v (fun r1 => br (((M.1 25 4) - (M.1 25 3)) = r1)
    (PX G d m_X6_spells Post 20 [some (.ref 25), some (.ref 210), some (.int (nI 0))] [] N1)
    (((nI 0) = 0 ∨ (nI 0) = 1) ∧ Post (some (.int (nI 0))) N1)))) :
  PX G d m_X6_spells Post 0 [some (.ref 25), some (.ref 210), none] [] M := wp_ok [(20, [true, true, true])] ok_X6_spells tk_X6_spells 300 _ _ _ _ h
set_option maxRecDepth 100000 in
theorem g_X6_spellsv0_20 {G : GG} {d : Nat} {Post : Option Value → PM → Prop} {M : PM} {x2 : Int32} (h : PC G d m_J0_length_8abf5 [.ref 210] M (fun v N1 => gI v (fun r1 => br (r1 ≤ x2)
    (((nI 1) = 0 ∨ (nI 1) = 1) ∧ Post (some (.int (nI 1))) N1)
    (vp_in ((N1.1 25 3) + x2) 300 ∧ (PC G d m_J0_charAt_5068e [.ref 210, .int x2] N1 (fun v N2 => gI v (fun r2 => br ((N1.1 32 (((N1.1 25 3) + x2).toNatClampNeg)) = r2)
      (PX G d m_X6_spells Post 20 [some (.ref 25), some (.ref 210), some (.int (x2 + nI 1))] [] N2)
      (((nI 0) = 0 ∨ (nI 0) = 1) ∧ Post (some (.int (nI 0))) N2)))))))) :
  PX G d m_X6_spells Post 20 [some (.ref 25), some (.ref 210), some (.int x2)] [] M := wp_ok [(20, [true, true, true])] ok_X6_spells tk_X6_spells 300 _ _ _ _ h
set_option maxRecDepth 100000 in
theorem g_X6_spellsv1_0 {G : GG} {d : Nat} {Post : Option Value → PM → Prop} {M : PM} (h : PC G d m_J0_length_8abf5 [.ref 211] M (fun v N1 => gI v (fun r1 => br (((M.1 25 4) - (M.1 25 3)) = r1)
    (PX G d m_X6_spells Post 20 [some (.ref 25), some (.ref 211), some (.int (nI 0))] [] N1)
    (((nI 0) = 0 ∨ (nI 0) = 1) ∧ Post (some (.int (nI 0))) N1)))) :
  PX G d m_X6_spells Post 0 [some (.ref 25), some (.ref 211), none] [] M := wp_ok [(20, [true, true, true])] ok_X6_spells tk_X6_spells 300 _ _ _ _ h
set_option maxRecDepth 100000 in
theorem g_X6_spellsv1_20 {G : GG} {d : Nat} {Post : Option Value → PM → Prop} {M : PM} {x2 : Int32} (h : PC G d m_J0_length_8abf5 [.ref 211] M (fun v N1 => gI v (fun r1 => br (r1 ≤ x2)
    (((nI 1) = 0 ∨ (nI 1) = 1) ∧ Post (some (.int (nI 1))) N1)
    (vp_in ((N1.1 25 3) + x2) 300 ∧ (PC G d m_J0_charAt_5068e [.ref 211, .int x2] N1 (fun v N2 => gI v (fun r2 => br ((N1.1 32 (((N1.1 25 3) + x2).toNatClampNeg)) = r2)
      (PX G d m_X6_spells Post 20 [some (.ref 25), some (.ref 211), some (.int (x2 + nI 1))] [] N2)
      (((nI 0) = 0 ∨ (nI 0) = 1) ∧ Post (some (.int (nI 0))) N2)))))))) :
  PX G d m_X6_spells Post 20 [some (.ref 25), some (.ref 211), some (.int x2)] [] M := wp_ok [(20, [true, true, true])] ok_X6_spells tk_X6_spells 300 _ _ _ _ h
set_option maxRecDepth 100000 in
theorem g_X6_spellsv2_0 {G : GG} {d : Nat} {Post : Option Value → PM → Prop} {M : PM} (h : PC G d m_J0_length_8abf5 [.ref 212] M (fun v N1 => gI v (fun r1 => br (((M.1 25 4) - (M.1 25 3)) = r1)
    (PX G d m_X6_spells Post 20 [some (.ref 25), some (.ref 212), some (.int (nI 0))] [] N1)
    (((nI 0) = 0 ∨ (nI 0) = 1) ∧ Post (some (.int (nI 0))) N1)))) :
  PX G d m_X6_spells Post 0 [some (.ref 25), some (.ref 212), none] [] M := wp_ok [(20, [true, true, true])] ok_X6_spells tk_X6_spells 300 _ _ _ _ h
set_option maxRecDepth 100000 in
theorem g_X6_spellsv2_20 {G : GG} {d : Nat} {Post : Option Value → PM → Prop} {M : PM} {x2 : Int32} (h : PC G d m_J0_length_8abf5 [.ref 212] M (fun v N1 => gI v (fun r1 => br (r1 ≤ x2)
    (((nI 1) = 0 ∨ (nI 1) = 1) ∧ Post (some (.int (nI 1))) N1)
    (vp_in ((N1.1 25 3) + x2) 300 ∧ (PC G d m_J0_charAt_5068e [.ref 212, .int x2] N1 (fun v N2 => gI v (fun r2 => br ((N1.1 32 (((N1.1 25 3) + x2).toNatClampNeg)) = r2)
      (PX G d m_X6_spells Post 20 [some (.ref 25), some (.ref 212), some (.int (x2 + nI 1))] [] N2)
      (((nI 0) = 0 ∨ (nI 0) = 1) ∧ Post (some (.int (nI 0))) N2)))))))) :
  PX G d m_X6_spells Post 20 [some (.ref 25), some (.ref 212), some (.int x2)] [] M := wp_ok [(20, [true, true, true])] ok_X6_spells tk_X6_spells 300 _ _ _ _ h
set_option maxRecDepth 100000 in
theorem g_X6_readDigits_0 {G : GG} {d : Nat} {Post : Option Value → PM → Prop} {M : PM} (h : PX G d m_X6_readDigits Post 5 [some (.ref 25), none] [] (wI M 25 6 (nI 0))) :
  PX G d m_X6_readDigits Post 0 [some (.ref 25), none] [] M := wp_ok [(5, [true, false]), (105, [true, false])] ok_X6_readDigits tk_X6_readDigits 300 _ _ _ _ h
set_option maxRecDepth 100000 in
theorem g_X6_readDigits_5 {G : GG} {d : Nat} {Post : Option Value → PM → Prop} {M : PM} (h : br ((M.1 25 2) ≤ (M.1 25 4))
    (vp_in (M.1 25 3) 300 ∧ (br ((M.1 32 ((M.1 25 3).toNatClampNeg)) = (nI 48))
      (br (((M.1 25 4) - (M.1 25 3)) ≤ (nI 1))
        (PX G d m_X6_readDigits Post 105 [some (.ref 25), none] [.int (nI 0)] M)
        (PX G d m_X6_readDigits Post 105 [some (.ref 25), none] [.int (nI 1)] M))
      (PX G d m_X6_readDigits Post 105 [some (.ref 25), none] [.int (nI 0)] M)))
    (vp_in (M.1 25 4) 300 ∧ (PC G d m_X6_isDigit [.int (M.1 32 ((M.1 25 4).toNatClampNeg))] M (fun v N1 => gI v (fun r1 => br (r1 = 0)
      (vp_in (N1.1 25 3) 300 ∧ (br ((N1.1 32 ((N1.1 25 3).toNatClampNeg)) = (nI 48))
        (br (((N1.1 25 4) - (N1.1 25 3)) ≤ (nI 1))
          (PX G d m_X6_readDigits Post 105 [some (.ref 25), none] [.int (nI 0)] N1)
          (PX G d m_X6_readDigits Post 105 [some (.ref 25), none] [.int (nI 1)] N1))
        (PX G d m_X6_readDigits Post 105 [some (.ref 25), none] [.int (nI 0)] N1)))
      (vp_in (N1.1 25 4) 300 ∧ (PX G d m_X6_readDigits Post 5 [some (.ref 25), none] [] (wI (wI N1 25 6 (if ((((nI 10) * (N1.1 25 6)) + (N1.1 32 ((N1.1 25 4).toNatClampNeg))) - (nI 48)) < (nI 100) then ((((nI 10) * (N1.1 25 6)) + (N1.1 32 ((N1.1 25 4).toNatClampNeg))) - (nI 48)) else (nI 100))) 25 4 ((N1.1 25 4) + (nI 1)))))))))) :
  PX G d m_X6_readDigits Post 5 [some (.ref 25), none] [] M := wp_ok [(5, [true, false]), (105, [true, false])] ok_X6_readDigits tk_X6_readDigits 300 _ _ _ _ h
set_option maxRecDepth 100000 in
theorem g_X6_readDigits_105 {G : GG} {d : Nat} {Post : Option Value → PM → Prop} {M : PM} {y0 : Int32} (h : br (y0 = 0)
    (br ((M.1 25 6) ≤ (nI 99))
      (Post none (wI M 25 5 (nI 4)))
      (Post none (wI M 25 5 (nI 6))))
    (Post none (wI M 25 5 (nI 6)))) :
  PX G d m_X6_readDigits Post 105 [some (.ref 25), none] [.int y0] M := wp_ok [(5, [true, false]), (105, [true, false])] ok_X6_readDigits tk_X6_readDigits 300 _ _ _ _ h
set_option maxRecDepth 100000 in
theorem g_X6_isLetter_0 {G : GG} {d : Nat} {Post : Option Value → PM → Prop} {M : PM} {x0 : Int32} (h : br (x0 < (nI 97))
    (((nI 0) = 0 ∨ (nI 0) = 1) ∧ Post (some (.int (nI 0))) M)
    (br ((nI 122) < x0)
      (((nI 0) = 0 ∨ (nI 0) = 1) ∧ Post (some (.int (nI 0))) M)
      (((nI 1) = 0 ∨ (nI 1) = 1) ∧ Post (some (.int (nI 1))) M))) :
  PX G d m_X6_isLetter Post 0 [some (.int x0)] [] M := wp_ok [] ok_X6_isLetter tk_X6_isLetter 300 _ _ _ _ h
set_option maxRecDepth 100000 in
theorem g_X6_isDigit_0 {G : GG} {d : Nat} {Post : Option Value → PM → Prop} {M : PM} {x0 : Int32} (h : br (x0 < (nI 48))
    (((nI 0) = 0 ∨ (nI 0) = 1) ∧ Post (some (.int (nI 0))) M)
    (br ((nI 57) < x0)
      (((nI 0) = 0 ∨ (nI 0) = 1) ∧ Post (some (.int (nI 0))) M)
      (((nI 1) = 0 ∨ (nI 1) = 1) ∧ Post (some (.int (nI 1))) M))) :
  PX G d m_X6_isDigit Post 0 [some (.int x0)] [] M := wp_ok [] ok_X6_isDigit tk_X6_isDigit 300 _ _ _ _ h
set_option maxRecDepth 100000 in
theorem g_X7_begin_0 {G : GG} {d : Nat} {Post : Option Value → PM → Prop} {M : PM} {x1 : Int32} (h : ((nI 0) = 0 ∨ (nI 0) = 1) ∧ (Post none (wI (wI (wI M 44 6 x1) 44 7 (nI 0)) 44 9 (nI 0)))) :
  PX G d m_X7_begin Post 0 [some (.ref 44), some (.int x1)] [] M := wp_ok [] ok_X7_begin tk_X7_begin 300 _ _ _ _ h
set_option maxRecDepth 100000 in
theorem g_X7_hasStranger_0 {G : GG} {d : Nat} {Post : Option Value → PM → Prop} {M : PM} {x1 : Int32} (h : br (x1 < 0)
    (((nI 0) = 0 ∨ (nI 0) = 1) ∧ Post (some (.int (nI 0))) M)
    (br ((M.1 44 6) ≤ x1)
      (((nI 0) = 0 ∨ (nI 0) = 1) ∧ Post (some (.int (nI 0))) M)
      (((nI 1) = 0 ∨ (nI 1) = 1) ∧ Post (some (.int (nI 1))) M))) :
  PX G d m_X7_hasStranger Post 0 [some (.ref 44), some (.int x1)] [] M := wp_ok [] ok_X7_hasStranger tk_X7_hasStranger 300 _ _ _ _ h
set_option maxRecDepth 100000 in
theorem g_X7_addTrial_0 {G : GG} {d : Nat} {Post : Option Value → PM → Prop} {M : PM} {x1 : Int32} {x2 : Int32} {x3 : Int32} (h : br ((nI 12) ≤ (M.1 44 7))
    (Post none M)
    (vp_in (M.1 44 7) 12 ∧ (vp_in (M.1 44 7) 12 ∧ (vp_in (M.1 44 7) 12 ∧ (((nI 0) = 0 ∨ (nI 0) = 1) ∧ (Post none (wI (wI (wI (wI (wI M 45 ((M.1 44 7).toNatClampNeg) x1) 46 ((M.1 44 7).toNatClampNeg) x2) 47 ((M.1 44 7).toNatClampNeg) x3) 44 7 ((M.1 44 7) + (nI 1))) 44 9 (nI 0)))))))) :
  PX G d m_X7_addTrial Post 0 [some (.ref 44), some (.int x1), some (.int x2), some (.int x3)] [] M := wp_ok [] ok_X7_addTrial tk_X7_addTrial 300 _ _ _ _ h
set_option maxRecDepth 100000 in
theorem g_X7_fitting_0 {G : GG} {d : Nat} {Post : Option Value → PM → Prop} {M : PM} (h : PC G d m_X7_survey [.ref 44] M (fun v N1 => gN v (Post (some (.int (N1.1 44 8))) N1))) :
  PX G d m_X7_fitting Post 0 [some (.ref 44)] [] M := wp_ok [] ok_X7_fitting tk_X7_fitting 300 _ _ _ _ h
set_option maxRecDepth 100000 in
theorem g_X7_fittingWith_0 {G : GG} {d : Nat} {Post : Option Value → PM → Prop} {M : PM} {x1 : Int32} {x2 : Int32} (h : PC G d m_X7_survey [.ref 44] M (fun v N1 => gN v (vp_in ((x1 * (nI 7)) + x2) 35 ∧ (Post (some (.int (N1.1 49 (((x1 * (nI 7)) + x2).toNatClampNeg)))) N1)))) :
  PX G d m_X7_fittingWith Post 0 [some (.ref 44), some (.int x1), some (.int x2)] [] M := wp_ok [] ok_X7_fittingWith tk_X7_fittingWith 300 _ _ _ _ h
set_option maxRecDepth 100000 in
theorem g_X7_onlyWeight_0 {G : GG} {d : Nat} {Post : Option Value → PM → Prop} {M : PM} {x1 : Int32} (h : PX G d m_X7_onlyWeight Post 4 [some (.ref 44), some (.int x1), some (.int (nI 0)), some (.int (nI 1))] [] M) :
  PX G d m_X7_onlyWeight Post 0 [some (.ref 44), some (.int x1), none, none] [] M := wp_ok [(4, [true, true, true, true])] ok_X7_onlyWeight tk_X7_onlyWeight 300 _ _ _ _ h
set_option maxRecDepth 100000 in
theorem g_X7_onlyWeight_4 {G : GG} {d : Nat} {Post : Option Value → PM → Prop} {M : PM} {x1 : Int32} {x2 : Int32} {x3 : Int32} (h : br ((nI 6) < x3)
    (Post (some (.int x2)) M)
    (PC G d m_X7_fittingWith [.ref 44, .int x1, .int x3] M (fun v N1 => gI v (fun r1 => br (r1 ≤ 0)
      (PX G d m_X7_onlyWeight Post 4 [some (.ref 44), some (.int x1), some (.int x2), some (.int (x3 + nI 1))] [] N1)
      (br (x2 = 0)
        (PX G d m_X7_onlyWeight Post 4 [some (.ref 44), some (.int x1), some (.int x3), some (.int (x3 + nI 1))] [] N1)
        (Post (some (.int (nI 0))) N1)))))) :
  PX G d m_X7_onlyWeight Post 4 [some (.ref 44), some (.int x1), some (.int x2), some (.int x3)] [] M := wp_ok [(4, [true, true, true, true])] ok_X7_onlyWeight tk_X7_onlyWeight 300 _ _ _ _ h
set_option maxRecDepth 100000 in
theorem g_X7_bestPair_0 {G : GG} {d : Nat} {Post : Option Value → PM → Prop} {M : PM} (h : PX G d m_X7_bestPair Post 4 [some (.ref 44), some (.int (nI 1)), some (.int (nI 0)), none] [] M) :
  PX G d m_X7_bestPair Post 0 [some (.ref 44), none, none, none] [] M := wp_ok [(4, [true, true, true, false]), (16, [true, true, true, true])] ok_X7_bestPair tk_X7_bestPair 300 _ _ _ _ h
set_option maxRecDepth 100000 in
theorem g_X7_bestPair_4 {G : GG} {d : Nat} {Post : Option Value → PM → Prop} {M : PM} {x1 : Int32} {x2 : Int32} (h : br ((M.1 44 6) ≤ x2)
    (Post (some (.int x1)) M)
    (PX G d m_X7_bestPair Post 16 [some (.ref 44), some (.int x1), some (.int x2), some (.int (x2 + (nI 1)))] [] M)) :
  PX G d m_X7_bestPair Post 4 [some (.ref 44), some (.int x1), some (.int x2), none] [] M := wp_ok [(4, [true, true, true, false]), (16, [true, true, true, true])] ok_X7_bestPair tk_X7_bestPair 300 _ _ _ _ h
set_option maxRecDepth 100000 in
theorem g_X7_bestPair_16 {G : GG} {d : Nat} {Post : Option Value → PM → Prop} {M : PM} {x1 : Int32} {x2 : Int32} {x3 : Int32} (h : br ((M.1 44 6) ≤ x3)
    (PX G d m_X7_bestPair Post 4 [some (.ref 44), some (.int x1), some (.int (x2 + nI 1)), none] [] M)
    (PC G d m_X7_leftAtWorst [.ref 44, .int x2, .int x3] M (fun v N1 => gI v (fun r1 => ¬ (nI 10) = 0 ∧ (¬ (nI 10) = 0 ∧ (PC G d m_X7_leftAtWorst [.ref 44, .int (x1 / (nI 10)), .int (x1 - x1 / (nI 10) * (nI 10))] N1 (fun v N2 => gI v (fun r2 => br (r2 ≤ r1)
      (PX G d m_X7_bestPair Post 16 [some (.ref 44), some (.int x1), some (.int x2), some (.int (x3 + nI 1))] [] N2)
      (PX G d m_X7_bestPair Post 16 [some (.ref 44), some (.int (((nI 10) * x2) + x3)), some (.int x2), some (.int (x3 + nI 1))] [] N2))))))))) :
  PX G d m_X7_bestPair Post 16 [some (.ref 44), some (.int x1), some (.int x2), some (.int x3)] [] M := wp_ok [(4, [true, true, true, false]), (16, [true, true, true, true])] ok_X7_bestPair tk_X7_bestPair 300 _ _ _ _ h
set_option maxRecDepth 100000 in
theorem g_X7_leftAtWorst_0 {G : GG} {d : Nat} {Post : Option Value → PM → Prop} {M : PM} {x1 : Int32} {x2 : Int32} (h : PC G d m_X7_survey [.ref 44] M (fun v N1 => gN v (PC G d m_X7_outcomeCell [.int x1, .int x2, .int (nI 0)] N1 (fun v N2 => gI v (fun r2 => vp_in r2 75 ∧ (vp_in (r2 - (nI 1)) 75 ∧ (vp_in (r2 + (nI 1)) 75 ∧ (Post (some (.int (if (N2.1 50 r2.toNatClampNeg) < (if (N2.1 50 ((r2 - (nI 1)).toNatClampNeg)) < (N2.1 50 ((r2 + (nI 1)).toNatClampNeg)) then (N2.1 50 ((r2 + (nI 1)).toNatClampNeg)) else (N2.1 50 ((r2 - (nI 1)).toNatClampNeg))) then (if (N2.1 50 ((r2 - (nI 1)).toNatClampNeg)) < (N2.1 50 ((r2 + (nI 1)).toNatClampNeg)) then (N2.1 50 ((r2 + (nI 1)).toNatClampNeg)) else (N2.1 50 ((r2 - (nI 1)).toNatClampNeg))) else (N2.1 50 r2.toNatClampNeg)))) N2)))))))) :
  PX G d m_X7_leftAtWorst Post 0 [some (.ref 44), some (.int x1), some (.int x2), none] [] M := wp_ok [] ok_X7_leftAtWorst tk_X7_leftAtWorst 300 _ _ _ _ h
set_option maxRecDepth 100000 in
theorem g_X7_outcomeCell_0 {G : GG} {d : Nat} {Post : Option Value → PM → Prop} {M : PM} {x0 : Int32} {x1 : Int32} {x2 : Int32} (h : Post (some (.int (((((x0 * (nI 5)) + x1) * (nI 3)) + x2) + (nI 1)))) M) :
  PX G d m_X7_outcomeCell Post 0 [some (.int x0), some (.int x1), some (.int x2)] [] M := wp_ok [] ok_X7_outcomeCell tk_X7_outcomeCell 300 _ _ _ _ h
set_option maxRecDepth 100000 in
theorem g_X7_survey_0 {G : GG} {d : Nat} {Post : Option Value → PM → Prop} {M : PM} (h : br ((M.1 44 9) = 0)
    (((nI 1) = 0 ∨ (nI 1) = 1) ∧ (PC G d m_J7_fill_53178 [.ref 49, .int (nI 0)] (wI (wI M 44 9 (nI 1)) 44 8 (nI 0)) (fun v N1 => gN v (PC G d m_J7_fill_53178 [.ref 50, .int (nI 0)] N1 (fun v N2 => gN v (PC G d m_X7_guessFrom [.ref 44, .int (nI 0)] N2 (fun v N3 => gN v (Post none N3))))))))
    (Post none M)) :
  PX G d m_X7_survey Post 0 [some (.ref 44)] [] M := wp_ok [] ok_X7_survey tk_X7_survey 300 _ _ _ _ h
set_option maxRecDepth 100000 in
theorem g_X7_guessFrom_0 {G : GG} {d : Nat} {Post : Option Value → PM → Prop} {M : PM} {x1 : Int32} (h : br (x1 < (M.1 44 6))
    (PX G d m_X7_guessFrom Post 22 [some (.ref 44), some (.int x1), some (.int (nI 1))] [] M)
    (PC G d m_X7_guessFits [.ref 44] M (fun v N1 => gI v (fun r1 => br (r1 = 0)
      (Post none N1)
      (PC G d m_X7_tally [.ref 44] N1 (fun v N2 => gN v (Post none N2))))))) :
  PX G d m_X7_guessFrom Post 0 [some (.ref 44), some (.int x1), none] [] M := wp_ok [(22, [true, true, true])] ok_X7_guessFrom tk_X7_guessFrom 300 _ _ _ _ h
set_option maxRecDepth 100000 in
theorem g_X7_guessFrom_22 {G : GG} {d : Nat} {Post : Option Value → PM → Prop} {M : PM} {x1 : Int32} {x2 : Int32} (h : br ((nI 6) < x2)
    (Post none M)
    (vp_in x1 5 ∧ (PC G d m_X7_guessFrom [.ref 44, .int (x1 + (nI 1))] (wI M 48 x1.toNatClampNeg x2) (fun v N1 => gN v (PX G d m_X7_guessFrom Post 22 [some (.ref 44), some (.int x1), some (.int (x2 + nI 1))] [] N1))))) :
  PX G d m_X7_guessFrom Post 22 [some (.ref 44), some (.int x1), some (.int x2)] [] M := wp_ok [(22, [true, true, true])] ok_X7_guessFrom tk_X7_guessFrom 300 _ _ _ _ h
set_option maxRecDepth 100000 in
theorem g_X7_guessFits_0 {G : GG} {d : Nat} {Post : Option Value → PM → Prop} {M : PM} (h : PX G d m_X7_guessFits Post 2 [some (.ref 44), some (.int (nI 0))] [] M) :
  PX G d m_X7_guessFits Post 0 [some (.ref 44), none] [] M := wp_ok [(2, [true, true])] ok_X7_guessFits tk_X7_guessFits 300 _ _ _ _ h
set_option maxRecDepth 100000 in
theorem g_X7_guessFits_2 {G : GG} {d : Nat} {Post : Option Value → PM → Prop} {M : PM} {x1 : Int32} (h : br ((M.1 44 7) ≤ x1)
    (((nI 1) = 0 ∨ (nI 1) = 1) ∧ Post (some (.int (nI 1))) M)
    (vp_in x1 12 ∧ (vp_in (M.1 46 x1.toNatClampNeg) 5 ∧ (vp_in x1 12 ∧ (vp_in (M.1 45 x1.toNatClampNeg) 5 ∧ (PC G d m_J6_signum_0f7a4 [.int ((M.1 48 ((M.1 46 x1.toNatClampNeg).toNatClampNeg)) - (M.1 48 ((M.1 45 x1.toNatClampNeg).toNatClampNeg)))] M (fun v N1 => gI v (fun r1 => vp_in x1 12 ∧ (br (r1 = (N1.1 47 x1.toNatClampNeg))
      (PX G d m_X7_guessFits Post 2 [some (.ref 44), some (.int (x1 + nI 1))] [] N1)
      (((nI 0) = 0 ∨ (nI 0) = 1) ∧ Post (some (.int (nI 0))) N1)))))))))) :
  PX G d m_X7_guessFits Post 2 [some (.ref 44), some (.int x1)] [] M := wp_ok [(2, [true, true])] ok_X7_guessFits tk_X7_guessFits 300 _ _ _ _ h
set_option maxRecDepth 100000 in
theorem g_X7_tally_0 {G : GG} {d : Nat} {Post : Option Value → PM → Prop} {M : PM} (h : PX G d m_X7_tally Post 12 [some (.ref 44), some (.int (nI 0)), none] [] (wI M 44 8 ((M.1 44 8) + (nI 1)))) :
  PX G d m_X7_tally Post 0 [some (.ref 44), none, none] [] M := wp_ok [(12, [true, true, false]), (44, [true, true, true])] ok_X7_tally tk_X7_tally 300 _ _ _ _ h
set_option maxRecDepth 100000 in
theorem g_X7_tally_12 {G : GG} {d : Nat} {Post : Option Value → PM → Prop} {M : PM} {x1 : Int32} (h : br ((M.1 44 6) ≤ x1)
    (Post none M)
    (vp_in x1 5 ∧ (vp_in ((x1 * (nI 7)) + (M.1 48 x1.toNatClampNeg)) 35 ∧ (vp_in ((x1 * (nI 7)) + (M.1 48 x1.toNatClampNeg)) 35 ∧ (PX G d m_X7_tally Post 44 [some (.ref 44), some (.int x1), some (.int (x1 + (nI 1)))] [] (wI M 49 (((x1 * (nI 7)) + (M.1 48 x1.toNatClampNeg)).toNatClampNeg) ((M.1 49 (((x1 * (nI 7)) + (M.1 48 x1.toNatClampNeg)).toNatClampNeg)) + (nI 1)))))))) :
  PX G d m_X7_tally Post 12 [some (.ref 44), some (.int x1), none] [] M := wp_ok [(12, [true, true, false]), (44, [true, true, true])] ok_X7_tally tk_X7_tally 300 _ _ _ _ h
set_option maxRecDepth 100000 in
theorem g_X7_tally_44 {G : GG} {d : Nat} {Post : Option Value → PM → Prop} {M : PM} {x1 : Int32} {x2 : Int32} (h : br ((M.1 44 6) ≤ x2)
    (PX G d m_X7_tally Post 12 [some (.ref 44), some (.int (x1 + nI 1)), none] [] M)
    (vp_in x2 5 ∧ (vp_in x1 5 ∧ (PC G d m_J6_signum_0f7a4 [.int ((M.1 48 x2.toNatClampNeg) - (M.1 48 x1.toNatClampNeg))] M (fun v N1 => gI v (fun r1 => PC G d m_X7_outcomeCell [.int x1, .int x2, .int r1] N1 (fun v N2 => gI v (fun r2 => vp_in r2 75 ∧ (vp_in r2 75 ∧ (PX G d m_X7_tally Post 44 [some (.ref 44), some (.int x1), some (.int (x2 + nI 1))] [] (wI N2 50 r2.toNatClampNeg ((N2.1 50 r2.toNatClampNeg) + (nI 1))))))))))))) :
  PX G d m_X7_tally Post 44 [some (.ref 44), some (.int x1), some (.int x2)] [] M := wp_ok [(12, [true, true, false]), (44, [true, true, true])] ok_X7_tally tk_X7_tally 300 _ _ _ _ h
end
section
set_option maxRecDepth 100000 in
theorem g_X8_type_0 {G : GG} {d : Nat} {Post : Option Value → PM → Prop} {M : PM} {x1 : Int64} {x3 : Int32} (h : br (x3 < (nI 1))
    (Post (some (.int (-1))) M)
    (br (x3 ≤ (nI 8))
      (br (((M.1 25 2) + x3) ≤ (nI 300))
        (PX G d m_X8_type Post 36 [some (.ref 0), some (.long x1), none, none, some (.int (x3 - (nI 1)))] [] M)
        (Post (some (.int (-3))) M))
      (Post (some (.int (-1))) M))) :
  PX G d m_X8_type Post 0 [some (.ref 0), some (.long x1), none, some (.int x3), none] [] M := wp_ok [(36, [true, true, false, false, true])] ok_X8_type tk_X8_type 300 _ _ _ _ h
set_option maxRecDepth 100000 in
theorem g_X8_type_36 {G : GG} {d : Nat} {Post : Option Value → PM → Prop} {M : PM} {x1 : Int64} {x4 : Int32} (h : br (x4 < 0)
    (Post (some (.int (M.1 25 2))) M)
    (PC G d m_X6_append [.ref 25, .int ((((x1.toUInt64 >>> (((nI 8) * x4).toInt64.toUInt64 &&& Int64.toUInt64 63)).toInt64) &&& 255).toInt32)] M (fun v N1 => gN v (PX G d m_X8_type Post 36 [some (.ref 0), some (.long x1), none, none, some (.int (x4 + (-1)))] [] N1)))) :
  PX G d m_X8_type Post 36 [some (.ref 0), some (.long x1), none, none, some (.int x4)] [] M := wp_ok [(36, [true, true, false, false, true])] ok_X8_type tk_X8_type 300 _ _ _ _ h
set_option maxRecDepth 100000 in
theorem g_X8_clear_0 {G : GG} {d : Nat} {Post : Option Value → PM → Prop} {M : PM} (h : Post (some (.int (M.1 25 2))) (wI M 25 2 (nI 0))) :
  PX G d m_X8_clear Post 0 [some (.ref 0), none] [] M := wp_ok [] ok_X8_clear tk_X8_clear 300 _ _ _ _ h
set_option maxRecDepth 100000 in
theorem g_X8_park_0 {G : GG} {d : Nat} {Post : Option Value → PM → Prop} {M : PM} (h : PC G d m_X6_readAll [.ref 25] M (fun v N1 => gI v (fun r1 => br (0 ≤ r1)
    (PC G d m_X3_copyFrom [.ref 1, .ref 26] N1 (fun v N2 => gN v (PC G d m_X4_reset [.ref 7] N2 (fun v N3 => gN v (((nI 0) = 0 ∨ (nI 0) = 1) ∧ (((nI 0) = 0 ∨ (nI 0) = 1) ∧ (Post (some (.int r1)) (wI (wI (wI N3 13 6 (nI 0)) 19 6 (nI 0)) 25 2 (nI 0)))))))))
    (Post (some (.int ((-10) - (N1.1 25 3)))) N1)))) :
  PX G d m_X8_park Post 0 [some (.ref 0), none] [] M := wp_ok [] ok_X8_park tk_X8_park 300 _ _ _ _ h
set_option maxRecDepth 100000 in
theorem g_X8_plank_0 {G : GG} {d : Nat} {Post : Option Value → PM → Prop} {M : PM} {x1 : Int32} {x2 : Int32} (h : PC G d m_X3_hasPlank [.ref 1, .int x1] M (fun v N1 => gI v (fun r1 => br (r1 = 0)
    (Post (some (.int (-1000000))) N1)
    ((x2 = 0 → vp_in x1 3 ∧ (Post (some (.int (N1.1 2 x1.toNatClampNeg))) N1)) ∧
    (x2 = 1 → vp_in x1 3 ∧ (Post (some (.int (N1.1 3 x1.toNatClampNeg))) N1)) ∧
    (x2 = 2 → PC G d m_X4_moment [.ref 7, .int x1] N1 (fun v N2 => gI v (fun r2 => Post (some (.int r2)) N2))) ∧
    (x2 = 3 → PC G d m_X4_tilt [.ref 7, .int x1] N1 (fun v N3 => gI v (fun r3 => Post (some (.int r3)) N3))) ∧
    (x2 = 4 → PC G d m_X4_childrenOn [.ref 7, .int x1] N1 (fun v N4 => gI v (fun r4 => PC G d m_J6_bitCount_0f7a4 [.int r4] N4 (fun v N5 => gI v (fun r5 => Post (some (.int r5)) N5))))) ∧
    ((x2.toInt < 0 ∨ 4 < x2.toInt) → Post (some (.int (-1000000))) N1))))) :
  PX G d m_X8_plank Post 0 [some (.ref 0), some (.int x1), some (.int x2)] [] M := wp_ok [] ok_X8_plank tk_X8_plank 300 _ _ _ _ h
set_option maxRecDepth 100000 in
theorem g_X8_child_0 {G : GG} {d : Nat} {Post : Option Value → PM → Prop} {M : PM} {x1 : Int32} {x2 : Int32} (h : PC G d m_X3_hasChild [.ref 1, .int x1] M (fun v N1 => gI v (fun r1 => br (r1 = 0)
    (Post (some (.int (-1000000))) N1)
    ((x2 = 0 → vp_in x1 8 ∧ (Post (some (.int (N1.1 4 x1.toNatClampNeg))) N1)) ∧
    (x2 = 1 → vp_in x1 8 ∧ (Post (some (.int (N1.1 5 x1.toNatClampNeg))) N1)) ∧
    (x2 = 2 → vp_in x1 8 ∧ (br ((N1.1 9 x1.toNatClampNeg) = 0)
        (Post (some (.int (-9))) N1)
        (vp_in x1 8 ∧ (Post (some (.int (N1.1 8 x1.toNatClampNeg))) N1)))) ∧
    (x2 = 3 → vp_in x1 8 ∧ (Post (some (.int (N1.1 9 x1.toNatClampNeg))) N1)) ∧
    (x2 = 4 → vp_in x1 8 ∧ (Post (some (.int (N1.1 10 x1.toNatClampNeg))) N1)) ∧
    ((x2.toInt < 0 ∨ 4 < x2.toInt) → Post (some (.int (-1000000))) N1))))) :
  PX G d m_X8_child Post 0 [some (.ref 0), some (.int x1), some (.int x2)] [] M := wp_ok [] ok_X8_child tk_X8_child 300 _ _ _ _ h
set_option maxRecDepth 100000 in
theorem g_X8_stone_0 {G : GG} {d : Nat} {Post : Option Value → PM → Prop} {M : PM} {x1 : Int32} {x2 : Int32} (h : PC G d m_X3_hasStone [.ref 1, .int x1] M (fun v N1 => gI v (fun r1 => br (r1 = 0)
    (Post (some (.int (-1000000))) N1)
    ((x2 = 0 → vp_in x1 5 ∧ (Post (some (.int (N1.1 6 x1.toNatClampNeg))) N1)) ∧
    (x2 = 1 → vp_in x1 5 ∧ (br ((N1.1 12 x1.toNatClampNeg) = 0)
        (Post (some (.int (-9))) N1)
        (vp_in x1 5 ∧ (Post (some (.int (N1.1 11 x1.toNatClampNeg))) N1)))) ∧
    (x2 = 2 → vp_in x1 5 ∧ (Post (some (.int (N1.1 12 x1.toNatClampNeg))) N1)) ∧
    ((x2.toInt < 0 ∨ 2 < x2.toInt) → Post (some (.int (-1000000))) N1))))) :
  PX G d m_X8_stone Post 0 [some (.ref 0), some (.int x1), some (.int x2)] [] M := wp_ok [] ok_X8_stone tk_X8_stone 300 _ _ _ _ h
set_option maxRecDepth 100000 in
theorem g_X8_sits_0 {G : GG} {d : Nat} {Post : Option Value → PM → Prop} {M : PM} {x1 : Int32} {x2 : Int32} {x3 : Int32} (h : PC G d m_X3_hasChild [.ref 1, .int x1] M (fun v N1 => gI v (fun r1 => br (r1 = 0)
    (Post (some (.int (-1))) N1)
    (PC G d m_X3_hasSeat [.ref 1, .int x2, .int x3] N1 (fun v N2 => gI v (fun r2 => br (r2 = 0)
      (Post (some (.int (-1))) N2)
      (PC G d m_X4_hasChildAt [.ref 7, .int x2, .int x3] N2 (fun v N3 => gI v (fun r3 => br (r3 = 0)
        (vp_in x1 8 ∧ (br ((N3.1 9 x1.toNatClampNeg) = 0)
          (PC G d m_X4_seatChild [.ref 7, .int x1, .int x2, .int x3] N3 (fun v N6 => gI v (fun r6 => Post (some (.int ((nI 0) + r6))) N6)))
          (PC G d m_X4_unseatChild [.ref 7, .int x1] N3 (fun v N4 => gI v (fun r4 => PC G d m_X4_seatChild [.ref 7, .int x1, .int x2, .int x3] N4 (fun v N5 => gI v (fun r5 => Post (some (.int (r4 + r5))) N5)))))))
        (Post (some (.int (-2))) N3)))))))))) :
  PX G d m_X8_sits Post 0 [some (.ref 0), some (.int x1), some (.int x2), some (.int x3), none] [] M := wp_ok [] ok_X8_sits tk_X8_sits 300 _ _ _ _ h
set_option maxRecDepth 100000 in
theorem g_X8_leaves_0 {G : GG} {d : Nat} {Post : Option Value → PM → Prop} {M : PM} {x1 : Int32} (h : PC G d m_X3_hasChild [.ref 1, .int x1] M (fun v N1 => gI v (fun r1 => br (r1 = 0)
    (Post (some (.int (-1))) N1)
    (vp_in x1 8 ∧ (br ((N1.1 9 x1.toNatClampNeg) = 0)
      (Post (some (.int (-2))) N1)
      (PC G d m_X4_unseatChild [.ref 7, .int x1] N1 (fun v N2 => gI v (fun r2 => Post (some (.int r2)) N2)))))))) :
  PX G d m_X8_leaves Post 0 [some (.ref 0), some (.int x1)] [] M := wp_ok [] ok_X8_leaves tk_X8_leaves 300 _ _ _ _ h
set_option maxRecDepth 100000 in
theorem g_X8_lay_0 {G : GG} {d : Nat} {Post : Option Value → PM → Prop} {M : PM} {x1 : Int32} {x2 : Int32} {x3 : Int32} (h : PC G d m_X3_hasStone [.ref 1, .int x1] M (fun v N1 => gI v (fun r1 => br (r1 = 0)
    (Post (some (.int (-1))) N1)
    (PC G d m_X3_hasSeat [.ref 1, .int x2, .int x3] N1 (fun v N2 => gI v (fun r2 => br (r2 = 0)
      (Post (some (.int (-1))) N2)
      (PC G d m_X4_hasStoneAt [.ref 7, .int x2, .int x3] N2 (fun v N3 => gI v (fun r3 => br (r3 = 0)
        (vp_in x1 5 ∧ (br ((N3.1 12 x1.toNatClampNeg) = 0)
          (PC G d m_X4_putStone [.ref 7, .int x1, .int x2, .int x3] N3 (fun v N6 => gI v (fun r6 => Post (some (.int ((nI 0) + r6))) N6)))
          (PC G d m_X4_liftStone [.ref 7, .int x1] N3 (fun v N4 => gI v (fun r4 => PC G d m_X4_putStone [.ref 7, .int x1, .int x2, .int x3] N4 (fun v N5 => gI v (fun r5 => Post (some (.int (r4 + r5))) N5)))))))
        (Post (some (.int (-2))) N3)))))))))) :
  PX G d m_X8_lay Post 0 [some (.ref 0), some (.int x1), some (.int x2), some (.int x3), none] [] M := wp_ok [] ok_X8_lay tk_X8_lay 300 _ _ _ _ h
set_option maxRecDepth 100000 in
theorem g_X8_take_0 {G : GG} {d : Nat} {Post : Option Value → PM → Prop} {M : PM} {x1 : Int32} (h : PC G d m_X3_hasStone [.ref 1, .int x1] M (fun v N1 => gI v (fun r1 => br (r1 = 0)
    (Post (some (.int (-1))) N1)
    (vp_in x1 5 ∧ (br ((N1.1 12 x1.toNatClampNeg) = 0)
      (Post (some (.int (-2))) N1)
      (PC G d m_X4_liftStone [.ref 7, .int x1] N1 (fun v N2 => gI v (fun r2 => Post (some (.int r2)) N2)))))))) :
  PX G d m_X8_take Post 0 [some (.ref 0), some (.int x1)] [] M := wp_ok [] ok_X8_take tk_X8_take 300 _ _ _ _ h
set_option maxRecDepth 100000 in
theorem g_X8_ways_0 {G : GG} {d : Nat} {Post : Option Value → PM → Prop} {M : PM} {x1 : Int32} {x2 : Int32} {x3 : Int32} (h : PC G d m_X3_hasPlank [.ref 1, .int x1] M (fun v N1 => gI v (fun r1 => br (r1 = 0)
    (Post (some (.int (-1000000))) N1)
    (br (x3 = (-1 : Int32))
      (PC G d m_X3_allChildren [.ref 1] N1 (fun v N2 => gI v (fun r2 => PC G d m_X8_askWays [.ref 0, .int x1, .int (x2 &&& r2)] N2 (fun v N3 => gN v (br (x3 = (-1 : Int32))
        (PC G d m_X5_countWays [.ref 33] N3 (fun v N7 => gI v (fun r7 => Post (some (.int r7)) N7)))
        (PC G d m_X5_findFirst [.ref 33] N3 (fun v N4 => gI v (fun r4 => br (r4 = 0)
          (Post (some (.int (-9))) N4)
          (br (((x2 &&& r2) &&& ((nI 1) <<< (x3 &&& 31))) = 0)
            (Post (some (.int (nI 0))) N4)
            (PC G d m_J6_bitCount_0f7a4 [.int ((x2 &&& r2) &&& (((nI 1) <<< (x3 &&& 31)) - (nI 1)))] N4 (fun v N5 => gI v (fun r5 => PC G d m_X5_chosenStep [.ref 33, .int r5] N5 (fun v N6 => gI v (fun r6 => Post (some (.int r6)) N6))))))))))))))
      (PC G d m_X3_hasChild [.ref 1, .int x3] N1 (fun v N8 => gI v (fun r8 => br (r8 = 0)
        (Post (some (.int (-1000000))) N8)
        (PC G d m_X3_allChildren [.ref 1] N8 (fun v N9 => gI v (fun r9 => PC G d m_X8_askWays [.ref 0, .int x1, .int (x2 &&& r9)] N9 (fun v N10 => gN v (br (x3 = (-1 : Int32))
          (PC G d m_X5_countWays [.ref 33] N10 (fun v N14 => gI v (fun r14 => Post (some (.int r14)) N14)))
          (PC G d m_X5_findFirst [.ref 33] N10 (fun v N11 => gI v (fun r11 => br (r11 = 0)
            (Post (some (.int (-9))) N11)
            (br (((x2 &&& r9) &&& ((nI 1) <<< (x3 &&& 31))) = 0)
              (Post (some (.int (nI 0))) N11)
              (PC G d m_J6_bitCount_0f7a4 [.int ((x2 &&& r9) &&& (((nI 1) <<< (x3 &&& 31)) - (nI 1)))] N11 (fun v N12 => gI v (fun r12 => PC G d m_X5_chosenStep [.ref 33, .int r12] N12 (fun v N13 => gI v (fun r13 => Post (some (.int r13)) N13))))))))))))))))))))) :
  PX G d m_X8_ways Post 0 [some (.ref 0), some (.int x1), some (.int x2), some (.int x3), none] [] M := wp_ok [] ok_X8_ways tk_X8_ways 300 _ _ _ _ h
set_option maxRecDepth 100000 in
theorem g_X8_most_0 {G : GG} {d : Nat} {Post : Option Value → PM → Prop} {M : PM} {x1 : Int32} {x2 : Int32} (h : PC G d m_X3_hasPlank [.ref 1, .int x1] M (fun v N1 => gI v (fun r1 => br (r1 = 0)
    (Post (some (.int (-1))) N1)
    (PC G d m_X8_isZeroOrOne [.int x2] N1 (fun v N2 => gI v (fun r2 => br (r2 = 0)
      (Post (some (.int (-1))) N2)
      (PC G d m_X1_spread [.ref 39, .ref 1, .int x1] N2 (fun v N3 => gN v (PC G d m_X4_stoneMoment [.ref 7, .int x1] N3 (fun v N4 => gI v (fun r4 => vp_in x1 3 ∧ (PC G d m_X1_largestLevel [.ref 39, .int (N3.1 1 6), .int r4, .int (N4.1 3 x1.toNatClampNeg)] N4 (fun v N5 => gI v (fun r5 => PC G d m_X8_countOrSet [.int r5, .int x2] N5 (fun v N6 => gI v (fun r6 => Post (some (.int r6)) N6)))))))))))))))) :
  PX G d m_X8_most Post 0 [some (.ref 0), some (.int x1), some (.int x2), none] [] M := wp_ok [] ok_X8_most tk_X8_most 300 _ _ _ _ h
set_option maxRecDepth 100000 in
theorem g_X8_moves_0 {G : GG} {d : Nat} {Post : Option Value → PM → Prop} {M : PM} {x1 : Int32} (h : PC G d m_X3_hasPlank [.ref 1, .int x1] M (fun v N1 => gI v (fun r1 => br (r1 = 0)
    (Post (some (.int (-1))) N1)
    (PC G d m_X4_childrenOn [.ref 7, .int x1] N1 (fun v N2 => gI v (fun r2 => PC G d m_X8_askWays [.ref 0, .int x1, .int r2] N2 (fun v N3 => gN v (PC G d m_X5_fewestChanges [.ref 33] N3 (fun v N4 => gI v (fun r4 => br (0 ≤ r4)
      (Post (some (.int r4)) N4)
      (Post (some (.int (-9))) N4))))))))))) :
  PX G d m_X8_moves Post 0 [some (.ref 0), some (.int x1), none] [] M := wp_ok [] ok_X8_moves tk_X8_moves 300 _ _ _ _ h
set_option maxRecDepth 100000 in
theorem g_X8_ballast_0 {G : GG} {d : Nat} {Post : Option Value → PM → Prop} {M : PM} {x1 : Int32} {x2 : Int32} (h : PC G d m_X3_hasPlank [.ref 1, .int x1] M (fun v N1 => gI v (fun r1 => br (r1 = 0)
    (Post (some (.int (-1))) N1)
    (PC G d m_X8_isZeroOrOne [.int x2] N1 (fun v N2 => gI v (fun r2 => br (r2 = 0)
      (Post (some (.int (-1))) N2)
      (PC G d m_X8_leastBallast [.ref 0, .int x1] N2 (fun v N3 => gI v (fun r3 => PC G d m_X8_countOrSet [.int r3, .int x2] N3 (fun v N4 => gI v (fun r4 => Post (some (.int r4)) N4))))))))))) :
  PX G d m_X8_ballast Post 0 [some (.ref 0), some (.int x1), some (.int x2)] [] M := wp_ok [] ok_X8_ballast tk_X8_ballast 300 _ _ _ _ h
set_option maxRecDepth 100000 in
theorem g_X8_game_0 {G : GG} {d : Nat} {Post : Option Value → PM → Prop} {M : PM} {x1 : Int32} {x2 : Int32} (h : PC G d m_X3_hasPlank [.ref 1, .int x1] M (fun v N1 => gI v (fun r1 => br (r1 = 0)
    (Post (some (.int (-1))) N1)
    (PC G d m_X8_isZeroOrOne [.int x2] N1 (fun v N2 => gI v (fun r2 => br (r2 = 0)
      (Post (some (.int (-1))) N2)
      (PC G d m_X4_idleChildren [.ref 7] N2 (fun v N3 => gI v (fun r3 => PC G d m_J6_bitCount_0f7a4 [.int r3] N3 (fun v N4 => gI v (fun r4 => br ((nI 4) < r4)
        (Post (some (.int (-2))) N4)
        (PC G d m_X4_tilt [.ref 7, .int x1] N4 (fun v N5 => gI v (fun r5 => br (r5 = 0)
          (PC G d m_X0_begin [.ref 41, .ref 1, .ref 7, .int x1] N5 (fun v N6 => gN v (PC G d m_X4_moment [.ref 7, .int x1] N6 (fun v N7 => gI v (fun r7 => PC G d m_X0_winningMove [.ref 41, .int r3, .int r7] N7 (fun v N8 => gI v (fun r8 => br (x2 = 0)
            (br (0 ≤ r8)
              (Post (some (.int (nI 1))) N8)
              (Post (some (.int (nI 0))) N8))
            (br (0 ≤ r8)
              (Post (some (.int r8)) N8)
              (Post (some (.int (-9))) N8)))))))))
          (Post (some (.int (-2))) N5))))))))))))))) :
  PX G d m_X8_game Post 0 [some (.ref 0), some (.int x1), some (.int x2), none, none] [] M := wp_ok [] ok_X8_game tk_X8_game 300 _ _ _ _ h
set_option maxRecDepth 100000 in
theorem g_X8_strangers_0 {G : GG} {d : Nat} {Post : Option Value → PM → Prop} {M : PM} {x1 : Int32} (h : br (x1 < (nI 2))
    (Post (some (.int (-1))) M)
    (br (x1 ≤ (nI 5))
      (PC G d m_X7_begin [.ref 44, .int x1] M (fun v N1 => gN v (Post (some (.int (M.1 44 6))) N1)))
      (Post (some (.int (-1))) M))) :
  PX G d m_X8_strangers Post 0 [some (.ref 0), some (.int x1), none] [] M := wp_ok [] ok_X8_strangers tk_X8_strangers 300 _ _ _ _ h
set_option maxRecDepth 100000 in
theorem g_X8_trial_0 {G : GG} {d : Nat} {Post : Option Value → PM → Prop} {M : PM} {x1 : Int32} {x2 : Int32} {x3 : Int32} (h : PC G d m_X7_hasStranger [.ref 44, .int x1] M (fun v N1 => gI v (fun r1 => br (r1 = 0)
    (Post (some (.int (-1))) N1)
    (PC G d m_X7_hasStranger [.ref 44, .int x2] N1 (fun v N2 => gI v (fun r2 => br (r2 = 0)
      (Post (some (.int (-1))) N2)
      (br (x1 = x2)
        (Post (some (.int (-1))) N2)
        (br (x3 < (-1 : Int32))
          (Post (some (.int (-1))) N2)
          (br (x3 ≤ (nI 1))
            (br ((N2.1 44 7) < (nI 12))
              (PC G d m_X7_addTrial [.ref 44, .int x1, .int x2, .int x3] N2 (fun v N3 => gN v (Post (some (.int (N3.1 44 7))) N3)))
              (Post (some (.int (-3))) N2))
            (Post (some (.int (-1))) N2)))))))))) :
  PX G d m_X8_trial Post 0 [some (.ref 0), some (.int x1), some (.int x2), some (.int x3)] [] M := wp_ok [] ok_X8_trial tk_X8_trial 300 _ _ _ _ h
set_option maxRecDepth 100000 in
theorem g_X8_could_0 {G : GG} {d : Nat} {Post : Option Value → PM → Prop} {M : PM} {x1 : Int32} {x2 : Int32} (h : br (x1 = (-1 : Int32))
    (br (x2 < (nI 1))
      (Post (some (.int (-1))) M)
      (br (x2 ≤ (nI 6))
        (br (x1 = (-1 : Int32))
          (PC G d m_X7_fitting [.ref 44] M (fun v N2 => gI v (fun r2 => Post (some (.int r2)) N2)))
          (PC G d m_X7_fittingWith [.ref 44, .int x1, .int x2] M (fun v N1 => gI v (fun r1 => Post (some (.int r1)) N1))))
        (Post (some (.int (-1))) M)))
    (PC G d m_X7_hasStranger [.ref 44, .int x1] M (fun v N3 => gI v (fun r3 => br (r3 = 0)
      (Post (some (.int (-1))) N3)
      (br (x2 < (nI 1))
        (Post (some (.int (-1))) N3)
        (br (x2 ≤ (nI 6))
          (br (x1 = (-1 : Int32))
            (PC G d m_X7_fitting [.ref 44] N3 (fun v N5 => gI v (fun r5 => Post (some (.int r5)) N5)))
            (PC G d m_X7_fittingWith [.ref 44, .int x1, .int x2] N3 (fun v N4 => gI v (fun r4 => Post (some (.int r4)) N4))))
          (Post (some (.int (-1))) N3))))))) :
  PX G d m_X8_could Post 0 [some (.ref 0), some (.int x1), some (.int x2)] [] M := wp_ok [] ok_X8_could tk_X8_could 300 _ _ _ _ h
set_option maxRecDepth 100000 in
theorem g_X8_sure_0 {G : GG} {d : Nat} {Post : Option Value → PM → Prop} {M : PM} {x1 : Int32} (h : PC G d m_X7_hasStranger [.ref 44, .int x1] M (fun v N1 => gI v (fun r1 => br (r1 = 0)
    (Post (some (.int (-1))) N1)
    (PC G d m_X7_onlyWeight [.ref 44, .int x1] N1 (fun v N2 => gI v (fun r2 => br (r2 = 0)
      (Post (some (.int (-9))) N2)
      (Post (some (.int r2)) N2))))))) :
  PX G d m_X8_sure Post 0 [some (.ref 0), some (.int x1), none] [] M := wp_ok [] ok_X8_sure tk_X8_sure 300 _ _ _ _ h
set_option maxRecDepth 100000 in
theorem g_X8_next_0 {G : GG} {d : Nat} {Post : Option Value → PM → Prop} {M : PM} {x1 : Int32} (h : PC G d m_X8_isZeroOrOne [.int x1] M (fun v N1 => gI v (fun r1 => br (r1 = 0)
    (Post (some (.int (-1))) N1)
    (PC G d m_X7_bestPair [.ref 44] N1 (fun v N2 => gI v (fun r2 => br (x1 = 0)
      (Post (some (.int r2)) N2)
      (¬ (nI 10) = 0 ∧ (¬ (nI 10) = 0 ∧ (PC G d m_X7_leftAtWorst [.ref 44, .int (r2 / (nI 10)), .int (r2 - r2 / (nI 10) * (nI 10))] N2 (fun v N3 => gI v (fun r3 => Post (some (.int r3)) N3))))))))))) :
  PX G d m_X8_next Post 0 [some (.ref 0), some (.int x1), none] [] M := wp_ok [] ok_X8_next tk_X8_next 300 _ _ _ _ h
set_option maxRecDepth 100000 in
theorem g_X8_rides_0 {G : GG} {d : Nat} {Post : Option Value → PM → Prop} {M : PM} {x1 : Int32} {x2 : Int32} (h : br (x1 < 0)
    (Post (some (.int (-1))) M)
    (br ((nI 99) < x1)
      (Post (some (.int (-1))) M)
      (br (x2 = (-1 : Int32))
        (PC G d m_X2_run [.ref 51, .int x1] M (fun v N1 => gN v (br (x2 = (-1 : Int32))
          (Post (some (.int (N1.1 51 5))) N1)
          (vp_in x2 8 ∧ (Post (some (.int (N1.1 52 x2.toNatClampNeg))) N1)))))
        (PC G d m_X3_hasChild [.ref 1, .int x2] M (fun v N2 => gI v (fun r2 => br (r2 = 0)
          (Post (some (.int (-1))) N2)
          (PC G d m_X2_run [.ref 51, .int x1] N2 (fun v N3 => gN v (br (x2 = (-1 : Int32))
            (Post (some (.int (N3.1 51 5))) N3)
            (vp_in x2 8 ∧ (Post (some (.int (N3.1 52 x2.toNatClampNeg))) N3))))))))))) :
  PX G d m_X8_rides Post 0 [some (.ref 0), some (.int x1), some (.int x2)] [] M := wp_ok [] ok_X8_rides tk_X8_rides 300 _ _ _ _ h
set_option maxRecDepth 100000 in
theorem g_X8_forever_0 {G : GG} {d : Nat} {Post : Option Value → PM → Prop} {M : PM} (h : PX G d m_X8_forever Post 4 [some (.ref 0), some (.int (nI 0)), some (.int (nI 0))] [] M) :
  PX G d m_X8_forever Post 0 [some (.ref 0), none, none] [] M := wp_ok [(4, [true, true, true])] ok_X8_forever tk_X8_forever 300 _ _ _ _ h
set_option maxRecDepth 100000 in
theorem g_X8_forever_4 {G : GG} {d : Nat} {Post : Option Value → PM → Prop} {M : PM} {x1 : Int32} {x2 : Int32} (h : br ((M.1 1 6) ≤ x2)
    (Post (some (.int x1)) M)
    (PC G d m_X8_hasPartner [.ref 0, .int x2] M (fun v N1 => gI v (fun r1 => br (r1 = 0)
      (PX G d m_X8_forever Post 4 [some (.ref 0), some (.int (x1 ||| ((nI 1) <<< (x2 &&& 31)))), some (.int (x2 + nI 1))] [] N1)
      (PX G d m_X8_forever Post 4 [some (.ref 0), some (.int x1), some (.int (x2 + nI 1))] [] N1))))) :
  PX G d m_X8_forever Post 4 [some (.ref 0), some (.int x1), some (.int x2)] [] M := wp_ok [(4, [true, true, true])] ok_X8_forever tk_X8_forever 300 _ _ _ _ h
set_option maxRecDepth 100000 in
theorem g_X8_rate_0 {G : GG} {d : Nat} {Post : Option Value → PM → Prop} {M : PM} {x1 : Int32} {x2 : Int32} (h : br (x1 < 0)
    (Post (some (.int (-1000000))) M)
    (br ((nI 5) < x1)
      (Post (some (.int (-1000000))) M)
      (PC G d m_X3_hasChild [.ref 1, .int x2] M (fun v N1 => gI v (fun r1 => br (r1 = 0)
        (Post (some (.int (-1000000))) N1)
        (PC G d m_X8_rateAs [.ref 0, .int x1, .int x2, .int (nI 0)] N1 (fun v N2 => gI v (fun r2 => Post (some (.int r2)) N2)))))))) :
  PX G d m_X8_rate Post 0 [some (.ref 0), some (.int x1), some (.int x2)] [] M := wp_ok [] ok_X8_rate tk_X8_rate 300 _ _ _ _ h
set_option maxRecDepth 100000 in
theorem g_X8_keep_0 {G : GG} {d : Nat} {Post : Option Value → PM → Prop} {M : PM} {x1 : Int32} (h : PC G d m_X8_isZeroOrOne [.int x1] M (fun v N1 => gI v (fun r1 => br (r1 = 0)
    (Post (some (.int (-1))) N1)
    (PC G d m_X8_imageOf [.ref 0, .int x1] N1 (fun v N2 => gR v (fun r2 => PX G d m_X8_keep Post 14 [some (.ref 0), none, none] [.ref r2] N2)))))) :
  PX G d m_X8_keep Post 0 [some (.ref 0), some (.int x1), none] [] M := wp_ok [(14, [true, false, false])] ok_X8_keep tk_X8_keep 300 _ _ _ _ h
set_option maxRecDepth 100000 in
theorem g_X8_keep_14_13 {G : GG} {d : Nat} {Post : Option Value → PM → Prop} {M : PM} (h : PC G d m_X4_copyFrom [.ref 13, .ref 7] M (fun v N1 => gN v (((nI 1) = 0 ∨ (nI 1) = 1) ∧ (PC G d m_X4_seatedChildren [.ref 7] (wI N1 13 6 (nI 1)) (fun v N2 => gI v (fun r2 => Post (some (.int r2)) N2)))))) :
  PX G d m_X8_keep Post 14 [some (.ref 0), none, none] [.ref 13] M := wp_ok [(14, [true, false, false])] ok_X8_keep tk_X8_keep 300 _ _ _ _ h
set_option maxRecDepth 100000 in
theorem g_X8_keep_14_19 {G : GG} {d : Nat} {Post : Option Value → PM → Prop} {M : PM} (h : PC G d m_X4_copyFrom [.ref 19, .ref 7] M (fun v N1 => gN v (((nI 1) = 0 ∨ (nI 1) = 1) ∧ (PC G d m_X4_seatedChildren [.ref 7] (wI N1 19 6 (nI 1)) (fun v N2 => gI v (fun r2 => Post (some (.int r2)) N2)))))) :
  PX G d m_X8_keep Post 14 [some (.ref 0), none, none] [.ref 19] M := wp_ok [(14, [true, false, false])] ok_X8_keep tk_X8_keep 300 _ _ _ _ h
set_option maxRecDepth 100000 in
theorem g_X8_back_0 {G : GG} {d : Nat} {Post : Option Value → PM → Prop} {M : PM} {x1 : Int32} (h : PC G d m_X8_isZeroOrOne [.int x1] M (fun v N1 => gI v (fun r1 => br (r1 = 0)
    (Post (some (.int (-1))) N1)
    (PC G d m_X8_imageOf [.ref 0, .int x1] N1 (fun v N2 => gR v (fun r2 => PX G d m_X8_back Post 14 [some (.ref 0), none, none] [.ref r2] N2)))))) :
  PX G d m_X8_back Post 0 [some (.ref 0), some (.int x1), none] [] M := wp_ok [(14, [true, false, false])] ok_X8_back tk_X8_back 300 _ _ _ _ h
set_option maxRecDepth 100000 in
theorem g_X8_back_14_13 {G : GG} {d : Nat} {Post : Option Value → PM → Prop} {M : PM} (h : br ((M.1 13 6) = 0)
    (Post (some (.int (-2))) M)
    (PC G d m_X4_copyFrom [.ref 7, .ref 13] M (fun v N1 => gN v (PC G d m_X4_seatedChildren [.ref 7] N1 (fun v N2 => gI v (fun r2 => Post (some (.int r2)) N2)))))) :
  PX G d m_X8_back Post 14 [some (.ref 0), none, none] [.ref 13] M := wp_ok [(14, [true, false, false])] ok_X8_back tk_X8_back 300 _ _ _ _ h
set_option maxRecDepth 100000 in
theorem g_X8_back_14_19 {G : GG} {d : Nat} {Post : Option Value → PM → Prop} {M : PM} (h : br ((M.1 19 6) = 0)
    (Post (some (.int (-2))) M)
    (PC G d m_X4_copyFrom [.ref 7, .ref 19] M (fun v N1 => gN v (PC G d m_X4_seatedChildren [.ref 7] N1 (fun v N2 => gI v (fun r2 => Post (some (.int r2)) N2)))))) :
  PX G d m_X8_back Post 14 [some (.ref 0), none, none] [.ref 19] M := wp_ok [(14, [true, false, false])] ok_X8_back tk_X8_back 300 _ _ _ _ h
set_option maxRecDepth 100000 in
theorem g_X8_count_0 {G : GG} {d : Nat} {Post : Option Value → PM → Prop} {M : PM} {x1 : Int32} (h : (x1 = 0 → Post (some (.int (M.1 1 5))) M) ∧
  (x1 = 1 → Post (some (.int (M.1 1 6))) M) ∧
  (x1 = 2 → Post (some (.int (M.1 1 7))) M) ∧
  (x1 = 3 → Post (some (.int (M.1 44 7))) M) ∧
  (x1 = 4 → Post (some (.int (M.1 44 6))) M) ∧
  (x1 = 5 → Post (some (.int (M.1 25 2))) M) ∧
  (x1 = 6 → PC G d m_X4_seatedChildren [.ref 7] M (fun v N1 => gI v (fun r1 => Post (some (.int r1)) N1))) ∧
  ((x1.toInt < 0 ∨ 6 < x1.toInt) → Post (some (.int (-1))) M)) :
  PX G d m_X8_count Post 0 [some (.ref 0), some (.int x1)] [] M := wp_ok [] ok_X8_count tk_X8_count 300 _ _ _ _ h
set_option maxRecDepth 100000 in
theorem g_X8_trace_0 {G : GG} {d : Nat} {Post : Option Value → PM → Prop} {M : PM} (h : Post (some (.long (M.2 0 10))) M) :
  PX G d m_X8_trace Post 0 [some (.ref 0)] [] M := wp_ok [] ok_X8_trace tk_X8_trace 300 _ _ _ _ h
set_option maxRecDepth 100000 in
theorem g_X8_isZeroOrOne_0 {G : GG} {d : Nat} {Post : Option Value → PM → Prop} {M : PM} {x0 : Int32} (h : br (x0 = 0)
    (((nI 1) = 0 ∨ (nI 1) = 1) ∧ Post (some (.int (nI 1))) M)
    (br (x0 = (nI 1))
      (((nI 1) = 0 ∨ (nI 1) = 1) ∧ Post (some (.int (nI 1))) M)
      (((nI 0) = 0 ∨ (nI 0) = 1) ∧ Post (some (.int (nI 0))) M))) :
  PX G d m_X8_isZeroOrOne Post 0 [some (.int x0)] [] M := wp_ok [] ok_X8_isZeroOrOne tk_X8_isZeroOrOne 300 _ _ _ _ h
set_option maxRecDepth 100000 in
theorem g_X8_stepOfSeat_0 {G : GG} {d : Nat} {Post : Option Value → PM → Prop} {M : PM} {x0 : Int32} {x1 : Int32} (h : br (x1 ≤ x0)
    (Post (some (.int ((x0 - x1) + (nI 1)))) M)
    (Post (some (.int (x0 - x1))) M)) :
  PX G d m_X8_stepOfSeat Post 0 [some (.int x0), some (.int x1)] [] M := wp_ok [] ok_X8_stepOfSeat tk_X8_stepOfSeat 300 _ _ _ _ h
set_option maxRecDepth 100000 in
theorem g_X8_countOrSet_0 {G : GG} {d : Nat} {Post : Option Value → PM → Prop} {M : PM} {x0 : Int32} {x1 : Int32} (h : br (0 ≤ x0)
    (br (x1 = 0)
      (PC G d m_J6_bitCount_0f7a4 [.int x0] M (fun v N1 => gI v (fun r1 => Post (some (.int r1)) N1)))
      (Post (some (.int x0)) M))
    (Post (some (.int (-9))) M)) :
  PX G d m_X8_countOrSet Post 0 [some (.int x0), some (.int x1)] [] M := wp_ok [] ok_X8_countOrSet tk_X8_countOrSet 300 _ _ _ _ h
set_option maxRecDepth 100000 in
theorem g_X8_imageOf_0 {G : GG} {d : Nat} {Post : Option Value → PM → Prop} {M : PM} {x1 : Int32} (h : br (x1 = 0)
    (Post (some (.ref 13)) M)
    (Post (some (.ref 19)) M)) :
  PX G d m_X8_imageOf Post 0 [some (.ref 0), some (.int x1)] [] M := wp_ok [] ok_X8_imageOf tk_X8_imageOf 300 _ _ _ _ h
set_option maxRecDepth 100000 in
theorem g_X8_askWays_0 {G : GG} {d : Nat} {Post : Option Value → PM → Prop} {M : PM} {x1 : Int32} {x2 : Int32} (h : PC G d m_X4_stoneMoment [.ref 7, .int x1] M (fun v N1 => gI v (fun r1 => vp_in x1 3 ∧ (PC G d m_X5_begin [.ref 33, .int r1, .int (N1.1 3 x1.toNatClampNeg)] N1 (fun v N2 => gN v (vp_in x1 3 ∧ (PX G d m_X8_askWays Post 37 [some (.ref 0), none, some (.int x2), some (.int (N2.1 2 x1.toNatClampNeg)), some (.int (nI 0))] [] N2))))))) :
  PX G d m_X8_askWays Post 0 [some (.ref 0), some (.int x1), some (.int x2), none, none] [] M := wp_ok [(37, [true, false, true, true, true]), (67, [true, false, true, false, true])] ok_X8_askWays tk_X8_askWays 300 _ _ _ _ h
set_option maxRecDepth 100000 in
theorem g_X8_askWays_37 {G : GG} {d : Nat} {Post : Option Value → PM → Prop} {M : PM} {x2 : Int32} {x3 : Int32} {x4 : Int32} (h : br (((nI 2) * x3) ≤ x4)
    (PX G d m_X8_askWays Post 67 [some (.ref 0), none, some (.int x2), none, some (.int (nI 0))] [] M)
    (PC G d m_X8_stepOfSeat [.int x4, .int x3] M (fun v N1 => gI v (fun r1 => PC G d m_X5_addSeat [.ref 33, .int r1] N1 (fun v N2 => gN v (PX G d m_X8_askWays Post 37 [some (.ref 0), none, some (.int x2), some (.int x3), some (.int (x4 + nI 1))] [] N2)))))) :
  PX G d m_X8_askWays Post 37 [some (.ref 0), none, some (.int x2), some (.int x3), some (.int x4)] [] M := wp_ok [(37, [true, false, true, true, true]), (67, [true, false, true, false, true])] ok_X8_askWays tk_X8_askWays 300 _ _ _ _ h
set_option maxRecDepth 100000 in
theorem g_X8_askWays_67 {G : GG} {d : Nat} {Post : Option Value → PM → Prop} {M : PM} {x2 : Int32} {x4 : Int32} (h : br ((M.1 1 6) ≤ x4)
    (Post none M)
    (br ((x2 &&& ((nI 1) <<< (x4 &&& 31))) = 0)
      (PX G d m_X8_askWays Post 67 [some (.ref 0), none, some (.int x2), none, some (.int (x4 + nI 1))] [] M)
      (vp_in x4 8 ∧ (vp_in x4 8 ∧ (PC G d m_X5_addBody [.ref 33, .int (M.1 4 x4.toNatClampNeg), .int (M.1 9 x4.toNatClampNeg)] M (fun v N1 => gN v (PX G d m_X8_askWays Post 67 [some (.ref 0), none, some (.int x2), none, some (.int (x4 + nI 1))] [] N1))))))) :
  PX G d m_X8_askWays Post 67 [some (.ref 0), none, some (.int x2), none, some (.int x4)] [] M := wp_ok [(37, [true, false, true, true, true]), (67, [true, false, true, false, true])] ok_X8_askWays tk_X8_askWays 300 _ _ _ _ h
set_option maxRecDepth 100000 in
theorem g_X8_leastBallast_0 {G : GG} {d : Nat} {Post : Option Value → PM → Prop} {M : PM} {x1 : Int32} (h : PC G d m_X4_idleStones [.ref 7] M (fun v N1 => gI v (fun r1 => PX G d m_X8_leastBallast Post 10 [some (.ref 0), some (.int x1), some (.int r1), some (.int (nI 0)), none] [] N1))) :
  PX G d m_X8_leastBallast Post 0 [some (.ref 0), some (.int x1), none, none, none] [] M := wp_ok [(10, [true, true, true, true, false]), (24, [true, true, true, true, true])] ok_X8_leastBallast tk_X8_leastBallast 300 _ _ _ _ h
set_option maxRecDepth 100000 in
theorem g_X8_leastBallast_10 {G : GG} {d : Nat} {Post : Option Value → PM → Prop} {M : PM} {x1 : Int32} {x2 : Int32} {x3 : Int32} (h : br ((M.1 1 7) < x3)
    (Post (some (.int (-1))) M)
    (PX G d m_X8_leastBallast Post 24 [some (.ref 0), some (.int x1), some (.int x2), some (.int x3), some (.int (nI 0))] [] M)) :
  PX G d m_X8_leastBallast Post 10 [some (.ref 0), some (.int x1), some (.int x2), some (.int x3), none] [] M := wp_ok [(10, [true, true, true, true, false]), (24, [true, true, true, true, true])] ok_X8_leastBallast tk_X8_leastBallast 300 _ _ _ _ h
set_option maxRecDepth 100000 in
theorem g_X8_leastBallast_24 {G : GG} {d : Nat} {Post : Option Value → PM → Prop} {M : PM} {x1 : Int32} {x2 : Int32} {x3 : Int32} {x4 : Int32} (h : br (((nI 1) <<< ((M.1 1 7) &&& 31)) ≤ x4)
    (PX G d m_X8_leastBallast Post 10 [some (.ref 0), some (.int x1), some (.int x2), some (.int (x3 + nI 1)), none] [] M)
    (PC G d m_J6_bitCount_0f7a4 [.int x4] M (fun v N1 => gI v (fun r1 => br (r1 = x3)
      (br ((x4 &&& (x2 ^^^ (-1))) = 0)
        (PC G d m_X8_canBallast [.ref 0, .int x1, .int x4] N1 (fun v N2 => gI v (fun r2 => br (r2 = 0)
          (PX G d m_X8_leastBallast Post 24 [some (.ref 0), some (.int x1), some (.int x2), some (.int x3), some (.int (x4 + nI 1))] [] N2)
          (Post (some (.int x4)) N2))))
        (PX G d m_X8_leastBallast Post 24 [some (.ref 0), some (.int x1), some (.int x2), some (.int x3), some (.int (x4 + nI 1))] [] N1))
      (PX G d m_X8_leastBallast Post 24 [some (.ref 0), some (.int x1), some (.int x2), some (.int x3), some (.int (x4 + nI 1))] [] N1))))) :
  PX G d m_X8_leastBallast Post 24 [some (.ref 0), some (.int x1), some (.int x2), some (.int x3), some (.int x4)] [] M := wp_ok [(10, [true, true, true, true, false]), (24, [true, true, true, true, true])] ok_X8_leastBallast tk_X8_leastBallast 300 _ _ _ _ h
set_option maxRecDepth 100000 in
theorem g_X8_canBallast_0 {G : GG} {d : Nat} {Post : Option Value → PM → Prop} {M : PM} {x1 : Int32} {x2 : Int32} (h : PC G d m_X4_moment [.ref 7, .int x1] M (fun v N1 => gI v (fun r1 => vp_in x1 3 ∧ (PC G d m_X5_begin [.ref 33, .int r1, .int (N1.1 3 x1.toNatClampNeg)] N1 (fun v N2 => gN v (vp_in x1 3 ∧ (PX G d m_X8_canBallast Post 37 [some (.ref 0), some (.int x1), some (.int x2), some (.int (N2.1 2 x1.toNatClampNeg)), some (.int (nI 0)), none] [] N2))))))) :
  PX G d m_X8_canBallast Post 0 [some (.ref 0), some (.int x1), some (.int x2), none, none, none] [] M := wp_ok [(37, [true, true, true, true, true, false]), (84, [true, false, true, false, true, false])] ok_X8_canBallast tk_X8_canBallast 300 _ _ _ _ h
set_option maxRecDepth 100000 in
theorem g_X8_canBallast_37 {G : GG} {d : Nat} {Post : Option Value → PM → Prop} {M : PM} {x1 : Int32} {x2 : Int32} {x3 : Int32} {x4 : Int32} (h : br (((nI 2) * x3) ≤ x4)
    (PX G d m_X8_canBallast Post 84 [some (.ref 0), none, some (.int x2), none, some (.int (nI 0)), none] [] M)
    (PC G d m_X8_stepOfSeat [.int x4, .int x3] M (fun v N1 => gI v (fun r1 => PC G d m_X4_hasStoneAt [.ref 7, .int x1, .int r1] N1 (fun v N2 => gI v (fun r2 => br (r2 = 0)
      (PC G d m_X5_addSeat [.ref 33, .int r1] N2 (fun v N3 => gN v (PX G d m_X8_canBallast Post 37 [some (.ref 0), some (.int x1), some (.int x2), some (.int x3), some (.int (x4 + nI 1)), none] [] N3)))
      (PX G d m_X8_canBallast Post 37 [some (.ref 0), some (.int x1), some (.int x2), some (.int x3), some (.int (x4 + nI 1)), none] [] N2))))))) :
  PX G d m_X8_canBallast Post 37 [some (.ref 0), some (.int x1), some (.int x2), some (.int x3), some (.int x4), none] [] M := wp_ok [(37, [true, true, true, true, true, false]), (84, [true, false, true, false, true, false])] ok_X8_canBallast tk_X8_canBallast 300 _ _ _ _ h
set_option maxRecDepth 100000 in
theorem g_X8_canBallast_84 {G : GG} {d : Nat} {Post : Option Value → PM → Prop} {M : PM} {x2 : Int32} {x4 : Int32} (h : br ((M.1 1 7) ≤ x4)
    (PC G d m_X5_findFirst [.ref 33] M (fun v N1 => gI v (fun r1 => (r1 = 0 ∨ r1 = 1) ∧ Post (some (.int r1)) N1)))
    (br ((x2 &&& ((nI 1) <<< (x4 &&& 31))) = 0)
      (PX G d m_X8_canBallast Post 84 [some (.ref 0), none, some (.int x2), none, some (.int (x4 + nI 1)), none] [] M)
      (vp_in x4 5 ∧ (PC G d m_X5_addBody [.ref 33, .int (M.1 6 x4.toNatClampNeg), .int (nI 0)] M (fun v N2 => gN v (PX G d m_X8_canBallast Post 84 [some (.ref 0), none, some (.int x2), none, some (.int (x4 + nI 1)), none] [] N2)))))) :
  PX G d m_X8_canBallast Post 84 [some (.ref 0), none, some (.int x2), none, some (.int x4), none] [] M := wp_ok [(37, [true, true, true, true, true, false]), (84, [true, false, true, false, true, false])] ok_X8_canBallast tk_X8_canBallast 300 _ _ _ _ h
set_option maxRecDepth 100000 in
theorem g_X8_hasPartner_0 {G : GG} {d : Nat} {Post : Option Value → PM → Prop} {M : PM} {x1 : Int32} (h : PX G d m_X8_hasPartner Post 2 [some (.ref 0), some (.int x1), some (.int (nI 0)), none] [] M) :
  PX G d m_X8_hasPartner Post 0 [some (.ref 0), some (.int x1), none, none] [] M := wp_ok [(2, [true, true, true, false]), (15, [true, true, true, true])] ok_X8_hasPartner tk_X8_hasPartner 300 _ _ _ _ h
set_option maxRecDepth 100000 in
theorem g_X8_hasPartner_2 {G : GG} {d : Nat} {Post : Option Value → PM → Prop} {M : PM} {x1 : Int32} {x2 : Int32} (h : br ((M.1 1 5) ≤ x2)
    (((nI 0) = 0 ∨ (nI 0) = 1) ∧ Post (some (.int (nI 0))) M)
    (PX G d m_X8_hasPartner Post 15 [some (.ref 0), some (.int x1), some (.int x2), some (.int (nI 0))] [] M)) :
  PX G d m_X8_hasPartner Post 2 [some (.ref 0), some (.int x1), some (.int x2), none] [] M := wp_ok [(2, [true, true, true, false]), (15, [true, true, true, true])] ok_X8_hasPartner tk_X8_hasPartner 300 _ _ _ _ h
set_option maxRecDepth 100000 in
theorem g_X8_hasPartner_15 {G : GG} {d : Nat} {Post : Option Value → PM → Prop} {M : PM} {x1 : Int32} {x2 : Int32} {x3 : Int32} (h : br ((M.1 1 6) ≤ x3)
    (PX G d m_X8_hasPartner Post 2 [some (.ref 0), some (.int x1), some (.int (x2 + nI 1)), none] [] M)
    (br (x3 = x1)
      (PX G d m_X8_hasPartner Post 15 [some (.ref 0), some (.int x1), some (.int x2), some (.int (x3 + nI 1))] [] M)
      (PC G d m_X3_fits [.ref 1, .int x2, .int x1, .int x3] M (fun v N1 => gI v (fun r1 => br (r1 = 0)
        (PX G d m_X8_hasPartner Post 15 [some (.ref 0), some (.int x1), some (.int x2), some (.int (x3 + nI 1))] [] N1)
        (((nI 1) = 0 ∨ (nI 1) = 1) ∧ Post (some (.int (nI 1))) N1)))))) :
  PX G d m_X8_hasPartner Post 15 [some (.ref 0), some (.int x1), some (.int x2), some (.int x3)] [] M := wp_ok [(2, [true, true, true, false]), (15, [true, true, true, true])] ok_X8_hasPartner tk_X8_hasPartner 300 _ _ _ _ h
set_option maxRecDepth 100000 in
theorem g_X8_rateAs_0 {G : GG} {d : Nat} {Post : Option Value → PM → Prop} {M : PM} {x1 : Int32} {x2 : Int32} {x3 : Int32} (h : br ((nI 2) < x3)
    (Post (some (.int (nI 0))) M)
    (br (x1 < 0)
      (Post (some (.int (nI 0))) M)
      (br (x1 ≤ (nI 5))
        (vp_in x1 6 ∧ (br (x1 = 0)
          (vp_in x2 8 ∧ (Post (some (.int (M.1 4 x2.toNatClampNeg))) (wL M 0 10 ((M.2 0 10) + ((ctM.getD x1.toNatClampNeg 0).toInt64)))))
          (vp_in x1 6 ∧ (PC G d m_X8_rateAs [.ref 0, .int (ctA.getD x1.toNatClampNeg 0), .int x2, .int (x3 + (nI 1))] (wL M 0 10 ((M.2 0 10) + ((ctM.getD x1.toNatClampNeg 0).toInt64))) (fun v N1 => gI v (fun r1 => (x1 = 1 → vp_in x2 8 ∧ (Post (some (.int (r1 + (N1.1 10 x2.toNatClampNeg)))) N1)) ∧
          (x1 = 2 → vp_in x2 8 ∧ (Post (some (.int (r1 - (N1.1 9 x2.toNatClampNeg)))) N1)) ∧
          (x1 = 3 → Post (some (.int ((nI 2) * r1))) N1) ∧
          (x1 = 4 → vp_in x2 8 ∧ (Post (some (.int (r1 + (N1.1 5 x2.toNatClampNeg)))) N1)) ∧
          ((x1.toInt < 1 ∨ 4 < x1.toInt) → Post (some (.int (r1 - x2))) N1)))))))
        (Post (some (.int (nI 0))) M)))) :
  PX G d m_X8_rateAs Post 0 [some (.ref 0), some (.int x1), some (.int x2), some (.int x3), none] [] M := wp_ok [] ok_X8_rateAs tk_X8_rateAs 300 _ _ _ _ h
end
section
set_option maxRecDepth 100000 in
theorem g_X9_in_0 {G : GG} {d : Nat} {Post : Option Value → PM → Prop} {M : PM} {x0 : Int32} {x1 : Int32} {x2 : Int32} (h : br (x0 < x1)
    (((nI 0) = 0 ∨ (nI 0) = 1) ∧ Post (some (.int (nI 0))) M)
    (br (x2 < x0)
      (((nI 0) = 0 ∨ (nI 0) = 1) ∧ Post (some (.int (nI 0))) M)
      (((nI 1) = 0 ∨ (nI 1) = 1) ∧ Post (some (.int (nI 1))) M))) :
  PX G d m_X9_in Post 0 [some (.int x0), some (.int x1), some (.int x2)] [] M := wp_ok [] ok_X9_in tk_X9_in 300 _ _ _ _ h
set_option maxRecDepth 100000 in
theorem g_X9_clear_0 {G : GG} {d : Nat} {Post : Option Value → PM → Prop} {M : PM} (h : Post (some (.int (M.1 56 3))) (wI (wI M 56 0 (nI 0)) 56 3 (nI 0))) :
  PX G d m_X9_clear Post 0 [some (.ref 56), none] [] M := wp_ok [] ok_X9_clear tk_X9_clear 300 _ _ _ _ h
set_option maxRecDepth 100000 in
theorem g_X9_byteAt_0 {G : GG} {d : Nat} {Post : Option Value → PM → Prop} {M : PM} {x1 : Int32} (h : br ((M.1 56 3) ≤ x1)
    (Post (some (.int (-1))) M)
    (vp_in x1 300 ∧ (Post (some (.int (M.1 57 x1.toNatClampNeg))) M))) :
  PX G d m_X9_byteAt Post 0 [some (.ref 56), some (.int x1)] [] M := wp_ok [] ok_X9_byteAt tk_X9_byteAt 300 _ _ _ _ h
set_option maxRecDepth 100000 in
theorem g_X9_add_0 {G : GG} {d : Nat} {Post : Option Value → PM → Prop} {M : PM} {x0 : Int64} {x2 : Int32} (h : Post (some (.long ((256 * x0) + x2.toInt64))) M) :
  PX G d m_X9_add Post 0 [some (.long x0), none, some (.int x2)] [] M := wp_ok [] ok_X9_add tk_X9_add 300 _ _ _ _ h
set_option maxRecDepth 100000 in
theorem g_X9_advances_0 {G : GG} {d : Nat} {Post : Option Value → PM → Prop} {M : PM} (h : PC G d m_X9_byteAt [.ref 56, .int (M.1 56 4)] M (fun v N1 => gI v (fun r1 => br (r1 = (nI 32))
    (PX G d m_X9_advances Post 0 [some (.ref 56), none, none, none] [] (wI N1 56 4 ((N1.1 56 4) + (nI 1))))
    (PC G d m_X9_byteAt [.ref 56, .int (N1.1 56 4)] (wI N1 56 6 (N1.1 56 4)) (fun v N2 => gI v (fun r2 => br (0 ≤ r2)
      (PC G d m_X9_in [.int r2, .int (nI 97), .int (nI 122)] N2 (fun v N3 => gI v (fun r3 => br (r3 = 0)
        (PC G d m_X9_in [.int r2, .int (nI 48), .int (nI 57)] N3 (fun v N4 => gI v (fun r4 => br (r4 = 0)
          (br (r2 = (nI 59))
            (Post none (wI (wI N4 56 4 ((N4.1 56 4) + (nI 1))) 56 5 (nI 3)))
            (Post none (wI (wI N4 56 4 ((N4.1 56 4) + (nI 1))) 56 5 (nI 4))))
          (PX G d m_X9_advances Post 175 [some (.ref 56), some (.int r2), none, none] [] (wI N4 56 7 (nI 0))))))
        (PX G d m_X9_advances Post 68 [some (.ref 56), none, some (.long 0), none] [] N3))))
      (Post none (wI N2 56 5 (nI 0))))))))) :
  PX G d m_X9_advances Post 0 [some (.ref 56), none, none, none] [] M := wp_ok [(0, [true, false, false, false]), (68, [true, false, true, false]), (175, [true, true, false, false])] ok_X9_advances tk_X9_advances 300 _ _ _ _ h
set_option maxRecDepth 100000 in
theorem g_X9_advances_175 {G : GG} {d : Nat} {Post : Option Value → PM → Prop} {M : PM} {x1 : Int32} (h : PC G d m_X9_byteAt [.ref 56, .int (M.1 56 4)] M (fun v N1 => gI v (fun r1 => PC G d m_X9_in [.int r1, .int (nI 48), .int (nI 57)] N1 (fun v N2 => gI v (fun r2 => br (r2 = 0)
    (br ((nI 99) < (N2.1 56 7))
      (Post none (wI N2 56 5 (nI 4)))
      (br (x1 = (nI 48))
        (br (((N2.1 56 4) - (N2.1 56 6)) ≤ (nI 1))
          (Post none (wI N2 56 5 (nI 2)))
          (Post none (wI N2 56 5 (nI 4))))
        (Post none (wI N2 56 5 (nI 2)))))
    (br ((N2.1 56 7) ≤ (nI 99))
      (PC G d m_X9_byteAt [.ref 56, .int (N2.1 56 4)] N2 (fun v N3 => gI v (fun r3 => PX G d m_X9_advances Post 175 [some (.ref 56), some (.int x1), none, none] [] (wI (wI N3 56 7 ((((nI 10) * (N2.1 56 7)) + r3) - (nI 48))) 56 4 ((N3.1 56 4) + (nI 1))))))
      (PX G d m_X9_advances Post 175 [some (.ref 56), some (.int x1), none, none] [] (wI (wI N2 56 7 (N2.1 56 7)) 56 4 ((N2.1 56 4) + (nI 1)))))))))) :
  PX G d m_X9_advances Post 175 [some (.ref 56), some (.int x1), none, none] [] M := wp_ok [(0, [true, false, false, false]), (68, [true, false, true, false]), (175, [true, true, false, false])] ok_X9_advances tk_X9_advances 300 _ _ _ _ h
set_option maxRecDepth 100000 in
theorem g_X9_advances_68 {G : GG} {d : Nat} {Post : Option Value → PM → Prop} {M : PM} {x2 : Int64} (h : PC G d m_X9_byteAt [.ref 56, .int (M.1 56 4)] M (fun v N1 => gI v (fun r1 => PC G d m_X9_in [.int r1, .int (nI 97), .int (nI 122)] N1 (fun v N2 => gI v (fun r2 => br (r2 = 0)
    (PC G d m_X9_wordOf [.long x2] N2 (fun v N3 => gI v (fun r3 => br (r3 = (-9 : Int32))
      (Post none (wI (wI N3 56 7 r3) 56 5 (nI 4)))
      (Post none (wI (wI N3 56 7 r3) 56 5 (nI 1))))))
    (br ((nI 6) ≤ ((N2.1 56 4) - (N2.1 56 6)))
      (PX G d m_X9_advances Post 68 [some (.ref 56), none, some (.long x2), none] [] (wI N2 56 4 ((N2.1 56 4) + (nI 1))))
      (PC G d m_X9_byteAt [.ref 56, .int (N2.1 56 4)] N2 (fun v N4 => gI v (fun r4 => PC G d m_X9_add [.long x2, .int r4] N4 (fun v N5 => gL v (fun r5 => PX G d m_X9_advances Post 68 [some (.ref 56), none, some (.long r5), none] [] (wI N5 56 4 ((N5.1 56 4) + (nI 1)))))))))))))) :
  PX G d m_X9_advances Post 68 [some (.ref 56), none, some (.long x2), none] [] M := wp_ok [(0, [true, false, false, false]), (68, [true, false, true, false]), (175, [true, true, false, false])] ok_X9_advances tk_X9_advances 300 _ _ _ _ h
set_option maxRecDepth 100000 in
theorem g_X9_isWell_0 {G : GG} {d : Nat} {Post : Option Value → PM → Prop} {M : PM} (h : br (0 ≤ (M.1 56 8))
    (((nI 0) = 0 ∨ (nI 0) = 1) ∧ Post (some (.int (nI 0))) M)
    (((nI 1) = 0 ∨ (nI 1) = 1) ∧ Post (some (.int (nI 1))) M)) :
  PX G d m_X9_isWell Post 0 [some (.ref 56)] [] M := wp_ok [] ok_X9_isWell tk_X9_isWell 300 _ _ _ _ h
set_option maxRecDepth 100000 in
theorem g_X9_begins_0 {G : GG} {d : Nat} {Post : Option Value → PM → Prop} {M : PM} (h : PX G d m_X9_begins Post 2 [some (.ref 56), some (.int (nI 0))] [] M) :
  PX G d m_X9_begins Post 0 [some (.ref 56), none] [] M := wp_ok [(2, [true, true])] ok_X9_begins tk_X9_begins 300 _ _ _ _ h
set_option maxRecDepth 100000 in
theorem g_X9_begins_2 {G : GG} {d : Nat} {Post : Option Value → PM → Prop} {M : PM} {x1 : Int32} (h : br ((nI 34) ≤ x1)
    (Post none M)
    (PC G d m_X9_in [.int x1, .int (nI 0), .int (nI 7)] M (fun v N1 => gI v (fun r1 => br (r1 = 0)
      (PC G d m_X9_in [.int x1, .int (nI 24), .int (nI 28)] N1 (fun v N2 => gI v (fun r2 => br (r2 = 0)
        (vp_in x1 34 ∧ (PX G d m_X9_begins Post 2 [some (.ref 56), some (.int (x1 + nI 1))] [] (wI N2 63 x1.toNatClampNeg (nI 0))))
        (vp_in x1 34 ∧ (PX G d m_X9_begins Post 2 [some (.ref 56), some (.int (x1 + nI 1))] [] (wI N2 63 x1.toNatClampNeg (-9)))))))
      (vp_in x1 34 ∧ (PX G d m_X9_begins Post 2 [some (.ref 56), some (.int (x1 + nI 1))] [] (wI N1 63 x1.toNatClampNeg (-9)))))))) :
  PX G d m_X9_begins Post 2 [some (.ref 56), some (.int x1)] [] M := wp_ok [(2, [true, true])] ok_X9_begins tk_X9_begins 300 _ _ _ _ h
set_option maxRecDepth 100000 in
theorem g_X9_isPlank_0 {G : GG} {d : Nat} {Post : Option Value → PM → Prop} {M : PM} {x1 : Int32} (h : PC G d m_X9_in [.int x1, .int (nI 0), .int ((M.1 56 14) - (nI 1))] M (fun v N1 => gI v (fun r1 => (r1 = 0 ∨ r1 = 1) ∧ Post (some (.int r1)) N1))) :
  PX G d m_X9_isPlank Post 0 [some (.ref 56), some (.int x1)] [] M := wp_ok [] ok_X9_isPlank tk_X9_isPlank 300 _ _ _ _ h
set_option maxRecDepth 100000 in
theorem g_X9_isChild_0 {G : GG} {d : Nat} {Post : Option Value → PM → Prop} {M : PM} {x1 : Int32} (h : PC G d m_X9_in [.int x1, .int (nI 0), .int ((M.1 56 15) - (nI 1))] M (fun v N1 => gI v (fun r1 => (r1 = 0 ∨ r1 = 1) ∧ Post (some (.int r1)) N1))) :
  PX G d m_X9_isChild Post 0 [some (.ref 56), some (.int x1)] [] M := wp_ok [] ok_X9_isChild tk_X9_isChild 300 _ _ _ _ h
set_option maxRecDepth 100000 in
theorem g_X9_isStone_0 {G : GG} {d : Nat} {Post : Option Value → PM → Prop} {M : PM} {x1 : Int32} (h : PC G d m_X9_in [.int x1, .int (nI 0), .int ((M.1 56 16) - (nI 1))] M (fun v N1 => gI v (fun r1 => (r1 = 0 ∨ r1 = 1) ∧ Post (some (.int r1)) N1))) :
  PX G d m_X9_isStone Post 0 [some (.ref 56), some (.int x1)] [] M := wp_ok [] ok_X9_isStone tk_X9_isStone 300 _ _ _ _ h
set_option maxRecDepth 100000 in
theorem g_X9_child_0 {G : GG} {d : Nat} {Post : Option Value → PM → Prop} {M : PM} {x1 : Int32} {x2 : Int32} (h : PC G d m_X9_isChild [.ref 56, .int x1] (wI M 56 0 (nI 0)) (fun v N1 => gI v (fun r1 => br (r1 = 0)
    (Post (some (.int (-1000000))) N1)
    (PC G d m_X9_in [.int x2, .int (nI 0), .int (nI 4)] N1 (fun v N2 => gI v (fun r2 => br (r2 = 0)
      (Post (some (.int (-1000000))) N2)
      (br (x2 = 0)
        (vp_in x1 16 ∧ (Post (some (.int (N2.1 60 x1.toNatClampNeg))) N2))
        (br (x2 = (nI 1))
          (vp_in x1 16 ∧ (Post (some (.int (N2.1 61 x1.toNatClampNeg))) N2))
          (br (x2 = (nI 2))
            (vp_in ((nI 0) + x1) 34 ∧ (Post (some (.int (N2.1 63 (((nI 0) + x1).toNatClampNeg)))) N2))
            (br (x2 = (nI 3))
              (vp_in ((nI 8) + x1) 34 ∧ (Post (some (.int (N2.1 63 (((nI 8) + x1).toNatClampNeg)))) N2))
              (vp_in ((nI 16) + x1) 34 ∧ (Post (some (.int (N2.1 63 (((nI 16) + x1).toNatClampNeg)))) N2)))))))))))) :
  PX G d m_X9_child Post 0 [some (.ref 56), some (.int x1), some (.int x2)] [] M := wp_ok [] ok_X9_child tk_X9_child 300 _ _ _ _ h
set_option maxRecDepth 100000 in
theorem g_X9_bumps_0 {G : GG} {d : Nat} {Post : Option Value → PM → Prop} {M : PM} {x1 : Int32} {x2 : Int32} (h : PC G d m_X9_tiltOf [.ref 56, .int x1] M (fun v N1 => gI v (fun r1 => PX G d m_X9_bumps Post 12 [some (.ref 56), some (.int x1), some (.int x2), some (.int r1), some (.int (nI 0)), some (.int (nI 0)), none] [] N1))) :
  PX G d m_X9_bumps Post 0 [some (.ref 56), some (.int x1), some (.int x2), none, none, none, none] [] M := wp_ok [(12, [true, true, true, true, true, true, false]), (63, [true, true, true, true, true, true, false])] ok_X9_bumps tk_X9_bumps 300 _ _ _ _ h
set_option maxRecDepth 100000 in
theorem g_X9_bumps_12 {G : GG} {d : Nat} {Post : Option Value → PM → Prop} {M : PM} {x1 : Int32} {x2 : Int32} {x3 : Int32} {x4 : Int32} {x5 : Int32} (h : br ((M.1 56 15) ≤ x5)
    (Post (some (.int x4)) M)
    (br (x3 = 0)
      (Post (some (.int x4)) M)
      (br (x3 = x2)
        (Post (some (.int x4)) M)
        (vp_in ((nI 0) + x5) 34 ∧ (br ((M.1 63 (((nI 0) + x5).toNatClampNeg)) = x1)
          (vp_in ((nI 8) + x5) 34 ∧ (br (((M.1 63 (((nI 8) + x5).toNatClampNeg)) * x3) ≤ 0)
            (PX G d m_X9_bumps Post 63 [some (.ref 56), some (.int x1), some (.int x2), some (.int x3), some (.int x4), some (.int x5), none] [.int (nI 0)] M)
            (PX G d m_X9_bumps Post 63 [some (.ref 56), some (.int x1), some (.int x2), some (.int x3), some (.int x4), some (.int x5), none] [.int (nI 1)] M)))
          (PX G d m_X9_bumps Post 63 [some (.ref 56), some (.int x1), some (.int x2), some (.int x3), some (.int x4), some (.int x5), none] [.int (nI 0)] M)))))) :
  PX G d m_X9_bumps Post 12 [some (.ref 56), some (.int x1), some (.int x2), some (.int x3), some (.int x4), some (.int x5), none] [] M := wp_ok [(12, [true, true, true, true, true, true, false]), (63, [true, true, true, true, true, true, false])] ok_X9_bumps tk_X9_bumps 300 _ _ _ _ h
set_option maxRecDepth 100000 in
theorem g_X9_bumps_63 {G : GG} {d : Nat} {Post : Option Value → PM → Prop} {M : PM} {x1 : Int32} {x2 : Int32} {x3 : Int32} {x4 : Int32} {x5 : Int32} {y0 : Int32} (h : vp_in ((nI 16) + x5) 34 ∧ (br (y0 = 0)
    (vp_in ((nI 16) + x5) 34 ∧ (br (y0 = 0)
      (PX G d m_X9_bumps Post 12 [some (.ref 56), some (.int x1), some (.int x2), some (.int x3), some (.int (x4 + (nI 0))), some (.int (x5 + nI 1)), none] [] (wI M 63 (((nI 16) + x5).toNatClampNeg) ((M.1 63 (((nI 16) + x5).toNatClampNeg)) + (nI 0))))
      (PX G d m_X9_bumps Post 12 [some (.ref 56), some (.int x1), some (.int x2), some (.int x3), some (.int (x4 + (nI 1))), some (.int (x5 + nI 1)), none] [] (wI M 63 (((nI 16) + x5).toNatClampNeg) ((M.1 63 (((nI 16) + x5).toNatClampNeg)) + (nI 0))))))
    (vp_in ((nI 16) + x5) 34 ∧ (br (y0 = 0)
      (PX G d m_X9_bumps Post 12 [some (.ref 56), some (.int x1), some (.int x2), some (.int x3), some (.int (x4 + (nI 0))), some (.int (x5 + nI 1)), none] [] (wI M 63 (((nI 16) + x5).toNatClampNeg) ((M.1 63 (((nI 16) + x5).toNatClampNeg)) + (nI 1))))
      (PX G d m_X9_bumps Post 12 [some (.ref 56), some (.int x1), some (.int x2), some (.int x3), some (.int (x4 + (nI 1))), some (.int (x5 + nI 1)), none] [] (wI M 63 (((nI 16) + x5).toNatClampNeg) ((M.1 63 (((nI 16) + x5).toNatClampNeg)) + (nI 1)))))))) :
  PX G d m_X9_bumps Post 63 [some (.ref 56), some (.int x1), some (.int x2), some (.int x3), some (.int x4), some (.int x5), none] [.int y0] M := wp_ok [(12, [true, true, true, true, true, true, false]), (63, [true, true, true, true, true, true, false])] ok_X9_bumps tk_X9_bumps 300 _ _ _ _ h
set_option maxRecDepth 100000 in
theorem g_X9_goes_0 {G : GG} {d : Nat} {Post : Option Value → PM → Prop} {M : PM} {x1 : Int32} {x2 : Int32} (h : vp_in x1 34 ∧ (br ((M.1 63 x1.toNatClampNeg) = (-9 : Int32))
    (Post (some (.int (nI 0))) M)
    (PC G d m_X9_tiltOf [.ref 56, .int (M.1 63 x1.toNatClampNeg)] M (fun v N1 => gI v (fun r1 => vp_in x1 34 ∧ (vp_in x2 34 ∧ (PC G d m_X9_bumps [.ref 56, .int (M.1 63 x1.toNatClampNeg), .int r1] (wI (wI N1 63 x1.toNatClampNeg (-9)) 63 x2.toNatClampNeg (nI 0)) (fun v N2 => gI v (fun r2 => Post (some (.int r2)) N2))))))))) :
  PX G d m_X9_goes Post 0 [some (.ref 56), some (.int x1), some (.int x2), none, none] [] M := wp_ok [] ok_X9_goes tk_X9_goes 300 _ _ _ _ h
set_option maxRecDepth 100000 in
theorem g_X9_comes_0 {G : GG} {d : Nat} {Post : Option Value → PM → Prop} {M : PM} {x1 : Int32} {x2 : Int32} {x3 : Int32} {x4 : Int32} (h : PC G d m_X9_tiltOf [.ref 56, .int x3] M (fun v N1 => gI v (fun r1 => vp_in x1 34 ∧ (vp_in x2 34 ∧ (PC G d m_X9_bumps [.ref 56, .int x3, .int r1] (wI (wI N1 63 x1.toNatClampNeg x3) 63 x2.toNatClampNeg x4) (fun v N2 => gI v (fun r2 => Post (some (.int r2)) N2))))))) :
  PX G d m_X9_comes Post 0 [some (.ref 56), some (.int x1), some (.int x2), some (.int x3), some (.int x4), none] [] M := wp_ok [] ok_X9_comes tk_X9_comes 300 _ _ _ _ h
set_option maxRecDepth 100000 in
theorem g_X9_freeSeat_0 {G : GG} {d : Nat} {Post : Option Value → PM → Prop} {M : PM} {x1 : Int32} {x2 : Int32} (h : vp_in x2 8 ∧ (PX G d m_X9_freeSeat Post 12 [some (.ref 56), some (.int x1), some (.int x2), some (.int ((M.1 67 x2.toNatClampNeg) + (nI 1))), some (.int (nI 0)), none] [] M)) :
  PX G d m_X9_freeSeat Post 0 [some (.ref 56), some (.int x1), some (.int x2), none, none, none] [] M := wp_ok [(12, [true, true, true, true, true, false]), (35, [true, true, true, true, true, true])] ok_X9_freeSeat tk_X9_freeSeat 300 _ _ _ _ h
set_option maxRecDepth 100000 in
theorem g_X9_freeSeat_12 {G : GG} {d : Nat} {Post : Option Value → PM → Prop} {M : PM} {x1 : Int32} {x2 : Int32} {x3 : Int32} {x4 : Int32} (h : vp_in x1 6 ∧ (br (((nI 2) * (M.1 58 x1.toNatClampNeg)) ≤ x3)
    (Post (some (.int x3)) M)
    (br (x4 = 0)
      (PX G d m_X9_freeSeat Post 35 [some (.ref 56), some (.int x1), some (.int x2), some (.int x3), some (.int (nI 1)), some (.int (nI 0))] [] M)
      (Post (some (.int x3)) M)))) :
  PX G d m_X9_freeSeat Post 12 [some (.ref 56), some (.int x1), some (.int x2), some (.int x3), some (.int x4), none] [] M := wp_ok [(12, [true, true, true, true, true, false]), (35, [true, true, true, true, true, true])] ok_X9_freeSeat tk_X9_freeSeat 300 _ _ _ _ h
set_option maxRecDepth 100000 in
theorem g_X9_freeSeat_35 {G : GG} {d : Nat} {Post : Option Value → PM → Prop} {M : PM} {x1 : Int32} {x2 : Int32} {x3 : Int32} {x4 : Int32} {x5 : Int32} (h : br (x2 ≤ x5)
    (br (x4 = 0)
      (PX G d m_X9_freeSeat Post 12 [some (.ref 56), some (.int x1), some (.int x2), some (.int (x3 + (nI 1))), some (.int x4), none] [] M)
      (PX G d m_X9_freeSeat Post 12 [some (.ref 56), some (.int x1), some (.int x2), some (.int (x3 + (nI 0))), some (.int x4), none] [] M))
    (br (x4 = 0)
      (PX G d m_X9_freeSeat Post 35 [some (.ref 56), some (.int x1), some (.int x2), some (.int x3), some (.int (nI 0)), some (.int (x5 + nI 1))] [] M)
      (vp_in x5 8 ∧ (br ((M.1 67 x5.toNatClampNeg) = x3)
        (PX G d m_X9_freeSeat Post 35 [some (.ref 56), some (.int x1), some (.int x2), some (.int x3), some (.int (nI 0)), some (.int (x5 + nI 1))] [] M)
        (PX G d m_X9_freeSeat Post 35 [some (.ref 56), some (.int x1), some (.int x2), some (.int x3), some (.int (nI 1)), some (.int (x5 + nI 1))] [] M))))) :
  PX G d m_X9_freeSeat Post 35 [some (.ref 56), some (.int x1), some (.int x2), some (.int x3), some (.int x4), some (.int x5)] [] M := wp_ok [(12, [true, true, true, true, true, false]), (35, [true, true, true, true, true, true])] ok_X9_freeSeat tk_X9_freeSeat 300 _ _ _ _ h
set_option maxRecDepth 100000 in
theorem g_X9_all_0 {G : GG} {d : Nat} {Post : Option Value → PM → Prop} {M : PM} (h : Post (some (.int (((nI 1) <<< ((M.1 56 15) &&& 31)) - (nI 1)))) M) :
  PX G d m_X9_all Post 0 [some (.ref 56)] [] M := wp_ok [] ok_X9_all tk_X9_all 300 _ _ _ _ h
set_option maxRecDepth 100000 in
theorem g_X9_hasStone_0 {G : GG} {d : Nat} {Post : Option Value → PM → Prop} {M : PM} {x1 : Int32} {x2 : Int32} (h : PX G d m_X9_hasStone Post 5 [some (.ref 56), some (.int x1), some (.int x2), some (.int (nI 0)), some (.int (nI 0))] [] M) :
  PX G d m_X9_hasStone Post 0 [some (.ref 56), some (.int x1), some (.int x2), none, none] [] M := wp_ok [(5, [true, true, true, true, true])] ok_X9_hasStone tk_X9_hasStone 300 _ _ _ _ h
set_option maxRecDepth 100000 in
theorem g_X9_hasStone_5 {G : GG} {d : Nat} {Post : Option Value → PM → Prop} {M : PM} {x1 : Int32} {x2 : Int32} {x3 : Int32} {x4 : Int32} (h : br ((M.1 56 16) ≤ x4)
    ((x3 = 0 ∨ x3 = 1) ∧ Post (some (.int x3)) M)
    (br (x3 = 0)
      (vp_in ((nI 24) + x4) 34 ∧ (br ((M.1 63 (((nI 24) + x4).toNatClampNeg)) = x1)
        (vp_in ((nI 29) + x4) 34 ∧ (br ((M.1 63 (((nI 29) + x4).toNatClampNeg)) = x2)
          (PX G d m_X9_hasStone Post 5 [some (.ref 56), some (.int x1), some (.int x2), some (.int (nI 1)), some (.int (x4 + nI 1))] [] M)
          (PX G d m_X9_hasStone Post 5 [some (.ref 56), some (.int x1), some (.int x2), some (.int (nI 0)), some (.int (x4 + nI 1))] [] M)))
        (PX G d m_X9_hasStone Post 5 [some (.ref 56), some (.int x1), some (.int x2), some (.int (nI 0)), some (.int (x4 + nI 1))] [] M)))
      (PX G d m_X9_hasStone Post 5 [some (.ref 56), some (.int x1), some (.int x2), some (.int (nI 1)), some (.int (x4 + nI 1))] [] M))) :
  PX G d m_X9_hasStone Post 5 [some (.ref 56), some (.int x1), some (.int x2), some (.int x3), some (.int x4)] [] M := wp_ok [(5, [true, true, true, true, true])] ok_X9_hasStone tk_X9_hasStone 300 _ _ _ _ h
set_option maxRecDepth 100000 in
theorem g_X9_ballast_0 {G : GG} {d : Nat} {Post : Option Value → PM → Prop} {M : PM} {x1 : Int32} {x2 : Int32} (h : PC G d m_X9_isPlank [.ref 56, .int x1] (wI M 56 0 (nI 0)) (fun v N1 => gI v (fun r1 => br (r1 = 0)
    (Post (some (.int (-1))) N1)
    (PC G d m_X9_in [.int x2, .int (nI 0), .int (nI 1)] N1 (fun v N2 => gI v (fun r2 => br (r2 = 0)
      (Post (some (.int (-1))) N2)
      (PX G d m_X9_ballast Post 29 [some (.ref 56), some (.int x1), some (.int x2), some (.int (nI 0)), some (.int (nI 0)), none, none] [] N2))))))) :
  PX G d m_X9_ballast Post 0 [some (.ref 56), some (.int x1), some (.int x2), none, none, none, none] [] M := wp_ok [(29, [true, true, true, true, true, false, false]), (77, [true, true, true, true, true, true, false]), (122, [true, true, true, true, true, true, false])] ok_X9_ballast tk_X9_ballast 300 _ _ _ _ h
set_option maxRecDepth 100000 in
theorem g_X9_ballast_29 {G : GG} {d : Nat} {Post : Option Value → PM → Prop} {M : PM} {x1 : Int32} {x2 : Int32} {x3 : Int32} {x4 : Int32} (h : br ((M.1 56 16) ≤ x4)
    (PX G d m_X9_ballast Post 77 [some (.ref 56), some (.int x1), some (.int x2), some (.int x3), some (.int (-9)), some (.int (nI 0)), none] [] M)
    (vp_in ((nI 24) + x4) 34 ∧ (br ((M.1 63 (((nI 24) + x4).toNatClampNeg)) = (-9 : Int32))
      (PX G d m_X9_ballast Post 29 [some (.ref 56), some (.int x1), some (.int x2), some (.int (x3 ||| ((nI 1) <<< (x4 &&& 31)))), some (.int (x4 + nI 1)), none, none] [] M)
      (PX G d m_X9_ballast Post 29 [some (.ref 56), some (.int x1), some (.int x2), some (.int (x3 ||| (nI 0))), some (.int (x4 + nI 1)), none, none] [] M)))) :
  PX G d m_X9_ballast Post 29 [some (.ref 56), some (.int x1), some (.int x2), some (.int x3), some (.int x4), none, none] [] M := wp_ok [(29, [true, true, true, true, true, false, false]), (77, [true, true, true, true, true, true, false]), (122, [true, true, true, true, true, true, false])] ok_X9_ballast tk_X9_ballast 300 _ _ _ _ h
set_option maxRecDepth 100000 in
theorem g_X9_ballast_77 {G : GG} {d : Nat} {Post : Option Value → PM → Prop} {M : PM} {x1 : Int32} {x2 : Int32} {x3 : Int32} {x4 : Int32} {x5 : Int32} (h : br (((nI 1) <<< ((M.1 56 16) &&& 31)) ≤ x5)
    (br (x4 = (-9 : Int32))
      (Post (some (.int x4)) M)
      (br (x2 = (nI 1))
        (Post (some (.int x4)) M)
        (PC G d m_X9_ones [.int x4] M (fun v N1 => gI v (fun r1 => Post (some (.int r1)) N1)))))
    (br ((x5 &&& (x3 ^^^ (-1))) = 0)
      (br (x4 = (-9 : Int32))
        (PX G d m_X9_ballast Post 122 [some (.ref 56), some (.int x1), some (.int x2), some (.int x3), some (.int x4), some (.int x5), none] [.int (nI 1)] M)
        (PC G d m_X9_ones [.int x5] M (fun v N2 => gI v (fun r2 => PC G d m_X9_ones [.int x4] N2 (fun v N3 => gI v (fun r3 => br (r3 ≤ r2)
          (PX G d m_X9_ballast Post 122 [some (.ref 56), some (.int x1), some (.int x2), some (.int x3), some (.int x4), some (.int x5), none] [.int (nI 0)] N3)
          (PX G d m_X9_ballast Post 122 [some (.ref 56), some (.int x1), some (.int x2), some (.int x3), some (.int x4), some (.int x5), none] [.int (nI 1)] N3)))))))
      (PX G d m_X9_ballast Post 122 [some (.ref 56), some (.int x1), some (.int x2), some (.int x3), some (.int x4), some (.int x5), none] [.int (nI 0)] M))) :
  PX G d m_X9_ballast Post 77 [some (.ref 56), some (.int x1), some (.int x2), some (.int x3), some (.int x4), some (.int x5), none] [] M := wp_ok [(29, [true, true, true, true, true, false, false]), (77, [true, true, true, true, true, true, false]), (122, [true, true, true, true, true, true, false])] ok_X9_ballast tk_X9_ballast 300 _ _ _ _ h
set_option maxRecDepth 100000 in
theorem g_X9_ballast_122 {G : GG} {d : Nat} {Post : Option Value → PM → Prop} {M : PM} {x1 : Int32} {x2 : Int32} {x3 : Int32} {x4 : Int32} {x5 : Int32} {y0 : Int32} (h : br (y0 = 0)
    (PX G d m_X9_ballast Post 77 [some (.ref 56), some (.int x1), some (.int x2), some (.int x3), some (.int x4), some (.int (x5 + nI 1)), none] [] M)
    (PC G d m_X9_levels [.ref 56, .int x1, .int x5] M (fun v N1 => gI v (fun r1 => br (r1 = 0)
      (PX G d m_X9_ballast Post 77 [some (.ref 56), some (.int x1), some (.int x2), some (.int x3), some (.int x4), some (.int (x5 + nI 1)), none] [] N1)
      (PX G d m_X9_ballast Post 77 [some (.ref 56), some (.int x1), some (.int x2), some (.int x3), some (.int x5), some (.int (x5 + nI 1)), none] [] N1))))) :
  PX G d m_X9_ballast Post 122 [some (.ref 56), some (.int x1), some (.int x2), some (.int x3), some (.int x4), some (.int x5), none] [.int y0] M := wp_ok [(29, [true, true, true, true, true, false, false]), (77, [true, true, true, true, true, true, false]), (122, [true, true, true, true, true, true, false])] ok_X9_ballast tk_X9_ballast 300 _ _ _ _ h
set_option maxRecDepth 100000 in
theorem g_X9_isTaken_0 {G : GG} {d : Nat} {Post : Option Value → PM → Prop} {M : PM} {x1 : Int32} {x2 : Int32} (h : PX G d m_X9_isTaken Post 5 [some (.ref 56), some (.int x1), some (.int x2), some (.int (nI 0)), some (.int (nI 0))] [] M) :
  PX G d m_X9_isTaken Post 0 [some (.ref 56), some (.int x1), some (.int x2), none, none] [] M := wp_ok [(5, [true, true, true, true, true])] ok_X9_isTaken tk_X9_isTaken 300 _ _ _ _ h
set_option maxRecDepth 100000 in
theorem g_X9_isTaken_5 {G : GG} {d : Nat} {Post : Option Value → PM → Prop} {M : PM} {x1 : Int32} {x2 : Int32} {x3 : Int32} {x4 : Int32} (h : br ((M.1 56 15) ≤ x4)
    ((x3 = 0 ∨ x3 = 1) ∧ Post (some (.int x3)) M)
    (br (x3 = 0)
      (vp_in ((nI 0) + x4) 34 ∧ (br ((M.1 63 (((nI 0) + x4).toNatClampNeg)) = x1)
        (vp_in ((nI 8) + x4) 34 ∧ (PC G d m_X9_stepOf [.ref 56, .int x1, .int x2] M (fun v N1 => gI v (fun r1 => br ((M.1 63 (((nI 8) + x4).toNatClampNeg)) = r1)
          (PX G d m_X9_isTaken Post 5 [some (.ref 56), some (.int x1), some (.int x2), some (.int (nI 1)), some (.int (x4 + nI 1))] [] N1)
          (PX G d m_X9_isTaken Post 5 [some (.ref 56), some (.int x1), some (.int x2), some (.int (nI 0)), some (.int (x4 + nI 1))] [] N1)))))
        (PX G d m_X9_isTaken Post 5 [some (.ref 56), some (.int x1), some (.int x2), some (.int (nI 0)), some (.int (x4 + nI 1))] [] M)))
      (PX G d m_X9_isTaken Post 5 [some (.ref 56), some (.int x1), some (.int x2), some (.int (nI 1)), some (.int (x4 + nI 1))] [] M))) :
  PX G d m_X9_isTaken Post 5 [some (.ref 56), some (.int x1), some (.int x2), some (.int x3), some (.int x4)] [] M := wp_ok [(5, [true, true, true, true, true])] ok_X9_isTaken tk_X9_isTaken 300 _ _ _ _ h
set_option maxRecDepth 100000 in
theorem g_X9_fourMoves_0 {G : GG} {d : Nat} {Post : Option Value → PM → Prop} {M : PM} {x1 : Int32} {x2 : Int32} (h : PX G d m_X9_fourMoves Post 2 [some (.ref 56), some (.int x1), some (.int x2), some (.int (nI 0)), none] [] M) :
  PX G d m_X9_fourMoves Post 0 [some (.ref 56), some (.int x1), some (.int x2), none, none] [] M := wp_ok [(2, [true, true, true, true, false]), (13, [true, true, true, true, true])] ok_X9_fourMoves tk_X9_fourMoves 300 _ _ _ _ h
set_option maxRecDepth 100000 in
theorem g_X9_fourMoves_2 {G : GG} {d : Nat} {Post : Option Value → PM → Prop} {M : PM} {x1 : Int32} {x2 : Int32} {x3 : Int32} (h : br ((M.1 56 15) ≤ x3)
    (Post (some (.int (-9))) M)
    (PX G d m_X9_fourMoves Post 13 [some (.ref 56), some (.int x1), some (.int x2), some (.int x3), some (.int (nI 0))] [] M)) :
  PX G d m_X9_fourMoves Post 2 [some (.ref 56), some (.int x1), some (.int x2), some (.int x3), none] [] M := wp_ok [(2, [true, true, true, true, false]), (13, [true, true, true, true, true])] ok_X9_fourMoves tk_X9_fourMoves 300 _ _ _ _ h
set_option maxRecDepth 100000 in
theorem g_X9_fourMoves_13 {G : GG} {d : Nat} {Post : Option Value → PM → Prop} {M : PM} {x1 : Int32} {x2 : Int32} {x3 : Int32} {x4 : Int32} (h : vp_in x1 6 ∧ (br (((nI 2) * (M.1 58 x1.toNatClampNeg)) ≤ x4)
    (PX G d m_X9_fourMoves Post 2 [some (.ref 56), some (.int x1), some (.int x2), some (.int (x3 + nI 1)), none] [] M)
    (PC G d m_X9_mayPut [.ref 56, .int x1, .int (nI 0), .int (nI 0), .int x2, .int x3, .int x4] M (fun v N1 => gI v (fun r1 => br (r1 = 0)
      (PX G d m_X9_fourMoves Post 13 [some (.ref 56), some (.int x1), some (.int x2), some (.int x3), some (.int (x4 + nI 1))] [] N1)
      (vp_in x3 16 ∧ (PC G d m_X9_stepOf [.ref 56, .int x1, .int x4] N1 (fun v N2 => gI v (fun r2 => PC G d m_X9_threeMoves [.ref 56, .int x1, .int ((nI 1) <<< (x3 &&& 31)), .int ((nI 1) <<< (x4 &&& 31)), .int (x2 + ((N1.1 60 x3.toNatClampNeg) * r2))] N2 (fun v N3 => gI v (fun r3 => br (r3 = (-9 : Int32))
        (Post (some (.int (((nI 8) * x3) + x4))) N3)
        (PX G d m_X9_fourMoves Post 13 [some (.ref 56), some (.int x1), some (.int x2), some (.int x3), some (.int (x4 + nI 1))] [] N3)))))))))))) :
  PX G d m_X9_fourMoves Post 13 [some (.ref 56), some (.int x1), some (.int x2), some (.int x3), some (.int x4)] [] M := wp_ok [(2, [true, true, true, true, false]), (13, [true, true, true, true, true])] ok_X9_fourMoves tk_X9_fourMoves 300 _ _ _ _ h
set_option maxRecDepth 100000 in
theorem g_X9_game_0 {G : GG} {d : Nat} {Post : Option Value → PM → Prop} {M : PM} {x1 : Int32} {x2 : Int32} (h : PC G d m_X9_isPlank [.ref 56, .int x1] (wI M 56 0 (nI 0)) (fun v N1 => gI v (fun r1 => br (r1 = 0)
    (Post (some (.int (-1))) N1)
    (PC G d m_X9_in [.int x2, .int (nI 0), .int (nI 1)] N1 (fun v N2 => gI v (fun r2 => br (r2 = 0)
      (Post (some (.int (-1))) N2)
      (PX G d m_X9_game Post 29 [some (.ref 56), some (.int x1), some (.int x2), some (.int (nI 0)), some (.int (nI 0)), none] [] N2))))))) :
  PX G d m_X9_game Post 0 [some (.ref 56), some (.int x1), some (.int x2), none, none, none] [] M := wp_ok [(29, [true, true, true, true, true, false]), (149, [true, true, true, false, false, false])] ok_X9_game tk_X9_game 300 _ _ _ _ h
set_option maxRecDepth 100000 in
theorem g_X9_game_29 {G : GG} {d : Nat} {Post : Option Value → PM → Prop} {M : PM} {x1 : Int32} {x2 : Int32} {x3 : Int32} {x4 : Int32} (h : br ((M.1 56 15) ≤ x4)
    (PC G d m_X9_momentOf [.ref 56, .int x1] M (fun v N1 => gI v (fun r1 => br ((nI 4) < x3)
      (Post (some (.int (-2))) N1)
      (PC G d m_X9_tiltBy [.ref 56, .int x1, .int r1] N1 (fun v N2 => gI v (fun r2 => br (r2 = 0)
        (br (x3 = (nI 4))
          (PC G d m_X9_fourMoves [.ref 56, .int x1, .int r1] N2 (fun v N6 => gI v (fun r6 => PX G d m_X9_game Post 149 [some (.ref 56), some (.int x1), some (.int x2), none, none, none] [.int r6] N6)))
          (br (x3 = (nI 3))
            (PC G d m_X9_threeMoves [.ref 56, .int x1, .int (nI 0), .int (nI 0), .int r1] N2 (fun v N5 => gI v (fun r5 => PX G d m_X9_game Post 149 [some (.ref 56), some (.int x1), some (.int x2), none, none, none] [.int r5] N5)))
            (br (x3 = (nI 2))
              (PC G d m_X9_twoMoves [.ref 56, .int x1, .int (nI 0), .int (nI 0), .int r1] N2 (fun v N4 => gI v (fun r4 => PX G d m_X9_game Post 149 [some (.ref 56), some (.int x1), some (.int x2), none, none, none] [.int r4] N4)))
              (PC G d m_X9_lastMove [.ref 56, .int x1, .int (nI 0), .int (nI 0), .int r1] N2 (fun v N3 => gI v (fun r3 => PX G d m_X9_game Post 149 [some (.ref 56), some (.int x1), some (.int x2), none, none, none] [.int r3] N3))))))
        (Post (some (.int (-2))) N2)))))))
    (vp_in ((nI 0) + x4) 34 ∧ (br ((M.1 63 (((nI 0) + x4).toNatClampNeg)) = (-9 : Int32))
      (PX G d m_X9_game Post 29 [some (.ref 56), some (.int x1), some (.int x2), some (.int (x3 + (nI 1))), some (.int (x4 + nI 1)), none] [] M)
      (PX G d m_X9_game Post 29 [some (.ref 56), some (.int x1), some (.int x2), some (.int (x3 + (nI 0))), some (.int (x4 + nI 1)), none] [] M)))) :
  PX G d m_X9_game Post 29 [some (.ref 56), some (.int x1), some (.int x2), some (.int x3), some (.int x4), none] [] M := wp_ok [(29, [true, true, true, true, true, false]), (149, [true, true, true, false, false, false])] ok_X9_game tk_X9_game 300 _ _ _ _ h
set_option maxRecDepth 100000 in
theorem g_X9_game_149 {G : GG} {d : Nat} {Post : Option Value → PM → Prop} {M : PM} {x1 : Int32} {x2 : Int32} {y0 : Int32} (h : br (x2 = 0)
    (br (y0 = (-9 : Int32))
      (Post (some (.int (nI 0))) M)
      (Post (some (.int (nI 1))) M))
    (br (y0 = (-9 : Int32))
      (Post (some (.int (-9))) M)
      (¬ (nI 8) = 0 ∧ (¬ (nI 8) = 0 ∧ (PC G d m_X9_stepOf [.ref 56, .int x1, .int (y0 - y0 / (nI 8) * (nI 8))] M (fun v N1 => gI v (fun r1 => Post (some (.int ((((nI 100) * (y0 / (nI 8))) + r1) + (nI 4)))) N1))))))) :
  PX G d m_X9_game Post 149 [some (.ref 56), some (.int x1), some (.int x2), none, none, none] [.int y0] M := wp_ok [(29, [true, true, true, true, true, false]), (149, [true, true, true, false, false, false])] ok_X9_game tk_X9_game 300 _ _ _ _ h
set_option maxRecDepth 100000 in
theorem g_X9_isStranger_0 {G : GG} {d : Nat} {Post : Option Value → PM → Prop} {M : PM} {x1 : Int32} (h : PC G d m_X9_in [.int x1, .int (nI 0), .int ((M.1 56 27) - (nI 1))] M (fun v N1 => gI v (fun r1 => (r1 = 0 ∨ r1 = 1) ∧ Post (some (.int r1)) N1))) :
  PX G d m_X9_isStranger Post 0 [some (.ref 56), some (.int x1)] [] M := wp_ok [] ok_X9_isStranger tk_X9_isStranger 300 _ _ _ _ h
set_option maxRecDepth 100000 in
theorem g_X9_allWays_0 {G : GG} {d : Nat} {Post : Option Value → PM → Prop} {M : PM} (h : PX G d m_X9_allWays Post 4 [some (.ref 56), some (.int (nI 1)), some (.int (nI 0))] [] M) :
  PX G d m_X9_allWays Post 0 [some (.ref 56), none, none] [] M := wp_ok [(4, [true, true, true])] ok_X9_allWays tk_X9_allWays 300 _ _ _ _ h
set_option maxRecDepth 100000 in
theorem g_X9_allWays_4 {G : GG} {d : Nat} {Post : Option Value → PM → Prop} {M : PM} {x1 : Int32} {x2 : Int32} (h : br ((M.1 56 27) ≤ x2)
    (Post (some (.int x1)) M)
    (PX G d m_X9_allWays Post 4 [some (.ref 56), some (.int (x1 * (nI 6))), some (.int (x2 + nI 1))] [] M)) :
  PX G d m_X9_allWays Post 4 [some (.ref 56), some (.int x1), some (.int x2)] [] M := wp_ok [(4, [true, true, true])] ok_X9_allWays tk_X9_allWays 300 _ _ _ _ h
set_option maxRecDepth 100000 in
theorem g_X9_fits_0 {G : GG} {d : Nat} {Post : Option Value → PM → Prop} {M : PM} {x1 : Int32} (h : PX G d m_X9_fits Post 4 [some (.ref 56), some (.int x1), some (.int (nI 1)), some (.int (nI 0))] [] M) :
  PX G d m_X9_fits Post 0 [some (.ref 56), some (.int x1), none, none] [] M := wp_ok [(4, [true, true, true, true])] ok_X9_fits tk_X9_fits 300 _ _ _ _ h
set_option maxRecDepth 100000 in
theorem g_X9_fits_4 {G : GG} {d : Nat} {Post : Option Value → PM → Prop} {M : PM} {x1 : Int32} {x2 : Int32} {x3 : Int32} (h : br ((M.1 56 29) ≤ x3)
    ((x2 = 0 ∨ x2 = 1) ∧ Post (some (.int x2)) M)
    (br (x2 = 0)
      (PX G d m_X9_fits Post 4 [some (.ref 56), some (.int x1), some (.int (nI 0)), some (.int (x3 + nI 1))] [] M)
      (vp_in ((nI 3) * x3) 36 ∧ (vp_in (((nI 3) * x3) + (nI 1)) 36 ∧ (PC G d m_X9_weighs [.int x1, .int (M.1 69 (((nI 3) * x3).toNatClampNeg)), .int (M.1 69 ((((nI 3) * x3) + (nI 1)).toNatClampNeg))] M (fun v N1 => gI v (fun r1 => vp_in (((nI 3) * x3) + (nI 2)) 36 ∧ (br (r1 = (N1.1 69 ((((nI 3) * x3) + (nI 2)).toNatClampNeg)))
        (PX G d m_X9_fits Post 4 [some (.ref 56), some (.int x1), some (.int (nI 1)), some (.int (x3 + nI 1))] [] N1)
        (PX G d m_X9_fits Post 4 [some (.ref 56), some (.int x1), some (.int (nI 0)), some (.int (x3 + nI 1))] [] N1))))))))) :
  PX G d m_X9_fits Post 4 [some (.ref 56), some (.int x1), some (.int x2), some (.int x3)] [] M := wp_ok [(4, [true, true, true, true])] ok_X9_fits tk_X9_fits 300 _ _ _ _ h
set_option maxRecDepth 100000 in
theorem g_X9_couldBe_0 {G : GG} {d : Nat} {Post : Option Value → PM → Prop} {M : PM} {x1 : Int32} {x2 : Int32} (h : PX G d m_X9_couldBe Post 5 [some (.ref 56), some (.int x1), some (.int x2), some (.int (nI 0)), some (.int (nI 0))] [] M) :
  PX G d m_X9_couldBe Post 0 [some (.ref 56), some (.int x1), some (.int x2), none, none] [] M := wp_ok [(5, [true, true, true, true, true])] ok_X9_couldBe tk_X9_couldBe 300 _ _ _ _ h
set_option maxRecDepth 100000 in
theorem g_X9_couldBe_5 {G : GG} {d : Nat} {Post : Option Value → PM → Prop} {M : PM} {x1 : Int32} {x2 : Int32} {x3 : Int32} {x4 : Int32} (h : PC G d m_X9_allWays [.ref 56] M (fun v N1 => gI v (fun r1 => br (r1 ≤ x4)
    (Post (some (.int x3)) N1)
    (PC G d m_X9_fits [.ref 56, .int x4] N1 (fun v N2 => gI v (fun r2 => br (r2 = 0)
      (PX G d m_X9_couldBe Post 5 [some (.ref 56), some (.int x1), some (.int x2), some (.int (x3 + (nI 0))), some (.int (x4 + nI 1))] [] N2)
      (br (x1 = (-1 : Int32))
        (PX G d m_X9_couldBe Post 5 [some (.ref 56), some (.int x1), some (.int x2), some (.int (x3 + (nI 1))), some (.int (x4 + nI 1))] [] N2)
        (PC G d m_X9_weightIn [.int x4, .int x1] N2 (fun v N3 => gI v (fun r3 => br (r3 = x2)
          (PX G d m_X9_couldBe Post 5 [some (.ref 56), some (.int x1), some (.int x2), some (.int (x3 + (nI 1))), some (.int (x4 + nI 1))] [] N3)
          (PX G d m_X9_couldBe Post 5 [some (.ref 56), some (.int x1), some (.int x2), some (.int (x3 + (nI 0))), some (.int (x4 + nI 1))] [] N3))))))))))) :
  PX G d m_X9_couldBe Post 5 [some (.ref 56), some (.int x1), some (.int x2), some (.int x3), some (.int x4)] [] M := wp_ok [(5, [true, true, true, true, true])] ok_X9_couldBe tk_X9_couldBe 300 _ _ _ _ h
set_option maxRecDepth 100000 in
theorem g_X9_could_0 {G : GG} {d : Nat} {Post : Option Value → PM → Prop} {M : PM} {x1 : Int32} {x2 : Int32} (h : br (x1 = (-1 : Int32))
    (PC G d m_X9_in [.int x2, .int (nI 1), .int (nI 6)] (wI M 56 0 (nI 0)) (fun v N1 => gI v (fun r1 => br (r1 = 0)
      (Post (some (.int (-1))) N1)
      (PC G d m_X9_couldBe [.ref 56, .int x1, .int x2] N1 (fun v N2 => gI v (fun r2 => Post (some (.int r2)) N2))))))
    (PC G d m_X9_isStranger [.ref 56, .int x1] (wI M 56 0 (nI 0)) (fun v N3 => gI v (fun r3 => br (r3 = 0)
      (Post (some (.int (-1))) N3)
      (PC G d m_X9_in [.int x2, .int (nI 1), .int (nI 6)] N3 (fun v N4 => gI v (fun r4 => br (r4 = 0)
        (Post (some (.int (-1))) N4)
        (PC G d m_X9_couldBe [.ref 56, .int x1, .int x2] N4 (fun v N5 => gI v (fun r5 => Post (some (.int r5)) N5)))))))))) :
  PX G d m_X9_could Post 0 [some (.ref 56), some (.int x1), some (.int x2)] [] M := wp_ok [] ok_X9_could tk_X9_could 300 _ _ _ _ h
set_option maxRecDepth 100000 in
theorem g_X9_areAPair_0 {G : GG} {d : Nat} {Post : Option Value → PM → Prop} {M : PM} {x1 : Int32} {x2 : Int32} {x3 : Int32} (h : vp_in x2 16 ∧ (vp_in x3 16 ∧ (PC G d m_X9_size [.int ((M.1 60 x2.toNatClampNeg) - (M.1 60 x3.toNatClampNeg))] M (fun v N1 => gI v (fun r1 => vp_in x1 6 ∧ (br ((N1.1 59 x1.toNatClampNeg) < r1)
    (((nI 0) = 0 ∨ (nI 0) = 1) ∧ Post (some (.int (nI 0))) N1)
    (((nI 1) = 0 ∨ (nI 1) = 1) ∧ Post (some (.int (nI 1))) N1))))))) :
  PX G d m_X9_areAPair Post 0 [some (.ref 56), some (.int x1), some (.int x2), some (.int x3)] [] M := wp_ok [] ok_X9_areAPair tk_X9_areAPair 300 _ _ _ _ h
set_option maxRecDepth 100000 in
theorem g_X9_goesBy_0 {G : GG} {d : Nat} {Post : Option Value → PM → Prop} {M : PM} {x1 : Int32} (h : PX G d m_X9_goesBy Post 7 [some (.ref 56), some (.int x1), some (.int (nI 0)), none] [] (wI M 56 32 (nI 0))) :
  PX G d m_X9_goesBy Post 0 [some (.ref 56), some (.int x1), none, none] [] M := wp_ok [(7, [true, true, true, false]), (47, [true, true, true, false]), (68, [true, true, true, false]), (75, [true, true, true, true]), (134, [true, true, true, true])] ok_X9_goesBy tk_X9_goesBy 300 _ _ _ _ h
set_option maxRecDepth 100000 in
theorem g_X9_goesBy_7 {G : GG} {d : Nat} {Post : Option Value → PM → Prop} {M : PM} {x1 : Int32} {x2 : Int32} (h : br ((M.1 56 15) ≤ x2)
    (PX G d m_X9_goesBy Post 47 [some (.ref 56), some (.int x1), some (.int (nI 0)), none] [] M)
    (vp_in x2 8 ∧ (vp_in x2 8 ∧ (PX G d m_X9_goesBy Post 7 [some (.ref 56), some (.int x1), some (.int (x2 + nI 1)), none] [] (wI (wI (wI M 70 x2.toNatClampNeg (nI 0)) 71 x2.toNatClampNeg x2) 56 32 ((M.1 56 32) + (nI 1))))))) :
  PX G d m_X9_goesBy Post 7 [some (.ref 56), some (.int x1), some (.int x2), none] [] M := wp_ok [(7, [true, true, true, false]), (47, [true, true, true, false]), (68, [true, true, true, false]), (75, [true, true, true, true]), (134, [true, true, true, true])] ok_X9_goesBy tk_X9_goesBy 300 _ _ _ _ h
set_option maxRecDepth 100000 in
theorem g_X9_goesBy_47 {G : GG} {d : Nat} {Post : Option Value → PM → Prop} {M : PM} {x1 : Int32} {x2 : Int32} (h : br ((nI 3) ≤ x2)
    (PX G d m_X9_goesBy Post 68 [some (.ref 56), some (.int x1), some (.int (nI 0)), none] [] M)
    (vp_in x2 3 ∧ (PX G d m_X9_goesBy Post 47 [some (.ref 56), some (.int x1), some (.int (x2 + nI 1)), none] [] (wI M 72 x2.toNatClampNeg (-9))))) :
  PX G d m_X9_goesBy Post 47 [some (.ref 56), some (.int x1), some (.int x2), none] [] M := wp_ok [(7, [true, true, true, false]), (47, [true, true, true, false]), (68, [true, true, true, false]), (75, [true, true, true, true]), (134, [true, true, true, true])] ok_X9_goesBy tk_X9_goesBy 300 _ _ _ _ h
set_option maxRecDepth 100000 in
theorem g_X9_goesBy_68 {G : GG} {d : Nat} {Post : Option Value → PM → Prop} {M : PM} {x1 : Int32} {x2 : Int32} (h : br (x1 ≤ x2)
    (Post none M)
    (PX G d m_X9_goesBy Post 75 [some (.ref 56), some (.int x1), some (.int x2), some (.int (nI 0))] [] M)) :
  PX G d m_X9_goesBy Post 68 [some (.ref 56), some (.int x1), some (.int x2), none] [] M := wp_ok [(7, [true, true, true, false]), (47, [true, true, true, false]), (68, [true, true, true, false]), (75, [true, true, true, true]), (134, [true, true, true, true])] ok_X9_goesBy tk_X9_goesBy 300 _ _ _ _ h
set_option maxRecDepth 100000 in
theorem g_X9_goesBy_75 {G : GG} {d : Nat} {Post : Option Value → PM → Prop} {M : PM} {x1 : Int32} {x2 : Int32} {x3 : Int32} (h : br ((M.1 56 14) ≤ x3)
    (PX G d m_X9_goesBy Post 134 [some (.ref 56), some (.int x1), some (.int x2), some (.int (nI 0))] [] M)
    (vp_in x3 3 ∧ (br ((M.1 72 x3.toNatClampNeg) = (-9 : Int32))
      (vp_in x3 3 ∧ (br ((M.1 72 x3.toNatClampNeg) = (-9 : Int32))
        (PC G d m_X9_takesOn [.ref 56, .int x3, .int x2] M (fun v N1 => gN v (PX G d m_X9_goesBy Post 75 [some (.ref 56), some (.int x1), some (.int x2), some (.int (x3 + nI 1))] [] N1)))
        (PX G d m_X9_goesBy Post 75 [some (.ref 56), some (.int x1), some (.int x2), some (.int (x3 + nI 1))] [] M)))
      (vp_in x3 3 ∧ (br ((M.1 74 x3.toNatClampNeg) = x2)
        (PC G d m_X9_letsOff [.ref 56, .int x3] M (fun v N3 => gN v (vp_in x3 3 ∧ (br ((N3.1 72 x3.toNatClampNeg) = (-9 : Int32))
          (PC G d m_X9_takesOn [.ref 56, .int x3, .int x2] N3 (fun v N4 => gN v (PX G d m_X9_goesBy Post 75 [some (.ref 56), some (.int x1), some (.int x2), some (.int (x3 + nI 1))] [] N4)))
          (PX G d m_X9_goesBy Post 75 [some (.ref 56), some (.int x1), some (.int x2), some (.int (x3 + nI 1))] [] N3)))))
        (vp_in x3 3 ∧ (br ((M.1 72 x3.toNatClampNeg) = (-9 : Int32))
          (PC G d m_X9_takesOn [.ref 56, .int x3, .int x2] M (fun v N2 => gN v (PX G d m_X9_goesBy Post 75 [some (.ref 56), some (.int x1), some (.int x2), some (.int (x3 + nI 1))] [] N2)))
          (PX G d m_X9_goesBy Post 75 [some (.ref 56), some (.int x1), some (.int x2), some (.int (x3 + nI 1))] [] M)))))))) :
  PX G d m_X9_goesBy Post 75 [some (.ref 56), some (.int x1), some (.int x2), some (.int x3)] [] M := wp_ok [(7, [true, true, true, false]), (47, [true, true, true, false]), (68, [true, true, true, false]), (75, [true, true, true, true]), (134, [true, true, true, true])] ok_X9_goesBy tk_X9_goesBy 300 _ _ _ _ h
set_option maxRecDepth 100000 in
theorem g_X9_goesBy_134 {G : GG} {d : Nat} {Post : Option Value → PM → Prop} {M : PM} {x1 : Int32} {x2 : Int32} {x3 : Int32} (h : br ((M.1 56 14) ≤ x3)
    (PX G d m_X9_goesBy Post 68 [some (.ref 56), some (.int x1), some (.int (x2 + nI 1)), none] [] M)
    (vp_in x3 3 ∧ (br ((M.1 72 x3.toNatClampNeg) = (-9 : Int32))
      (PX G d m_X9_goesBy Post 134 [some (.ref 56), some (.int x1), some (.int x2), some (.int (x3 + nI 1))] [] M)
      (vp_in x3 3 ∧ (vp_in (M.1 72 x3.toNatClampNeg) 8 ∧ (vp_in (M.1 72 x3.toNatClampNeg) 8 ∧ (vp_in x3 3 ∧ (vp_in (M.1 73 x3.toNatClampNeg) 8 ∧ (vp_in (M.1 73 x3.toNatClampNeg) 8 ∧ (PX G d m_X9_goesBy Post 134 [some (.ref 56), some (.int x1), some (.int x2), some (.int (x3 + nI 1))] [] (wI (wI M 70 ((M.1 72 x3.toNatClampNeg).toNatClampNeg) ((M.1 70 ((M.1 72 x3.toNatClampNeg).toNatClampNeg)) + (nI 1))) 70 ((M.1 73 x3.toNatClampNeg).toNatClampNeg) (((wI M 70 ((M.1 72 x3.toNatClampNeg).toNatClampNeg) ((M.1 70 ((M.1 72 x3.toNatClampNeg).toNatClampNeg)) + (nI 1))).1 70 ((M.1 73 x3.toNatClampNeg).toNatClampNeg)) + (nI 1))))))))))))) :
  PX G d m_X9_goesBy Post 134 [some (.ref 56), some (.int x1), some (.int x2), some (.int x3)] [] M := wp_ok [(7, [true, true, true, false]), (47, [true, true, true, false]), (68, [true, true, true, false]), (75, [true, true, true, true]), (134, [true, true, true, true])] ok_X9_goesBy tk_X9_goesBy 300 _ _ _ _ h
set_option maxRecDepth 100000 in
theorem g_X9_forever_0 {G : GG} {d : Nat} {Post : Option Value → PM → Prop} {M : PM} (h : PX G d m_X9_forever Post 9 [some (.ref 56), some (.int (nI 0)), some (.int (nI 0)), none, none, none] [] (wI M 56 0 (nI 0))) :
  PX G d m_X9_forever Post 0 [some (.ref 56), none, none, none, none, none] [] M := wp_ok [(9, [true, true, true, false, false, false]), (22, [true, true, true, true, true, false]), (34, [true, true, true, true, true, true])] ok_X9_forever tk_X9_forever 300 _ _ _ _ h
set_option maxRecDepth 100000 in
theorem g_X9_forever_9 {G : GG} {d : Nat} {Post : Option Value → PM → Prop} {M : PM} {x1 : Int32} {x2 : Int32} (h : br ((M.1 56 15) ≤ x2)
    (Post (some (.int x1)) M)
    (PX G d m_X9_forever Post 22 [some (.ref 56), some (.int x1), some (.int x2), some (.int (nI 0)), some (.int (nI 0)), none] [] M)) :
  PX G d m_X9_forever Post 9 [some (.ref 56), some (.int x1), some (.int x2), none, none, none] [] M := wp_ok [(9, [true, true, true, false, false, false]), (22, [true, true, true, true, true, false]), (34, [true, true, true, true, true, true])] ok_X9_forever tk_X9_forever 300 _ _ _ _ h
set_option maxRecDepth 100000 in
theorem g_X9_forever_22 {G : GG} {d : Nat} {Post : Option Value → PM → Prop} {M : PM} {x1 : Int32} {x2 : Int32} {x3 : Int32} {x4 : Int32} (h : br ((M.1 56 15) ≤ x4)
    (br (x3 = 0)
      (PX G d m_X9_forever Post 9 [some (.ref 56), some (.int (x1 ||| ((nI 1) <<< (x2 &&& 31)))), some (.int (x2 + nI 1)), none, none, none] [] M)
      (PX G d m_X9_forever Post 9 [some (.ref 56), some (.int (x1 ||| (nI 0))), some (.int (x2 + nI 1)), none, none, none] [] M))
    (PX G d m_X9_forever Post 34 [some (.ref 56), some (.int x1), some (.int x2), some (.int x3), some (.int x4), some (.int (nI 0))] [] M)) :
  PX G d m_X9_forever Post 22 [some (.ref 56), some (.int x1), some (.int x2), some (.int x3), some (.int x4), none] [] M := wp_ok [(9, [true, true, true, false, false, false]), (22, [true, true, true, true, true, false]), (34, [true, true, true, true, true, true])] ok_X9_forever tk_X9_forever 300 _ _ _ _ h
set_option maxRecDepth 100000 in
theorem g_X9_forever_34 {G : GG} {d : Nat} {Post : Option Value → PM → Prop} {M : PM} {x1 : Int32} {x2 : Int32} {x3 : Int32} {x4 : Int32} {x5 : Int32} (h : br ((M.1 56 14) ≤ x5)
    (PX G d m_X9_forever Post 22 [some (.ref 56), some (.int x1), some (.int x2), some (.int x3), some (.int (x4 + nI 1)), none] [] M)
    (br (x3 = 0)
      (br (x2 = x4)
        (PX G d m_X9_forever Post 34 [some (.ref 56), some (.int x1), some (.int x2), some (.int (nI 0)), some (.int x4), some (.int (x5 + nI 1))] [] M)
        (PC G d m_X9_areAPair [.ref 56, .int x5, .int x2, .int x4] M (fun v N1 => gI v (fun r1 => br (r1 = 0)
          (PX G d m_X9_forever Post 34 [some (.ref 56), some (.int x1), some (.int x2), some (.int (nI 0)), some (.int x4), some (.int (x5 + nI 1))] [] N1)
          (PX G d m_X9_forever Post 34 [some (.ref 56), some (.int x1), some (.int x2), some (.int (nI 1)), some (.int x4), some (.int (x5 + nI 1))] [] N1)))))
      (PX G d m_X9_forever Post 34 [some (.ref 56), some (.int x1), some (.int x2), some (.int (nI 1)), some (.int x4), some (.int (x5 + nI 1))] [] M))) :
  PX G d m_X9_forever Post 34 [some (.ref 56), some (.int x1), some (.int x2), some (.int x3), some (.int x4), some (.int x5)] [] M := wp_ok [(9, [true, true, true, false, false, false]), (22, [true, true, true, true, true, false]), (34, [true, true, true, true, true, true])] ok_X9_forever tk_X9_forever 300 _ _ _ _ h
set_option maxRecDepth 100000 in
theorem g_X9_keep_0 {G : GG} {d : Nat} {Post : Option Value → PM → Prop} {M : PM} {x1 : Int32} (h : PC G d m_X9_in [.int x1, .int (nI 0), .int (nI 1)] (wI M 56 0 (nI 0)) (fun v N1 => gI v (fun r1 => br (r1 = 0)
    (Post (some (.int (-1))) N1)
    (PX G d m_X9_keep Post 18 [some (.ref 56), some (.int x1), some (.int (nI 0))] [] N1)))) :
  PX G d m_X9_keep Post 0 [some (.ref 56), some (.int x1), none] [] M := wp_ok [(18, [true, true, true])] ok_X9_keep tk_X9_keep 300 _ _ _ _ h
set_option maxRecDepth 100000 in
theorem g_X9_keep_18 {G : GG} {d : Nat} {Post : Option Value → PM → Prop} {M : PM} {x1 : Int32} {x2 : Int32} (h : br ((nI 34) ≤ x2)
    (vp_in x1 2 ∧ ((nI 1) = 0 ∨ (nI 1) = 1) ∧ (PC G d m_X9_sitting [.ref 56] (wI M 65 x1.toNatClampNeg (nI 1)) (fun v N1 => gI v (fun r1 => Post (some (.int r1)) N1))))
    (vp_in x2 34 ∧ (vp_in (((nI 34) * x1) + x2) 68 ∧ (PX G d m_X9_keep Post 18 [some (.ref 56), some (.int x1), some (.int (x2 + nI 1))] [] (wI M 64 ((((nI 34) * x1) + x2).toNatClampNeg) (M.1 63 x2.toNatClampNeg)))))) :
  PX G d m_X9_keep Post 18 [some (.ref 56), some (.int x1), some (.int x2)] [] M := wp_ok [(18, [true, true, true])] ok_X9_keep tk_X9_keep 300 _ _ _ _ h
set_option maxRecDepth 100000 in
theorem g_X9_back_0 {G : GG} {d : Nat} {Post : Option Value → PM → Prop} {M : PM} {x1 : Int32} (h : PC G d m_X9_in [.int x1, .int (nI 0), .int (nI 1)] (wI M 56 0 (nI 0)) (fun v N1 => gI v (fun r1 => br (r1 = 0)
    (Post (some (.int (-1))) N1)
    (vp_in x1 2 ∧ (br ((N1.1 65 x1.toNatClampNeg) = 0)
      (Post (some (.int (-2))) N1)
      (PX G d m_X9_back Post 30 [some (.ref 56), some (.int x1), some (.int (nI 0))] [] N1)))))) :
  PX G d m_X9_back Post 0 [some (.ref 56), some (.int x1), none] [] M := wp_ok [(30, [true, true, true])] ok_X9_back tk_X9_back 300 _ _ _ _ h
set_option maxRecDepth 100000 in
theorem g_X9_back_30 {G : GG} {d : Nat} {Post : Option Value → PM → Prop} {M : PM} {x1 : Int32} {x2 : Int32} (h : br ((nI 34) ≤ x2)
    (PC G d m_X9_sitting [.ref 56] M (fun v N1 => gI v (fun r1 => Post (some (.int r1)) N1)))
    (vp_in (((nI 34) * x1) + x2) 68 ∧ (vp_in x2 34 ∧ (PX G d m_X9_back Post 30 [some (.ref 56), some (.int x1), some (.int (x2 + nI 1))] [] (wI M 63 x2.toNatClampNeg (M.1 64 ((((nI 34) * x1) + x2).toNatClampNeg))))))) :
  PX G d m_X9_back Post 30 [some (.ref 56), some (.int x1), some (.int x2)] [] M := wp_ok [(30, [true, true, true])] ok_X9_back tk_X9_back 300 _ _ _ _ h
set_option maxRecDepth 100000 in
theorem g_X9_count_0 {G : GG} {d : Nat} {Post : Option Value → PM → Prop} {M : PM} {x1 : Int32} (h : br (x1 = 0)
    (Post (some (.int (M.1 56 14))) (wI M 56 0 (nI 0)))
    (br (x1 = (nI 1))
      (Post (some (.int (M.1 56 15))) (wI M 56 0 (nI 0)))
      (br (x1 = (nI 2))
        (Post (some (.int (M.1 56 16))) (wI M 56 0 (nI 0)))
        (br (x1 = (nI 3))
          (Post (some (.int (M.1 56 29))) (wI M 56 0 (nI 0)))
          (br (x1 = (nI 4))
            (Post (some (.int (M.1 56 27))) (wI M 56 0 (nI 0)))
            (br (x1 = (nI 5))
              (Post (some (.int (M.1 56 3))) (wI M 56 0 (nI 0)))
              (br (x1 = (nI 6))
                (PC G d m_X9_sitting [.ref 56] (wI M 56 0 (nI 0)) (fun v N1 => gI v (fun r1 => Post (some (.int r1)) N1)))
                (Post (some (.int (-1))) (wI M 56 0 (nI 0)))))))))) :
  PX G d m_X9_count Post 0 [some (.ref 56), some (.int x1)] [] M := wp_ok [] ok_X9_count tk_X9_count 300 _ _ _ _ h
end
section
set_option maxRecDepth 100000 in
theorem g_X9_named_0 {G : GG} {d : Nat} {Post : Option Value → PM → Prop} {M : PM} {x0 : Int32} {x1 : Int32} {x2 : Int32} {x3 : Int32} {x4 : Int32} (h : PC G d m_X9_add [.long 0, .int x0] M (fun v N1 => gL v (fun r1 => PC G d m_X9_add [.long r1, .int x1] N1 (fun v N2 => gL v (fun r2 => PC G d m_X9_add [.long r2, .int x2] N2 (fun v N3 => gL v (fun r3 => PC G d m_X9_add [.long r3, .int x3] N3 (fun v N4 => gL v (fun r4 => PC G d m_X9_add [.long r4, .int x4] N4 (fun v N5 => gL v (fun r5 => Post (some (.long r5)) N5))))))))))) :
  PX G d m_X9_named Post 0 [some (.int x0), some (.int x1), some (.int x2), some (.int x3), some (.int x4)] [] M := wp_ok [] ok_X9_named tk_X9_named 300 _ _ _ _ h
set_option maxRecDepth 100000 in
theorem g_X9_number_0 {G : GG} {d : Nat} {Post : Option Value → PM → Prop} {M : PM} {x1 : Int32} {x2 : Int32} (h : br ((M.1 56 5) = (nI 2))
    (PC G d m_X9_in [.int (M.1 56 7), .int x1, .int x2] M (fun v N2 => gI v (fun r2 => br (r2 = 0)
      (PC G d m_X9_takes [.ref 56, .int (nI 0)] N2 (fun v N3 => gI v (fun r3 => Post (some (.int r3)) N3)))
      (PC G d m_X9_takes [.ref 56, .int (nI 1)] N2 (fun v N4 => gI v (fun r4 => Post (some (.int r4)) N4))))))
    (PC G d m_X9_takes [.ref 56, .int (nI 0)] M (fun v N1 => gI v (fun r1 => Post (some (.int r1)) N1)))) :
  PX G d m_X9_number Post 0 [some (.ref 56), some (.int x1), some (.int x2)] [] M := wp_ok [] ok_X9_number tk_X9_number 300 _ _ _ _ h
set_option maxRecDepth 100000 in
theorem g_X9_park_0 {G : GG} {d : Nat} {Post : Option Value → PM → Prop} {M : PM} (h : PC G d m_X9_advances [.ref 56] (wI (wI (wI (wI (wI (wI M 56 0 (nI 0)) 56 8 (-1)) 56 4 (nI 0)) 56 17 (nI 0)) 56 18 (nI 0)) 56 19 (nI 0)) (fun v N1 => gN v (PX G d m_X9_park Post 36 [some (.ref 56), some (.int (nI 0)), none] [] N1))) :
  PX G d m_X9_park Post 0 [some (.ref 56), none, none] [] M := wp_ok [(36, [true, true, false]), (110, [true, true, false]), (126, [true, true, false]), (191, [true, true, true]), (235, [true, true, true]), (262, [true, true, true])] ok_X9_park tk_X9_park 300 _ _ _ _ h
set_option maxRecDepth 100000 in
theorem g_X9_park_36 {G : GG} {d : Nat} {Post : Option Value → PM → Prop} {M : PM} {x1 : Int32} (h : PC G d m_X9_isWell [.ref 56] M (fun v N1 => gI v (fun r1 => br (r1 = 0)
    (PC G d m_X9_isWell [.ref 56] N1 (fun v N2 => gI v (fun r2 => br (r2 = 0)
      (Post (some (.int ((-10) - (N2.1 56 8)))) N2)
      (PX G d m_X9_park Post 191 [some (.ref 56), some (.int x1), some (.int (nI 0))] [] (wI (wI (wI N2 56 14 (N2.1 56 17)) 56 15 (N2.1 56 18)) 56 16 (N2.1 56 19))))))
    (br ((N1.1 56 5) = 0)
      (PC G d m_X9_isWell [.ref 56] N1 (fun v N3 => gI v (fun r3 => br (r3 = 0)
        (Post (some (.int ((-10) - (N3.1 56 8)))) N3)
        (PX G d m_X9_park Post 191 [some (.ref 56), some (.int x1), some (.int (nI 0))] [] (wI (wI (wI N3 56 14 (N3.1 56 17)) 56 15 (N3.1 56 18)) 56 16 (N3.1 56 19))))))
      (br ((N1.1 56 5) = (nI 1))
        (br ((N1.1 56 7) = 0)
          (br ((nI 3) ≤ (N1.1 56 17))
            (PX G d m_X9_park Post 110 [some (.ref 56), some (.int x1), none] [.int (nI 0), .ref 56] N1)
            (PX G d m_X9_park Post 110 [some (.ref 56), some (.int x1), none] [.int (nI 1), .ref 56] N1))
          (br ((N1.1 56 7) = (nI 1))
            (br ((nI 8) ≤ (N1.1 56 18))
              (PX G d m_X9_park Post 110 [some (.ref 56), some (.int x1), none] [.int (nI 0), .ref 56] N1)
              (PX G d m_X9_park Post 110 [some (.ref 56), some (.int x1), none] [.int (nI 1), .ref 56] N1))
            (br ((nI 5) ≤ (N1.1 56 19))
              (PX G d m_X9_park Post 110 [some (.ref 56), some (.int x1), none] [.int (nI 0), .ref 56] N1)
              (PX G d m_X9_park Post 110 [some (.ref 56), some (.int x1), none] [.int (nI 1), .ref 56] N1))))
        (PX G d m_X9_park Post 110 [some (.ref 56), some (.int x1), none] [.int (nI 0), .ref 56] N1)))))) :
  PX G d m_X9_park Post 36 [some (.ref 56), some (.int x1), none] [] M := wp_ok [(36, [true, true, false]), (110, [true, true, false]), (126, [true, true, false]), (191, [true, true, true]), (235, [true, true, true]), (262, [true, true, true])] ok_X9_park tk_X9_park 300 _ _ _ _ h
set_option maxRecDepth 100000 in
theorem g_X9_park_191 {G : GG} {d : Nat} {Post : Option Value → PM → Prop} {M : PM} {x1 : Int32} {x2 : Int32} (h : br ((nI 8) ≤ x2)
    (PX G d m_X9_park Post 235 [some (.ref 56), some (.int x1), some (.int (nI 0))] [] M)
    (vp_in ((nI 8) + x2) 16 ∧ (vp_in x2 16 ∧ (vp_in ((nI 8) + x2) 16 ∧ (vp_in x2 16 ∧ (PX G d m_X9_park Post 191 [some (.ref 56), some (.int x1), some (.int (x2 + nI 1))] [] (wI (wI M 60 x2.toNatClampNeg (M.1 60 (((nI 8) + x2).toNatClampNeg))) 61 x2.toNatClampNeg (M.1 61 (((nI 8) + x2).toNatClampNeg))))))))) :
  PX G d m_X9_park Post 191 [some (.ref 56), some (.int x1), some (.int x2)] [] M := wp_ok [(36, [true, true, false]), (110, [true, true, false]), (126, [true, true, false]), (191, [true, true, true]), (235, [true, true, true]), (262, [true, true, true])] ok_X9_park tk_X9_park 300 _ _ _ _ h
set_option maxRecDepth 100000 in
theorem g_X9_park_110 {G : GG} {d : Nat} {Post : Option Value → PM → Prop} {M : PM} {x1 : Int32} {y0 : Int32} (h : PC G d m_X9_takes [.ref 56, .int y0] M (fun v N1 => gI v (fun r1 => PC G d m_X9_isWell [.ref 56] N1 (fun v N2 => gI v (fun r2 => br (r2 = 0)
    (PX G d m_X9_park Post 126 [some (.ref 56), some (.int x1), none] [] N2)
    (PC G d m_X9_readsItem [.ref 56, .int r1] N2 (fun v N3 => gN v (PX G d m_X9_park Post 126 [some (.ref 56), some (.int x1), none] [] N3)))))))) :
  PX G d m_X9_park Post 110 [some (.ref 56), some (.int x1), none] [.int y0, .ref 56] M := wp_ok [(36, [true, true, false]), (110, [true, true, false]), (126, [true, true, false]), (191, [true, true, true]), (235, [true, true, true]), (262, [true, true, true])] ok_X9_park tk_X9_park 300 _ _ _ _ h
set_option maxRecDepth 100000 in
theorem g_X9_park_235 {G : GG} {d : Nat} {Post : Option Value → PM → Prop} {M : PM} {x1 : Int32} {x2 : Int32} (h : br ((nI 5) ≤ x2)
    (PX G d m_X9_park Post 262 [some (.ref 56), some (.int x1), some (.int (nI 0))] [] M)
    (vp_in ((nI 5) + x2) 10 ∧ (vp_in x2 10 ∧ (PX G d m_X9_park Post 235 [some (.ref 56), some (.int x1), some (.int (x2 + nI 1))] [] (wI M 62 x2.toNatClampNeg (M.1 62 (((nI 5) + x2).toNatClampNeg))))))) :
  PX G d m_X9_park Post 235 [some (.ref 56), some (.int x1), some (.int x2)] [] M := wp_ok [(36, [true, true, false]), (110, [true, true, false]), (126, [true, true, false]), (191, [true, true, true]), (235, [true, true, true]), (262, [true, true, true])] ok_X9_park tk_X9_park 300 _ _ _ _ h
set_option maxRecDepth 100000 in
theorem g_X9_park_126 {G : GG} {d : Nat} {Post : Option Value → PM → Prop} {M : PM} {x1 : Int32} (h : br ((M.1 56 5) = (nI 3))
    (PC G d m_X9_takes [.ref 56, .int (nI 1)] M (fun v N2 => gI v (fun r2 => PX G d m_X9_park Post 36 [some (.ref 56), some (.int (x1 + nI 1)), none] [] N2)))
    (PC G d m_X9_takes [.ref 56, .int (nI 0)] M (fun v N1 => gI v (fun r1 => PX G d m_X9_park Post 36 [some (.ref 56), some (.int (x1 + nI 1)), none] [] N1)))) :
  PX G d m_X9_park Post 126 [some (.ref 56), some (.int x1), none] [] M := wp_ok [(36, [true, true, false]), (110, [true, true, false]), (126, [true, true, false]), (191, [true, true, true]), (235, [true, true, true]), (262, [true, true, true])] ok_X9_park tk_X9_park 300 _ _ _ _ h
set_option maxRecDepth 100000 in
theorem g_X9_park_262 {G : GG} {d : Nat} {Post : Option Value → PM → Prop} {M : PM} {x1 : Int32} {x2 : Int32} (h : br ((nI 3) ≤ x2)
    (vp_in (nI 0) 2 ∧ ((nI 0) = 0 ∨ (nI 0) = 1) ∧ (vp_in (nI 1) 2 ∧ ((nI 0) = 0 ∨ (nI 0) = 1) ∧ (PC G d m_X9_begins [.ref 56] (wI (wI (wI M 56 3 (nI 0)) 65 ((nI 0).toNatClampNeg) (nI 0)) 65 ((nI 1).toNatClampNeg) (nI 0)) (fun v N1 => gN v (Post (some (.int x1)) N1)))))
    (vp_in ((nI 3) + x2) 6 ∧ (vp_in x2 6 ∧ (vp_in ((nI 3) + x2) 6 ∧ (vp_in x2 6 ∧ (PX G d m_X9_park Post 262 [some (.ref 56), some (.int x1), some (.int (x2 + nI 1))] [] (wI (wI M 58 x2.toNatClampNeg (M.1 58 (((nI 3) + x2).toNatClampNeg))) 59 x2.toNatClampNeg (M.1 59 (((nI 3) + x2).toNatClampNeg))))))))) :
  PX G d m_X9_park Post 262 [some (.ref 56), some (.int x1), some (.int x2)] [] M := wp_ok [(36, [true, true, false]), (110, [true, true, false]), (126, [true, true, false]), (191, [true, true, true]), (235, [true, true, true]), (262, [true, true, true])] ok_X9_park tk_X9_park 300 _ _ _ _ h
set_option maxRecDepth 100000 in
theorem g_X9_momentOf_0 {G : GG} {d : Nat} {Post : Option Value → PM → Prop} {M : PM} {x1 : Int32} (h : PC G d m_X9_stonesOn [.ref 56, .int x1] M (fun v N1 => gI v (fun r1 => PX G d m_X9_momentOf Post 8 [some (.ref 56), some (.int x1), some (.int r1), some (.int (nI 0))] [] N1))) :
  PX G d m_X9_momentOf Post 0 [some (.ref 56), some (.int x1), none, none] [] M := wp_ok [(8, [true, true, true, true])] ok_X9_momentOf tk_X9_momentOf 300 _ _ _ _ h
set_option maxRecDepth 100000 in
theorem g_X9_momentOf_8 {G : GG} {d : Nat} {Post : Option Value → PM → Prop} {M : PM} {x1 : Int32} {x2 : Int32} {x3 : Int32} (h : br ((M.1 56 15) ≤ x3)
    (Post (some (.int x2)) M)
    (vp_in ((nI 0) + x3) 34 ∧ (br ((M.1 63 (((nI 0) + x3).toNatClampNeg)) = x1)
      (vp_in x3 16 ∧ (vp_in ((nI 8) + x3) 34 ∧ (PX G d m_X9_momentOf Post 8 [some (.ref 56), some (.int x1), some (.int (x2 + ((M.1 60 x3.toNatClampNeg) * (M.1 63 (((nI 8) + x3).toNatClampNeg))))), some (.int (x3 + nI 1))] [] M)))
      (PX G d m_X9_momentOf Post 8 [some (.ref 56), some (.int x1), some (.int (x2 + (nI 0))), some (.int (x3 + nI 1))] [] M)))) :
  PX G d m_X9_momentOf Post 8 [some (.ref 56), some (.int x1), some (.int x2), some (.int x3)] [] M := wp_ok [(8, [true, true, true, true])] ok_X9_momentOf tk_X9_momentOf 300 _ _ _ _ h
set_option maxRecDepth 100000 in
theorem g_X9_plank_0 {G : GG} {d : Nat} {Post : Option Value → PM → Prop} {M : PM} {x1 : Int32} {x2 : Int32} (h : PC G d m_X9_isPlank [.ref 56, .int x1] (wI M 56 0 (nI 0)) (fun v N1 => gI v (fun r1 => br (r1 = 0)
    (Post (some (.int (-1000000))) N1)
    (PC G d m_X9_in [.int x2, .int (nI 0), .int (nI 4)] N1 (fun v N2 => gI v (fun r2 => br (r2 = 0)
      (Post (some (.int (-1000000))) N2)
      (br (x2 = 0)
        (vp_in x1 6 ∧ (Post (some (.int (N2.1 58 x1.toNatClampNeg))) N2))
        (br (x2 = (nI 1))
          (vp_in x1 6 ∧ (Post (some (.int (N2.1 59 x1.toNatClampNeg))) N2))
          (br (x2 = (nI 2))
            (PC G d m_X9_momentOf [.ref 56, .int x1] N2 (fun v N5 => gI v (fun r5 => Post (some (.int r5)) N5)))
            (br (x2 = (nI 3))
              (PC G d m_X9_tiltOf [.ref 56, .int x1] N2 (fun v N4 => gI v (fun r4 => Post (some (.int r4)) N4)))
              (PC G d m_X9_sittingOn [.ref 56, .int x1] N2 (fun v N3 => gI v (fun r3 => Post (some (.int r3)) N3))))))))))))) :
  PX G d m_X9_plank Post 0 [some (.ref 56), some (.int x1), some (.int x2)] [] M := wp_ok [] ok_X9_plank tk_X9_plank 300 _ _ _ _ h
set_option maxRecDepth 100000 in
theorem g_X9_leaves_0 {G : GG} {d : Nat} {Post : Option Value → PM → Prop} {M : PM} {x1 : Int32} (h : PC G d m_X9_isChild [.ref 56, .int x1] (wI M 56 0 (nI 0)) (fun v N1 => gI v (fun r1 => br (r1 = 0)
    (Post (some (.int (-1))) N1)
    (vp_in ((nI 0) + x1) 34 ∧ (br ((N1.1 63 (((nI 0) + x1).toNatClampNeg)) = (-9 : Int32))
      (Post (some (.int (-2))) N1)
      (PC G d m_X9_goes [.ref 56, .int ((nI 0) + x1), .int ((nI 8) + x1)] N1 (fun v N2 => gI v (fun r2 => Post (some (.int r2)) N2)))))))) :
  PX G d m_X9_leaves Post 0 [some (.ref 56), some (.int x1)] [] M := wp_ok [] ok_X9_leaves tk_X9_leaves 300 _ _ _ _ h
set_option maxRecDepth 100000 in
theorem g_X9_lay_0 {G : GG} {d : Nat} {Post : Option Value → PM → Prop} {M : PM} {x1 : Int32} {x2 : Int32} {x3 : Int32} (h : PC G d m_X9_isStone [.ref 56, .int x1] (wI M 56 0 (nI 0)) (fun v N1 => gI v (fun r1 => br (r1 = 0)
    (Post (some (.int (-1))) N1)
    (PC G d m_X9_isPlank [.ref 56, .int x2] N1 (fun v N2 => gI v (fun r2 => br (r2 = 0)
      (Post (some (.int (-1))) N2)
      (br (x3 = 0)
        (Post (some (.int (-1))) N2)
        (vp_in x2 6 ∧ (vp_in x2 6 ∧ (PC G d m_X9_in [.int x3, .int (-(N2.1 58 x2.toNatClampNeg)), .int (N2.1 58 x2.toNatClampNeg)] N2 (fun v N3 => gI v (fun r3 => br (r3 = 0)
          (Post (some (.int (-1))) N3)
          (PX G d m_X9_lay Post 50 [some (.ref 56), some (.int x1), some (.int x2), some (.int x3), some (.int (nI 0))] [] N3))))))))))))) :
  PX G d m_X9_lay Post 0 [some (.ref 56), some (.int x1), some (.int x2), some (.int x3), none] [] M := wp_ok [(50, [true, true, true, true, true])] ok_X9_lay tk_X9_lay 300 _ _ _ _ h
set_option maxRecDepth 100000 in
theorem g_X9_lay_50 {G : GG} {d : Nat} {Post : Option Value → PM → Prop} {M : PM} {x1 : Int32} {x2 : Int32} {x3 : Int32} {x4 : Int32} (h : br ((M.1 56 16) ≤ x4)
    (PC G d m_X9_goes [.ref 56, .int ((nI 24) + x1), .int ((nI 29) + x1)] M (fun v N1 => gI v (fun r1 => PC G d m_X9_comes [.ref 56, .int ((nI 24) + x1), .int ((nI 29) + x1), .int x2, .int x3] N1 (fun v N2 => gI v (fun r2 => Post (some (.int (r1 + r2))) N2)))))
    (vp_in ((nI 24) + x4) 34 ∧ (br ((M.1 63 (((nI 24) + x4).toNatClampNeg)) = x2)
      (vp_in ((nI 29) + x4) 34 ∧ (br ((M.1 63 (((nI 29) + x4).toNatClampNeg)) = x3)
        (Post (some (.int (-2))) M)
        (PX G d m_X9_lay Post 50 [some (.ref 56), some (.int x1), some (.int x2), some (.int x3), some (.int (x4 + nI 1))] [] M)))
      (PX G d m_X9_lay Post 50 [some (.ref 56), some (.int x1), some (.int x2), some (.int x3), some (.int (x4 + nI 1))] [] M)))) :
  PX G d m_X9_lay Post 50 [some (.ref 56), some (.int x1), some (.int x2), some (.int x3), some (.int x4)] [] M := wp_ok [(50, [true, true, true, true, true])] ok_X9_lay tk_X9_lay 300 _ _ _ _ h
set_option maxRecDepth 100000 in
theorem g_X9_ones_0 {G : GG} {d : Nat} {Post : Option Value → PM → Prop} {M : PM} {x0 : Int32} (h : PX G d m_X9_ones Post 4 [some (.int x0), some (.int (nI 0)), some (.int (nI 0))] [] M) :
  PX G d m_X9_ones Post 0 [some (.int x0), none, none] [] M := wp_ok [(4, [true, true, true])] ok_X9_ones tk_X9_ones 300 _ _ _ _ h
set_option maxRecDepth 100000 in
theorem g_X9_ones_4 {G : GG} {d : Nat} {Post : Option Value → PM → Prop} {M : PM} {x0 : Int32} {x1 : Int32} {x2 : Int32} (h : br ((nI 8) ≤ x2)
    (Post (some (.int x1)) M)
    (PX G d m_X9_ones Post 4 [some (.int x0), some (.int (x1 + ((x0 >>> (x2 &&& 31)) &&& (nI 1)))), some (.int (x2 + nI 1))] [] M)) :
  PX G d m_X9_ones Post 4 [some (.int x0), some (.int x1), some (.int x2)] [] M := wp_ok [(4, [true, true, true])] ok_X9_ones tk_X9_ones 300 _ _ _ _ h
set_option maxRecDepth 100000 in
theorem g_X9_most_0 {G : GG} {d : Nat} {Post : Option Value → PM → Prop} {M : PM} {x1 : Int32} {x2 : Int32} (h : PC G d m_X9_isPlank [.ref 56, .int x1] (wI M 56 0 (nI 0)) (fun v N1 => gI v (fun r1 => br (r1 = 0)
    (Post (some (.int (-1))) N1)
    (PC G d m_X9_in [.int x2, .int (nI 0), .int (nI 1)] N1 (fun v N2 => gI v (fun r2 => br (r2 = 0)
      (Post (some (.int (-1))) N2)
      (PX G d m_X9_most Post 30 [some (.ref 56), some (.int x1), some (.int x2), some (.int (-9)), some (.int (nI 0)), none] [] N2))))))) :
  PX G d m_X9_most Post 0 [some (.ref 56), some (.int x1), some (.int x2), none, none, none] [] M := wp_ok [(30, [true, true, true, true, true, false]), (62, [true, true, true, true, true, false]), (102, [true, true, true, false, true, false])] ok_X9_most tk_X9_most 300 _ _ _ _ h
set_option maxRecDepth 100000 in
theorem g_X9_most_30 {G : GG} {d : Nat} {Post : Option Value → PM → Prop} {M : PM} {x1 : Int32} {x2 : Int32} {x3 : Int32} {x4 : Int32} (h : PC G d m_X9_all [.ref 56] M (fun v N1 => gI v (fun r1 => br (r1 < x4)
    (br (x3 = (-9 : Int32))
      (Post (some (.int x3)) N1)
      (br (x2 = (nI 1))
        (Post (some (.int x3)) N1)
        (PC G d m_X9_ones [.int x3] N1 (fun v N2 => gI v (fun r2 => Post (some (.int r2)) N2)))))
    (br (x3 = (-9 : Int32))
      (PX G d m_X9_most Post 62 [some (.ref 56), some (.int x1), some (.int x2), some (.int x3), some (.int x4), none] [.int (nI 1)] N1)
      (PC G d m_X9_ones [.int x4] N1 (fun v N3 => gI v (fun r3 => PC G d m_X9_ones [.int x3] N3 (fun v N4 => gI v (fun r4 => br (r3 ≤ r4)
        (PX G d m_X9_most Post 62 [some (.ref 56), some (.int x1), some (.int x2), some (.int x3), some (.int x4), none] [.int (nI 0)] N4)
        (PX G d m_X9_most Post 62 [some (.ref 56), some (.int x1), some (.int x2), some (.int x3), some (.int x4), none] [.int (nI 1)] N4)))))))))) :
  PX G d m_X9_most Post 30 [some (.ref 56), some (.int x1), some (.int x2), some (.int x3), some (.int x4), none] [] M := wp_ok [(30, [true, true, true, true, true, false]), (62, [true, true, true, true, true, false]), (102, [true, true, true, false, true, false])] ok_X9_most tk_X9_most 300 _ _ _ _ h
set_option maxRecDepth 100000 in
theorem g_X9_most_62 {G : GG} {d : Nat} {Post : Option Value → PM → Prop} {M : PM} {x1 : Int32} {x2 : Int32} {x3 : Int32} {x4 : Int32} {y0 : Int32} (h : br (y0 = 0)
    (PX G d m_X9_most Post 102 [some (.ref 56), some (.int x1), some (.int x2), none, some (.int x4), none] [.int x3] M)
    (PC G d m_X9_ones [.int x4] M (fun v N1 => gI v (fun r1 => vp_in x1 6 ∧ (br (((nI 2) * (N1.1 58 x1.toNatClampNeg)) < r1)
      (PX G d m_X9_most Post 102 [some (.ref 56), some (.int x1), some (.int x2), none, some (.int x4), none] [.int x3] N1)
      (PC G d m_X9_waysOf [.ref 56, .int x1, .int x4, .int (nI 1)] N1 (fun v N2 => gI v (fun r2 => br (r2 ≤ 0)
        (PX G d m_X9_most Post 102 [some (.ref 56), some (.int x1), some (.int x2), none, some (.int x4), none] [.int x3] N2)
        (PX G d m_X9_most Post 102 [some (.ref 56), some (.int x1), some (.int x2), none, some (.int x4), none] [.int x4] N2))))))))) :
  PX G d m_X9_most Post 62 [some (.ref 56), some (.int x1), some (.int x2), some (.int x3), some (.int x4), none] [.int y0] M := wp_ok [(30, [true, true, true, true, true, false]), (62, [true, true, true, true, true, false]), (102, [true, true, true, false, true, false])] ok_X9_most tk_X9_most 300 _ _ _ _ h
set_option maxRecDepth 100000 in
theorem g_X9_most_102 {G : GG} {d : Nat} {Post : Option Value → PM → Prop} {M : PM} {x1 : Int32} {x2 : Int32} {x4 : Int32} {y0 : Int32} (h : PX G d m_X9_most Post 30 [some (.ref 56), some (.int x1), some (.int x2), some (.int y0), some (.int (x4 + nI 1)), none] [] M) :
  PX G d m_X9_most Post 102 [some (.ref 56), some (.int x1), some (.int x2), none, some (.int x4), none] [.int y0] M := wp_ok [(30, [true, true, true, true, true, false]), (62, [true, true, true, true, true, false]), (102, [true, true, true, false, true, false])] ok_X9_most tk_X9_most 300 _ _ _ _ h
set_option maxRecDepth 100000 in
theorem g_X9_moves_0 {G : GG} {d : Nat} {Post : Option Value → PM → Prop} {M : PM} {x1 : Int32} (h : PC G d m_X9_isPlank [.ref 56, .int x1] (wI M 56 0 (nI 0)) (fun v N1 => gI v (fun r1 => br (r1 = 0)
    (Post (some (.int (-1))) N1)
    (PX G d m_X9_moves Post 19 [some (.ref 56), some (.int x1), some (.int (nI 0)), some (.int (nI 0)), none, none, none, none, none, none] [] N1)))) :
  PX G d m_X9_moves Post 0 [some (.ref 56), some (.int x1), none, none, none, none, none, none, none, none] [] M := wp_ok [(19, [true, true, true, true, false, false, false, false, false, false]), (111, [true, true, false, true, true, true, false, false, false, false]), (188, [true, true, false, true, true, true, true, true, true, false])] ok_X9_moves tk_X9_moves 300 _ _ _ _ h
set_option maxRecDepth 100000 in
theorem g_X9_moves_19 {G : GG} {d : Nat} {Post : Option Value → PM → Prop} {M : PM} {x1 : Int32} {x2 : Int32} {x3 : Int32} (h : br ((M.1 56 15) ≤ x3)
    (PC G d m_X9_seats [.ref 56, .int x2] M (fun v N1 => gN v (PC G d m_X9_stonesOn [.ref 56, .int x1] N1 (fun v N2 => gI v (fun r2 => PC G d m_X9_tiltBy [.ref 56, .int x1, .int r2] N2 (fun v N3 => gI v (fun r3 => br (r3 = 0)
      (br ((N3.1 56 24) = 0)
        (br ((N3.1 56 24) = 0)
          (vp_in (nI 0) 8 ∧ (PX G d m_X9_moves Post 111 [some (.ref 56), some (.int x1), none, some (.int r2), some (.int (nI 0)), some (.int (-1)), none, none, none, none] [] (wI N3 67 ((nI 0).toNatClampNeg) (-1))))
          (vp_in (nI 0) 8 ∧ (PX G d m_X9_moves Post 111 [some (.ref 56), some (.int x1), none, some (.int r2), some (.int (nI 0)), some (.int (nI 0)), none, none, none, none] [] (wI N3 67 ((nI 0).toNatClampNeg) (-1)))))
        (br ((N3.1 56 24) = 0)
          (vp_in (nI 0) 8 ∧ (PX G d m_X9_moves Post 111 [some (.ref 56), some (.int x1), none, some (.int r2), some (.int (-9)), some (.int (-1)), none, none, none, none] [] (wI N3 67 ((nI 0).toNatClampNeg) (-1))))
          (vp_in (nI 0) 8 ∧ (PX G d m_X9_moves Post 111 [some (.ref 56), some (.int x1), none, some (.int r2), some (.int (-9)), some (.int (nI 0)), none, none, none, none] [] (wI N3 67 ((nI 0).toNatClampNeg) (-1))))))
      (br ((N3.1 56 24) = 0)
        (vp_in (nI 0) 8 ∧ (PX G d m_X9_moves Post 111 [some (.ref 56), some (.int x1), none, some (.int r2), some (.int (-9)), some (.int (-1)), none, none, none, none] [] (wI N3 67 ((nI 0).toNatClampNeg) (-1))))
        (vp_in (nI 0) 8 ∧ (PX G d m_X9_moves Post 111 [some (.ref 56), some (.int x1), none, some (.int r2), some (.int (-9)), some (.int (nI 0)), none, none, none, none] [] (wI N3 67 ((nI 0).toNatClampNeg) (-1))))))))))))
    (vp_in ((nI 0) + x3) 34 ∧ (br ((M.1 63 (((nI 0) + x3).toNatClampNeg)) = x1)
      (PX G d m_X9_moves Post 19 [some (.ref 56), some (.int x1), some (.int (x2 ||| ((nI 1) <<< (x3 &&& 31)))), some (.int (x3 + nI 1)), none, none, none, none, none, none] [] M)
      (PX G d m_X9_moves Post 19 [some (.ref 56), some (.int x1), some (.int (x2 ||| (nI 0))), some (.int (x3 + nI 1)), none, none, none, none, none, none] [] M)))) :
  PX G d m_X9_moves Post 19 [some (.ref 56), some (.int x1), some (.int x2), some (.int x3), none, none, none, none, none, none] [] M := wp_ok [(19, [true, true, true, true, false, false, false, false, false, false]), (111, [true, true, false, true, true, true, false, false, false, false]), (188, [true, true, false, true, true, true, true, true, true, false])] ok_X9_moves tk_X9_moves 300 _ _ _ _ h
set_option maxRecDepth 100000 in
theorem g_X9_moves_111 {G : GG} {d : Nat} {Post : Option Value → PM → Prop} {M : PM} {x1 : Int32} {x3 : Int32} {x4 : Int32} {x5 : Int32} (h : br (x5 < 0)
    (Post (some (.int x4)) M)
    (PC G d m_X9_freeSeat [.ref 56, .int x1, .int x5] M (fun v N1 => gI v (fun r1 => vp_in x5 8 ∧ (vp_in x5 8 ∧ (vp_in x1 6 ∧ (br (((wI N1 67 x5.toNatClampNeg r1).1 67 x5.toNatClampNeg) < ((nI 2) * (N1.1 58 x1.toNatClampNeg)))
      (br (((N1.1 56 24) - (nI 1)) ≤ x5)
        (PX G d m_X9_moves Post 188 [some (.ref 56), some (.int x1), none, some (.int x3), some (.int x4), some (.int x5), some (.int x3), some (.int (nI 0)), some (.int (nI 0)), none] [] (wI N1 67 x5.toNatClampNeg r1))
        (vp_in (x5 + nI 1) 8 ∧ (PX G d m_X9_moves Post 111 [some (.ref 56), some (.int x1), none, some (.int x3), some (.int x4), some (.int (x5 + nI 1)), none, none, none, none] [] (wI (wI N1 67 x5.toNatClampNeg r1) 67 ((x5 + nI 1).toNatClampNeg) (-1)))))
      (PX G d m_X9_moves Post 111 [some (.ref 56), some (.int x1), none, some (.int x3), some (.int x4), some (.int (x5 + (-1))), none, none, none, none] [] (wI N1 67 x5.toNatClampNeg r1))))))))) :
  PX G d m_X9_moves Post 111 [some (.ref 56), some (.int x1), none, some (.int x3), some (.int x4), some (.int x5), none, none, none, none] [] M := wp_ok [(19, [true, true, true, true, false, false, false, false, false, false]), (111, [true, true, false, true, true, true, false, false, false, false]), (188, [true, true, false, true, true, true, true, true, true, false])] ok_X9_moves tk_X9_moves 300 _ _ _ _ h
set_option maxRecDepth 100000 in
theorem g_X9_moves_188 {G : GG} {d : Nat} {Post : Option Value → PM → Prop} {M : PM} {x1 : Int32} {x3 : Int32} {x4 : Int32} {x5 : Int32} {x6 : Int32} {x7 : Int32} {x8 : Int32} (h : br ((M.1 56 24) ≤ x8)
    (PC G d m_X9_tiltBy [.ref 56, .int x1, .int x6] M (fun v N1 => gI v (fun r1 => br (r1 = 0)
      (br (x4 = (-9 : Int32))
        (PX G d m_X9_moves Post 111 [some (.ref 56), some (.int x1), none, some (.int x3), some (.int x7), some (.int x5), none, none, none, none] [] N1)
        (br (x4 ≤ x7)
          (PX G d m_X9_moves Post 111 [some (.ref 56), some (.int x1), none, some (.int x3), some (.int x4), some (.int x5), none, none, none, none] [] N1)
          (PX G d m_X9_moves Post 111 [some (.ref 56), some (.int x1), none, some (.int x3), some (.int x7), some (.int x5), none, none, none, none] [] N1)))
      (PX G d m_X9_moves Post 111 [some (.ref 56), some (.int x1), none, some (.int x3), some (.int x4), some (.int x5), none, none, none, none] [] N1))))
    (vp_in x8 8 ∧ (PC G d m_X9_stepOf [.ref 56, .int x1, .int (M.1 67 x8.toNatClampNeg)] M (fun v N2 => gI v (fun r2 => vp_in x8 8 ∧ (vp_in (N2.1 66 x8.toNatClampNeg) 16 ∧ (vp_in x8 8 ∧ (vp_in ((nI 8) + (N2.1 66 x8.toNatClampNeg)) 34 ∧ (br (r2 = (N2.1 63 (((nI 8) + (N2.1 66 x8.toNatClampNeg)).toNatClampNeg)))
      (PX G d m_X9_moves Post 188 [some (.ref 56), some (.int x1), none, some (.int x3), some (.int x4), some (.int x5), some (.int (x6 + ((N2.1 60 ((N2.1 66 x8.toNatClampNeg).toNatClampNeg)) * r2))), some (.int (x7 + (nI 0))), some (.int (x8 + nI 1)), none] [] N2)
      (PX G d m_X9_moves Post 188 [some (.ref 56), some (.int x1), none, some (.int x3), some (.int x4), some (.int x5), some (.int (x6 + ((N2.1 60 ((N2.1 66 x8.toNatClampNeg).toNatClampNeg)) * r2))), some (.int (x7 + (nI 1))), some (.int (x8 + nI 1)), none] [] N2)))))))))) :
  PX G d m_X9_moves Post 188 [some (.ref 56), some (.int x1), none, some (.int x3), some (.int x4), some (.int x5), some (.int x6), some (.int x7), some (.int x8), none] [] M := wp_ok [(19, [true, true, true, true, false, false, false, false, false, false]), (111, [true, true, false, true, true, true, false, false, false, false]), (188, [true, true, false, true, true, true, true, true, true, false])] ok_X9_moves tk_X9_moves 300 _ _ _ _ h
set_option maxRecDepth 100000 in
theorem g_X9_levels_0 {G : GG} {d : Nat} {Post : Option Value → PM → Prop} {M : PM} {x1 : Int32} {x2 : Int32} (h : PX G d m_X9_levels Post 5 [some (.ref 56), some (.int x1), some (.int x2), some (.int (nI 0)), some (.int (nI 0)), none, none, none] [] M) :
  PX G d m_X9_levels Post 0 [some (.ref 56), some (.int x1), some (.int x2), none, none, none, none, none] [] M := wp_ok [(5, [true, true, true, true, true, false, false, false]), (78, [true, true, false, true, true, true, false, false]), (170, [true, true, false, true, true, true, true, true])] ok_X9_levels tk_X9_levels 300 _ _ _ _ h
set_option maxRecDepth 100000 in
theorem g_X9_levels_5 {G : GG} {d : Nat} {Post : Option Value → PM → Prop} {M : PM} {x1 : Int32} {x2 : Int32} {x3 : Int32} {x4 : Int32} (h : br ((M.1 56 16) ≤ x4)
    (PC G d m_X9_momentOf [.ref 56, .int x1] M (fun v N1 => gI v (fun r1 => br (x3 = 0)
      (PC G d m_X9_tiltBy [.ref 56, .int x1, .int r1] N1 (fun v N2 => gI v (fun r2 => br (r2 = 0)
        (((nI 1) = 0 ∨ (nI 1) = 1) ∧ Post (some (.int (nI 1))) N2)
        (((nI 0) = 0 ∨ (nI 0) = 1) ∧ Post (some (.int (nI 0))) N2))))
      (vp_in (nI 0) 8 ∧ (PX G d m_X9_levels Post 78 [some (.ref 56), some (.int x1), none, some (.int x3), some (.int r1), some (.int (nI 0)), none, none] [] (wI N1 67 ((nI 0).toNatClampNeg) (-1)))))))
    (br (((x2 >>> (x4 &&& 31)) &&& (nI 1)) = (nI 1))
      (vp_in x3 8 ∧ (PX G d m_X9_levels Post 5 [some (.ref 56), some (.int x1), some (.int x2), some (.int (x3 + nI 1)), some (.int (x4 + nI 1)), none, none, none] [] (wI M 66 x3.toNatClampNeg x4)))
      (PX G d m_X9_levels Post 5 [some (.ref 56), some (.int x1), some (.int x2), some (.int x3), some (.int (x4 + nI 1)), none, none, none] [] M))) :
  PX G d m_X9_levels Post 5 [some (.ref 56), some (.int x1), some (.int x2), some (.int x3), some (.int x4), none, none, none] [] M := wp_ok [(5, [true, true, true, true, true, false, false, false]), (78, [true, true, false, true, true, true, false, false]), (170, [true, true, false, true, true, true, true, true])] ok_X9_levels tk_X9_levels 300 _ _ _ _ h
set_option maxRecDepth 100000 in
theorem g_X9_levels_78 {G : GG} {d : Nat} {Post : Option Value → PM → Prop} {M : PM} {x1 : Int32} {x3 : Int32} {x4 : Int32} {x5 : Int32} (h : br (x5 < 0)
    (((nI 0) = 0 ∨ (nI 0) = 1) ∧ Post (some (.int (nI 0))) M)
    (PC G d m_X9_freeSeat [.ref 56, .int x1, .int x5] M (fun v N1 => gI v (fun r1 => vp_in x5 8 ∧ (vp_in x5 8 ∧ (vp_in x1 6 ∧ (br (((wI N1 67 x5.toNatClampNeg r1).1 67 x5.toNatClampNeg) < ((nI 2) * (N1.1 58 x1.toNatClampNeg)))
      (vp_in x5 8 ∧ (PC G d m_X9_stepOf [.ref 56, .int x1, .int ((wI N1 67 x5.toNatClampNeg r1).1 67 x5.toNatClampNeg)] (wI N1 67 x5.toNatClampNeg r1) (fun v N2 => gI v (fun r2 => PC G d m_X9_hasStone [.ref 56, .int x1, .int r2] N2 (fun v N3 => gI v (fun r3 => br (r3 = 0)
        (br ((x3 - (nI 1)) ≤ x5)
          (PX G d m_X9_levels Post 170 [some (.ref 56), some (.int x1), none, some (.int x3), some (.int x4), some (.int x5), some (.int x4), some (.int (nI 0))] [] N3)
          (vp_in (x5 + nI 1) 8 ∧ (PX G d m_X9_levels Post 78 [some (.ref 56), some (.int x1), none, some (.int x3), some (.int x4), some (.int (x5 + nI 1)), none, none] [] (wI N3 67 ((x5 + nI 1).toNatClampNeg) (-1)))))
        (PX G d m_X9_levels Post 78 [some (.ref 56), some (.int x1), none, some (.int x3), some (.int x4), some (.int x5), none, none] [] N3)))))))
      (PX G d m_X9_levels Post 78 [some (.ref 56), some (.int x1), none, some (.int x3), some (.int x4), some (.int (x5 + (-1))), none, none] [] (wI N1 67 x5.toNatClampNeg r1))))))))) :
  PX G d m_X9_levels Post 78 [some (.ref 56), some (.int x1), none, some (.int x3), some (.int x4), some (.int x5), none, none] [] M := wp_ok [(5, [true, true, true, true, true, false, false, false]), (78, [true, true, false, true, true, true, false, false]), (170, [true, true, false, true, true, true, true, true])] ok_X9_levels tk_X9_levels 300 _ _ _ _ h
set_option maxRecDepth 100000 in
theorem g_X9_levels_170 {G : GG} {d : Nat} {Post : Option Value → PM → Prop} {M : PM} {x1 : Int32} {x3 : Int32} {x4 : Int32} {x5 : Int32} {x6 : Int32} {x7 : Int32} (h : br (x3 ≤ x7)
    (PC G d m_X9_tiltBy [.ref 56, .int x1, .int x6] M (fun v N1 => gI v (fun r1 => br (r1 = 0)
      (((nI 1) = 0 ∨ (nI 1) = 1) ∧ Post (some (.int (nI 1))) N1)
      (PX G d m_X9_levels Post 78 [some (.ref 56), some (.int x1), none, some (.int x3), some (.int x4), some (.int x5), none, none] [] N1))))
    (vp_in x7 8 ∧ (vp_in (M.1 66 x7.toNatClampNeg) 10 ∧ (vp_in x7 8 ∧ (PC G d m_X9_stepOf [.ref 56, .int x1, .int (M.1 67 x7.toNatClampNeg)] M (fun v N2 => gI v (fun r2 => PX G d m_X9_levels Post 170 [some (.ref 56), some (.int x1), none, some (.int x3), some (.int x4), some (.int x5), some (.int (x6 + ((M.1 62 ((M.1 66 x7.toNatClampNeg).toNatClampNeg)) * r2))), some (.int (x7 + nI 1))] [] N2))))))) :
  PX G d m_X9_levels Post 170 [some (.ref 56), some (.int x1), none, some (.int x3), some (.int x4), some (.int x5), some (.int x6), some (.int x7)] [] M := wp_ok [(5, [true, true, true, true, true, false, false, false]), (78, [true, true, false, true, true, true, false, false]), (170, [true, true, false, true, true, true, true, true])] ok_X9_levels tk_X9_levels 300 _ _ _ _ h
set_option maxRecDepth 100000 in
theorem g_X9_mayPut_0 {G : GG} {d : Nat} {Post : Option Value → PM → Prop} {M : PM} {x1 : Int32} {x2 : Int32} {x3 : Int32} {x4 : Int32} {x5 : Int32} {x6 : Int32} (h : br (((x2 >>> (x5 &&& 31)) &&& (nI 1)) = 0)
    (br (((x3 >>> (x6 &&& 31)) &&& (nI 1)) = 0)
      (vp_in ((nI 0) + x5) 34 ∧ (br ((M.1 63 (((nI 0) + x5).toNatClampNeg)) = (-9 : Int32))
        (PX G d m_X9_mayPut Post 37 [some (.ref 56), some (.int x1), none, none, some (.int x4), some (.int x5), some (.int x6), none] [.int (nI 1)] M)
        (PX G d m_X9_mayPut Post 37 [some (.ref 56), some (.int x1), none, none, some (.int x4), some (.int x5), some (.int x6), none] [.int (nI 0)] M)))
      (PX G d m_X9_mayPut Post 37 [some (.ref 56), some (.int x1), none, none, some (.int x4), some (.int x5), some (.int x6), none] [.int (nI 0)] M))
    (PX G d m_X9_mayPut Post 37 [some (.ref 56), some (.int x1), none, none, some (.int x4), some (.int x5), some (.int x6), none] [.int (nI 0)] M)) :
  PX G d m_X9_mayPut Post 0 [some (.ref 56), some (.int x1), some (.int x2), some (.int x3), some (.int x4), some (.int x5), some (.int x6), none] [] M := wp_ok [(37, [true, true, false, false, true, true, true, false])] ok_X9_mayPut tk_X9_mayPut 300 _ _ _ _ h
set_option maxRecDepth 100000 in
theorem g_X9_mayPut_37 {G : GG} {d : Nat} {Post : Option Value → PM → Prop} {M : PM} {x1 : Int32} {x4 : Int32} {x5 : Int32} {x6 : Int32} {y0 : Int32} (h : br (y0 = 0)
    (((nI 0) = 0 ∨ (nI 0) = 1) ∧ Post (some (.int (nI 0))) M)
    (PC G d m_X9_isTaken [.ref 56, .int x1, .int x6] M (fun v N1 => gI v (fun r1 => br (r1 = 0)
      (vp_in x5 16 ∧ (PC G d m_X9_stepOf [.ref 56, .int x1, .int x6] N1 (fun v N2 => gI v (fun r2 => PC G d m_X9_tiltBy [.ref 56, .int x1, .int (x4 + ((N1.1 60 x5.toNatClampNeg) * r2))] N2 (fun v N3 => gI v (fun r3 => br (r3 = 0)
        (((nI 1) = 0 ∨ (nI 1) = 1) ∧ Post (some (.int (nI 1))) N3)
        (((nI 0) = 0 ∨ (nI 0) = 1) ∧ Post (some (.int (nI 0))) N3)))))))
      (((nI 0) = 0 ∨ (nI 0) = 1) ∧ Post (some (.int (nI 0))) N1))))) :
  PX G d m_X9_mayPut Post 37 [some (.ref 56), some (.int x1), none, none, some (.int x4), some (.int x5), some (.int x6), none] [.int y0] M := wp_ok [(37, [true, true, false, false, true, true, true, false])] ok_X9_mayPut tk_X9_mayPut 300 _ _ _ _ h
set_option maxRecDepth 100000 in
theorem g_X9_lastMove_0 {G : GG} {d : Nat} {Post : Option Value → PM → Prop} {M : PM} {x1 : Int32} {x2 : Int32} {x3 : Int32} {x4 : Int32} (h : PX G d m_X9_lastMove Post 3 [some (.ref 56), some (.int x1), some (.int x2), some (.int x3), some (.int x4), some (.int (nI 0)), none] [] M) :
  PX G d m_X9_lastMove Post 0 [some (.ref 56), some (.int x1), some (.int x2), some (.int x3), some (.int x4), none, none] [] M := wp_ok [(3, [true, true, true, true, true, true, false]), (15, [true, true, true, true, true, true, true])] ok_X9_lastMove tk_X9_lastMove 300 _ _ _ _ h
set_option maxRecDepth 100000 in
theorem g_X9_lastMove_3 {G : GG} {d : Nat} {Post : Option Value → PM → Prop} {M : PM} {x1 : Int32} {x2 : Int32} {x3 : Int32} {x4 : Int32} {x5 : Int32} (h : br ((M.1 56 15) ≤ x5)
    (Post (some (.int (-9))) M)
    (PX G d m_X9_lastMove Post 15 [some (.ref 56), some (.int x1), some (.int x2), some (.int x3), some (.int x4), some (.int x5), some (.int (nI 0))] [] M)) :
  PX G d m_X9_lastMove Post 3 [some (.ref 56), some (.int x1), some (.int x2), some (.int x3), some (.int x4), some (.int x5), none] [] M := wp_ok [(3, [true, true, true, true, true, true, false]), (15, [true, true, true, true, true, true, true])] ok_X9_lastMove tk_X9_lastMove 300 _ _ _ _ h
set_option maxRecDepth 100000 in
theorem g_X9_lastMove_15 {G : GG} {d : Nat} {Post : Option Value → PM → Prop} {M : PM} {x1 : Int32} {x2 : Int32} {x3 : Int32} {x4 : Int32} {x5 : Int32} {x6 : Int32} (h : vp_in x1 6 ∧ (br (((nI 2) * (M.1 58 x1.toNatClampNeg)) ≤ x6)
    (PX G d m_X9_lastMove Post 3 [some (.ref 56), some (.int x1), some (.int x2), some (.int x3), some (.int x4), some (.int (x5 + nI 1)), none] [] M)
    (PC G d m_X9_mayPut [.ref 56, .int x1, .int x2, .int x3, .int x4, .int x5, .int x6] M (fun v N1 => gI v (fun r1 => br (r1 = 0)
      (PX G d m_X9_lastMove Post 15 [some (.ref 56), some (.int x1), some (.int x2), some (.int x3), some (.int x4), some (.int x5), some (.int (x6 + nI 1))] [] N1)
      (Post (some (.int (((nI 8) * x5) + x6))) N1)))))) :
  PX G d m_X9_lastMove Post 15 [some (.ref 56), some (.int x1), some (.int x2), some (.int x3), some (.int x4), some (.int x5), some (.int x6)] [] M := wp_ok [(3, [true, true, true, true, true, true, false]), (15, [true, true, true, true, true, true, true])] ok_X9_lastMove tk_X9_lastMove 300 _ _ _ _ h
set_option maxRecDepth 100000 in
theorem g_X9_next_0 {G : GG} {d : Nat} {Post : Option Value → PM → Prop} {M : PM} {x1 : Int32} (h : PC G d m_X9_in [.int x1, .int (nI 0), .int (nI 1)] (wI M 56 0 (nI 0)) (fun v N1 => gI v (fun r1 => br (r1 = 0)
    (Post (some (.int (-1))) N1)
    (PX G d m_X9_next Post 24 [some (.ref 56), some (.int x1), some (.int (-9)), some (.int (nI 0)), some (.int (nI 0)), none, none, none, none, none] [] N1)))) :
  PX G d m_X9_next Post 0 [some (.ref 56), some (.int x1), none, none, none, none, none, none, none, none] [] M := wp_ok [(24, [true, true, true, true, true, false, false, false, false, false]), (39, [true, true, true, true, true, true, false, false, false, false]), (54, [true, true, true, true, true, true, true, true, false, false]), (66, [true, true, true, true, true, true, true, true, true, true])] ok_X9_next tk_X9_next 300 _ _ _ _ h
set_option maxRecDepth 100000 in
theorem g_X9_next_24 {G : GG} {d : Nat} {Post : Option Value → PM → Prop} {M : PM} {x1 : Int32} {x2 : Int32} {x3 : Int32} {x4 : Int32} (h : br ((M.1 56 27) ≤ x4)
    (br (x1 = 0)
      (Post (some (.int x2)) M)
      (Post (some (.int x3)) M))
    (PX G d m_X9_next Post 39 [some (.ref 56), some (.int x1), some (.int x2), some (.int x3), some (.int x4), some (.int (x4 + (nI 1))), none, none, none, none] [] M)) :
  PX G d m_X9_next Post 24 [some (.ref 56), some (.int x1), some (.int x2), some (.int x3), some (.int x4), none, none, none, none, none] [] M := wp_ok [(24, [true, true, true, true, true, false, false, false, false, false]), (39, [true, true, true, true, true, true, false, false, false, false]), (54, [true, true, true, true, true, true, true, true, false, false]), (66, [true, true, true, true, true, true, true, true, true, true])] ok_X9_next tk_X9_next 300 _ _ _ _ h
set_option maxRecDepth 100000 in
theorem g_X9_next_39 {G : GG} {d : Nat} {Post : Option Value → PM → Prop} {M : PM} {x1 : Int32} {x2 : Int32} {x3 : Int32} {x4 : Int32} {x5 : Int32} (h : br ((M.1 56 27) ≤ x5)
    (PX G d m_X9_next Post 24 [some (.ref 56), some (.int x1), some (.int x2), some (.int x3), some (.int (x4 + nI 1)), none, none, none, none, none] [] M)
    (PX G d m_X9_next Post 54 [some (.ref 56), some (.int x1), some (.int x2), some (.int x3), some (.int x4), some (.int x5), some (.int (nI 0)), some (.int (-1)), none, none] [] M)) :
  PX G d m_X9_next Post 39 [some (.ref 56), some (.int x1), some (.int x2), some (.int x3), some (.int x4), some (.int x5), none, none, none, none] [] M := wp_ok [(24, [true, true, true, true, true, false, false, false, false, false]), (39, [true, true, true, true, true, true, false, false, false, false]), (54, [true, true, true, true, true, true, true, true, false, false]), (66, [true, true, true, true, true, true, true, true, true, true])] ok_X9_next tk_X9_next 300 _ _ _ _ h
set_option maxRecDepth 100000 in
theorem g_X9_next_54 {G : GG} {d : Nat} {Post : Option Value → PM → Prop} {M : PM} {x1 : Int32} {x2 : Int32} {x3 : Int32} {x4 : Int32} {x5 : Int32} {x6 : Int32} {x7 : Int32} (h : br ((nI 2) ≤ x7)
    (br (x2 = (-9 : Int32))
      (PX G d m_X9_next Post 39 [some (.ref 56), some (.int x1), some (.int (((nI 10) * x4) + x5)), some (.int x6), some (.int x4), some (.int (x5 + nI 1)), none, none, none, none] [] M)
      (br (x3 ≤ x6)
        (PX G d m_X9_next Post 39 [some (.ref 56), some (.int x1), some (.int x2), some (.int x3), some (.int x4), some (.int (x5 + nI 1)), none, none, none, none] [] M)
        (PX G d m_X9_next Post 39 [some (.ref 56), some (.int x1), some (.int (((nI 10) * x4) + x5)), some (.int x6), some (.int x4), some (.int (x5 + nI 1)), none, none, none, none] [] M)))
    (PX G d m_X9_next Post 66 [some (.ref 56), some (.int x1), some (.int x2), some (.int x3), some (.int x4), some (.int x5), some (.int x6), some (.int x7), some (.int (nI 0)), some (.int (nI 0))] [] M)) :
  PX G d m_X9_next Post 54 [some (.ref 56), some (.int x1), some (.int x2), some (.int x3), some (.int x4), some (.int x5), some (.int x6), some (.int x7), none, none] [] M := wp_ok [(24, [true, true, true, true, true, false, false, false, false, false]), (39, [true, true, true, true, true, true, false, false, false, false]), (54, [true, true, true, true, true, true, true, true, false, false]), (66, [true, true, true, true, true, true, true, true, true, true])] ok_X9_next tk_X9_next 300 _ _ _ _ h
set_option maxRecDepth 100000 in
theorem g_X9_next_66 {G : GG} {d : Nat} {Post : Option Value → PM → Prop} {M : PM} {x1 : Int32} {x2 : Int32} {x3 : Int32} {x4 : Int32} {x5 : Int32} {x6 : Int32} {x7 : Int32} {x8 : Int32} {x9 : Int32} (h : PC G d m_X9_allWays [.ref 56] M (fun v N1 => gI v (fun r1 => br (r1 ≤ x9)
    (br (x8 ≤ x6)
      (PX G d m_X9_next Post 54 [some (.ref 56), some (.int x1), some (.int x2), some (.int x3), some (.int x4), some (.int x5), some (.int x6), some (.int (x7 + nI 1)), none, none] [] N1)
      (PX G d m_X9_next Post 54 [some (.ref 56), some (.int x1), some (.int x2), some (.int x3), some (.int x4), some (.int x5), some (.int x8), some (.int (x7 + nI 1)), none, none] [] N1))
    (PC G d m_X9_weighs [.int x9, .int x4, .int x5] N1 (fun v N2 => gI v (fun r2 => br (r2 = x7)
      (PC G d m_X9_fits [.ref 56, .int x9] N2 (fun v N3 => gI v (fun r3 => br (r3 = 0)
        (PX G d m_X9_next Post 66 [some (.ref 56), some (.int x1), some (.int x2), some (.int x3), some (.int x4), some (.int x5), some (.int x6), some (.int x7), some (.int (x8 + (nI 0))), some (.int (x9 + nI 1))] [] N3)
        (PX G d m_X9_next Post 66 [some (.ref 56), some (.int x1), some (.int x2), some (.int x3), some (.int x4), some (.int x5), some (.int x6), some (.int x7), some (.int (x8 + (nI 1))), some (.int (x9 + nI 1))] [] N3))))
      (PX G d m_X9_next Post 66 [some (.ref 56), some (.int x1), some (.int x2), some (.int x3), some (.int x4), some (.int x5), some (.int x6), some (.int x7), some (.int (x8 + (nI 0))), some (.int (x9 + nI 1))] [] N2))))))) :
  PX G d m_X9_next Post 66 [some (.ref 56), some (.int x1), some (.int x2), some (.int x3), some (.int x4), some (.int x5), some (.int x6), some (.int x7), some (.int x8), some (.int x9)] [] M := wp_ok [(24, [true, true, true, true, true, false, false, false, false, false]), (39, [true, true, true, true, true, true, false, false, false, false]), (54, [true, true, true, true, true, true, true, true, false, false]), (66, [true, true, true, true, true, true, true, true, true, true])] ok_X9_next tk_X9_next 300 _ _ _ _ h
set_option maxRecDepth 100000 in
theorem g_X9_letsOff_0 {G : GG} {d : Nat} {Post : Option Value → PM → Prop} {M : PM} {x1 : Int32} (h : vp_in x1 3 ∧ (vp_in x1 3 ∧ (PC G d m_X9_lesser [.int (M.1 72 x1.toNatClampNeg), .int (M.1 73 x1.toNatClampNeg)] M (fun v N1 => gI v (fun r1 => vp_in x1 3 ∧ (vp_in x1 3 ∧ (vp_in x1 3 ∧ (PC G d m_X9_waits [.ref 56, .int r1] (wI N1 72 x1.toNatClampNeg (-9)) (fun v N2 => gN v (PC G d m_X9_waits [.ref 56, .int (((N1.1 72 x1.toNatClampNeg) + (N1.1 73 x1.toNatClampNeg)) - r1)] N2 (fun v N3 => gN v (Post none N3)))))))))))) :
  PX G d m_X9_letsOff Post 0 [some (.ref 56), some (.int x1), none, none] [] M := wp_ok [] ok_X9_letsOff tk_X9_letsOff 300 _ _ _ _ h
set_option maxRecDepth 100000 in
theorem g_X9_lesser_0 {G : GG} {d : Nat} {Post : Option Value → PM → Prop} {M : PM} {x0 : Int32} {x1 : Int32} (h : br (x1 ≤ x0)
    (Post (some (.int x1)) M)
    (Post (some (.int x0)) M)) :
  PX G d m_X9_lesser Post 0 [some (.int x0), some (.int x1)] [] M := wp_ok [] ok_X9_lesser tk_X9_lesser 300 _ _ _ _ h
set_option maxRecDepth 100000 in
theorem g_X9_outOfRow_0 {G : GG} {d : Nat} {Post : Option Value → PM → Prop} {M : PM} {x1 : Int32} (h : PX G d m_X9_outOfRow Post 12 [some (.ref 56), none, some (.int x1)] [] (wI M 56 32 ((M.1 56 32) - (nI 1)))) :
  PX G d m_X9_outOfRow Post 0 [some (.ref 56), some (.int x1), none] [] M := wp_ok [(12, [true, false, true])] ok_X9_outOfRow tk_X9_outOfRow 300 _ _ _ _ h
set_option maxRecDepth 100000 in
theorem g_X9_outOfRow_12 {G : GG} {d : Nat} {Post : Option Value → PM → Prop} {M : PM} {x2 : Int32} (h : br ((M.1 56 32) ≤ x2)
    (Post none M)
    (vp_in (x2 + (nI 1)) 8 ∧ (vp_in x2 8 ∧ (PX G d m_X9_outOfRow Post 12 [some (.ref 56), none, some (.int (x2 + nI 1))] [] (wI M 71 x2.toNatClampNeg (M.1 71 ((x2 + (nI 1)).toNatClampNeg))))))) :
  PX G d m_X9_outOfRow Post 12 [some (.ref 56), none, some (.int x2)] [] M := wp_ok [(12, [true, false, true])] ok_X9_outOfRow tk_X9_outOfRow 300 _ _ _ _ h
end
section
set_option maxRecDepth 100000 in
theorem g_X9_size_0 {G : GG} {d : Nat} {Post : Option Value → PM → Prop} {M : PM} {x0 : Int32} (h : br (0 ≤ x0)
    (Post (some (.int x0)) M)
    (Post (some (.int (-x0))) M)) :
  PX G d m_X9_size Post 0 [some (.int x0)] [] M := wp_ok [] ok_X9_size tk_X9_size 300 _ _ _ _ h
set_option maxRecDepth 100000 in
theorem g_X9_type_0 {G : GG} {d : Nat} {Post : Option Value → PM → Prop} {M : PM} {x1 : Int64} {x3 : Int32} (h : PC G d m_X9_in [.int x3, .int (nI 1), .int (nI 8)] (wI M 56 0 (nI 0)) (fun v N1 => gI v (fun r1 => br (r1 = 0)
    (Post (some (.int (-1))) N1)
    (br (((N1.1 56 3) + x3) ≤ (nI 300))
      (PX G d m_X9_type Post 37 [some (.ref 56), some (.long x1), none, none, some (.int (x3 - (nI 1)))] [] N1)
      (Post (some (.int (-3))) N1))))) :
  PX G d m_X9_type Post 0 [some (.ref 56), some (.long x1), none, some (.int x3), none] [] M := wp_ok [(37, [true, true, false, false, true])] ok_X9_type tk_X9_type 300 _ _ _ _ h
set_option maxRecDepth 100000 in
theorem g_X9_type_37 {G : GG} {d : Nat} {Post : Option Value → PM → Prop} {M : PM} {x1 : Int64} {x4 : Int32} (h : br (x4 < 0)
    (Post (some (.int (M.1 56 3))) M)
    (vp_in (M.1 56 3) 300 ∧ (PX G d m_X9_type Post 37 [some (.ref 56), some (.long x1), none, none, some (.int (x4 + (-1)))] [] (wI (wI M 57 ((M.1 56 3).toNatClampNeg) (((x1 >>> (((nI 8) * x4).toInt64 &&& 63)) &&& 255).toInt32)) 56 3 ((M.1 56 3) + (nI 1)))))) :
  PX G d m_X9_type Post 37 [some (.ref 56), some (.long x1), none, none, some (.int x4)] [] M := wp_ok [(37, [true, true, false, false, true])] ok_X9_type tk_X9_type 300 _ _ _ _ h
set_option maxRecDepth 100000 in
theorem g_X9_wordOf_0 {G : GG} {d : Nat} {Post : Option Value → PM → Prop} {M : PM} {x0 : Int64} (h : PC G d m_X9_named [.int (nI 112), .int (nI 108), .int (nI 97), .int (nI 110), .int (nI 107)] M (fun v N1 => gL v (fun r1 => br ((lg_cmp x0 r1) = 0)
    (Post (some (.int (nI 0))) N1)
    (PC G d m_X9_named [.int (nI 99), .int (nI 104), .int (nI 105), .int (nI 108), .int (nI 100)] N1 (fun v N2 => gL v (fun r2 => br ((lg_cmp x0 r2) = 0)
      (Post (some (.int (nI 1))) N2)
      (PC G d m_X9_named [.int (nI 115), .int (nI 116), .int (nI 111), .int (nI 110), .int (nI 101)] N2 (fun v N3 => gL v (fun r3 => br ((lg_cmp x0 r3) = 0)
        (Post (some (.int (nI 2))) N3)
        (Post (some (.int (-9))) N3)))))))))) :
  PX G d m_X9_wordOf Post 0 [some (.long x0), none] [] M := wp_ok [] ok_X9_wordOf tk_X9_wordOf 300 _ _ _ _ h
set_option maxRecDepth 100000 in
theorem g_X9_takes_0 {G : GG} {d : Nat} {Post : Option Value → PM → Prop} {M : PM} {x1 : Int32} (h : PC G d m_X9_isWell [.ref 56] M (fun v N1 => gI v (fun r1 => br (r1 = 0)
    (Post (some (.int (nI 0))) N1)
    (br (x1 = 0)
      (Post (some (.int (nI 0))) (wI N1 56 8 (N1.1 56 6)))
      (PC G d m_X9_advances [.ref 56] N1 (fun v N2 => gN v (Post (some (.int (N1.1 56 7))) N2))))))) :
  PX G d m_X9_takes Post 0 [some (.ref 56), some (.int x1), none] [] M := wp_ok [] ok_X9_takes tk_X9_takes 300 _ _ _ _ h
set_option maxRecDepth 100000 in
theorem g_X9_readsItem_0 {G : GG} {d : Nat} {Post : Option Value → PM → Prop} {M : PM} {x1 : Int32} (h : br (x1 = 0)
    (PC G d m_X9_number [.ref 56, .int (nI 1), .int (nI 4)] M (fun v N4 => gI v (fun r4 => vp_in ((nI 3) + (M.1 56 17)) 6 ∧ (PC G d m_X9_number [.ref 56, .int (nI 0), .int (nI 20)] (wI N4 58 (((nI 3) + (M.1 56 17)).toNatClampNeg) r4) (fun v N5 => gI v (fun r5 => vp_in ((nI 3) + (N4.1 56 17)) 6 ∧ (Post none (wI (wI N5 59 (((nI 3) + (N4.1 56 17)).toNatClampNeg) r5) 56 17 ((N5.1 56 17) + (nI 1))))))))))
    (br (x1 = (nI 1))
      (PC G d m_X9_number [.ref 56, .int (nI 1), .int (nI 60)] M (fun v N2 => gI v (fun r2 => vp_in ((nI 8) + (M.1 56 18)) 16 ∧ (PC G d m_X9_number [.ref 56, .int (nI 1), .int (nI 30)] (wI N2 60 (((nI 8) + (M.1 56 18)).toNatClampNeg) r2) (fun v N3 => gI v (fun r3 => vp_in ((nI 8) + (N2.1 56 18)) 16 ∧ (Post none (wI (wI N3 61 (((nI 8) + (N2.1 56 18)).toNatClampNeg) r3) 56 18 ((N3.1 56 18) + (nI 1))))))))))
      (PC G d m_X9_number [.ref 56, .int (nI 1), .int (nI 20)] M (fun v N1 => gI v (fun r1 => vp_in ((nI 5) + (M.1 56 19)) 10 ∧ (Post none (wI (wI N1 62 (((nI 5) + (M.1 56 19)).toNatClampNeg) r1) 56 19 ((N1.1 56 19) + (nI 1))))))))) :
  PX G d m_X9_readsItem Post 0 [some (.ref 56), some (.int x1)] [] M := wp_ok [] ok_X9_readsItem tk_X9_readsItem 300 _ _ _ _ h
set_option maxRecDepth 100000 in
theorem g_X9_stonesOn_0 {G : GG} {d : Nat} {Post : Option Value → PM → Prop} {M : PM} {x1 : Int32} (h : PX G d m_X9_stonesOn Post 4 [some (.ref 56), some (.int x1), some (.int (nI 0)), some (.int (nI 0))] [] M) :
  PX G d m_X9_stonesOn Post 0 [some (.ref 56), some (.int x1), none, none] [] M := wp_ok [(4, [true, true, true, true])] ok_X9_stonesOn tk_X9_stonesOn 300 _ _ _ _ h
set_option maxRecDepth 100000 in
theorem g_X9_stonesOn_4 {G : GG} {d : Nat} {Post : Option Value → PM → Prop} {M : PM} {x1 : Int32} {x2 : Int32} {x3 : Int32} (h : br ((M.1 56 16) ≤ x3)
    (Post (some (.int x2)) M)
    (vp_in ((nI 24) + x3) 34 ∧ (br ((M.1 63 (((nI 24) + x3).toNatClampNeg)) = x1)
      (vp_in x3 10 ∧ (vp_in ((nI 29) + x3) 34 ∧ (PX G d m_X9_stonesOn Post 4 [some (.ref 56), some (.int x1), some (.int (x2 + ((M.1 62 x3.toNatClampNeg) * (M.1 63 (((nI 29) + x3).toNatClampNeg))))), some (.int (x3 + nI 1))] [] M)))
      (PX G d m_X9_stonesOn Post 4 [some (.ref 56), some (.int x1), some (.int (x2 + (nI 0))), some (.int (x3 + nI 1))] [] M)))) :
  PX G d m_X9_stonesOn Post 4 [some (.ref 56), some (.int x1), some (.int x2), some (.int x3)] [] M := wp_ok [(4, [true, true, true, true])] ok_X9_stonesOn tk_X9_stonesOn 300 _ _ _ _ h
set_option maxRecDepth 100000 in
theorem g_X9_tiltBy_0 {G : GG} {d : Nat} {Post : Option Value → PM → Prop} {M : PM} {x1 : Int32} {x2 : Int32} (h : PC G d m_X9_size [.int x2] M (fun v N1 => gI v (fun r1 => vp_in x1 6 ∧ (br ((N1.1 59 x1.toNatClampNeg) < r1)
    (br (0 ≤ x2)
      (Post (some (.int (nI 1))) N1)
      (Post (some (.int (-1))) N1))
    (Post (some (.int (nI 0))) N1))))) :
  PX G d m_X9_tiltBy Post 0 [some (.ref 56), some (.int x1), some (.int x2)] [] M := wp_ok [] ok_X9_tiltBy tk_X9_tiltBy 300 _ _ _ _ h
set_option maxRecDepth 100000 in
theorem g_X9_tiltOf_0 {G : GG} {d : Nat} {Post : Option Value → PM → Prop} {M : PM} {x1 : Int32} (h : PC G d m_X9_momentOf [.ref 56, .int x1] M (fun v N1 => gI v (fun r1 => PC G d m_X9_tiltBy [.ref 56, .int x1, .int r1] N1 (fun v N2 => gI v (fun r2 => Post (some (.int r2)) N2))))) :
  PX G d m_X9_tiltOf Post 0 [some (.ref 56), some (.int x1)] [] M := wp_ok [] ok_X9_tiltOf tk_X9_tiltOf 300 _ _ _ _ h
set_option maxRecDepth 100000 in
theorem g_X9_sittingOn_0 {G : GG} {d : Nat} {Post : Option Value → PM → Prop} {M : PM} {x1 : Int32} (h : PX G d m_X9_sittingOn Post 4 [some (.ref 56), some (.int x1), some (.int (nI 0)), some (.int (nI 0))] [] M) :
  PX G d m_X9_sittingOn Post 0 [some (.ref 56), some (.int x1), none, none] [] M := wp_ok [(4, [true, true, true, true])] ok_X9_sittingOn tk_X9_sittingOn 300 _ _ _ _ h
set_option maxRecDepth 100000 in
theorem g_X9_sittingOn_4 {G : GG} {d : Nat} {Post : Option Value → PM → Prop} {M : PM} {x1 : Int32} {x2 : Int32} {x3 : Int32} (h : br ((M.1 56 15) ≤ x3)
    (Post (some (.int x2)) M)
    (vp_in ((nI 0) + x3) 34 ∧ (br ((M.1 63 (((nI 0) + x3).toNatClampNeg)) = x1)
      (PX G d m_X9_sittingOn Post 4 [some (.ref 56), some (.int x1), some (.int (x2 + (nI 1))), some (.int (x3 + nI 1))] [] M)
      (PX G d m_X9_sittingOn Post 4 [some (.ref 56), some (.int x1), some (.int (x2 + (nI 0))), some (.int (x3 + nI 1))] [] M)))) :
  PX G d m_X9_sittingOn Post 4 [some (.ref 56), some (.int x1), some (.int x2), some (.int x3)] [] M := wp_ok [(4, [true, true, true, true])] ok_X9_sittingOn tk_X9_sittingOn 300 _ _ _ _ h
set_option maxRecDepth 100000 in
theorem g_X9_stone_0 {G : GG} {d : Nat} {Post : Option Value → PM → Prop} {M : PM} {x1 : Int32} {x2 : Int32} (h : PC G d m_X9_isStone [.ref 56, .int x1] (wI M 56 0 (nI 0)) (fun v N1 => gI v (fun r1 => br (r1 = 0)
    (Post (some (.int (-1000000))) N1)
    (PC G d m_X9_in [.int x2, .int (nI 0), .int (nI 2)] N1 (fun v N2 => gI v (fun r2 => br (r2 = 0)
      (Post (some (.int (-1000000))) N2)
      (br (x2 = 0)
        (vp_in x1 10 ∧ (Post (some (.int (N2.1 62 x1.toNatClampNeg))) N2))
        (br (x2 = (nI 1))
          (vp_in ((nI 24) + x1) 34 ∧ (Post (some (.int (N2.1 63 (((nI 24) + x1).toNatClampNeg)))) N2))
          (vp_in ((nI 29) + x1) 34 ∧ (Post (some (.int (N2.1 63 (((nI 29) + x1).toNatClampNeg)))) N2)))))))))) :
  PX G d m_X9_stone Post 0 [some (.ref 56), some (.int x1), some (.int x2)] [] M := wp_ok [] ok_X9_stone tk_X9_stone 300 _ _ _ _ h
set_option maxRecDepth 100000 in
theorem g_X9_sits_0 {G : GG} {d : Nat} {Post : Option Value → PM → Prop} {M : PM} {x1 : Int32} {x2 : Int32} {x3 : Int32} (h : PC G d m_X9_isChild [.ref 56, .int x1] (wI M 56 0 (nI 0)) (fun v N1 => gI v (fun r1 => br (r1 = 0)
    (Post (some (.int (-1))) N1)
    (PC G d m_X9_isPlank [.ref 56, .int x2] N1 (fun v N2 => gI v (fun r2 => br (r2 = 0)
      (Post (some (.int (-1))) N2)
      (br (x3 = 0)
        (Post (some (.int (-1))) N2)
        (vp_in x2 6 ∧ (vp_in x2 6 ∧ (PC G d m_X9_in [.int x3, .int (-(N2.1 58 x2.toNatClampNeg)), .int (N2.1 58 x2.toNatClampNeg)] N2 (fun v N3 => gI v (fun r3 => br (r3 = 0)
          (Post (some (.int (-1))) N3)
          (PX G d m_X9_sits Post 50 [some (.ref 56), some (.int x1), some (.int x2), some (.int x3), some (.int (nI 0))] [] N3))))))))))))) :
  PX G d m_X9_sits Post 0 [some (.ref 56), some (.int x1), some (.int x2), some (.int x3), none] [] M := wp_ok [(50, [true, true, true, true, true])] ok_X9_sits tk_X9_sits 300 _ _ _ _ h
set_option maxRecDepth 100000 in
theorem g_X9_sits_50 {G : GG} {d : Nat} {Post : Option Value → PM → Prop} {M : PM} {x1 : Int32} {x2 : Int32} {x3 : Int32} {x4 : Int32} (h : br ((M.1 56 15) ≤ x4)
    (PC G d m_X9_goes [.ref 56, .int ((nI 0) + x1), .int ((nI 8) + x1)] M (fun v N1 => gI v (fun r1 => PC G d m_X9_comes [.ref 56, .int ((nI 0) + x1), .int ((nI 8) + x1), .int x2, .int x3] N1 (fun v N2 => gI v (fun r2 => Post (some (.int (r1 + r2))) N2)))))
    (vp_in ((nI 0) + x4) 34 ∧ (br ((M.1 63 (((nI 0) + x4).toNatClampNeg)) = x2)
      (vp_in ((nI 8) + x4) 34 ∧ (br ((M.1 63 (((nI 8) + x4).toNatClampNeg)) = x3)
        (Post (some (.int (-2))) M)
        (PX G d m_X9_sits Post 50 [some (.ref 56), some (.int x1), some (.int x2), some (.int x3), some (.int (x4 + nI 1))] [] M)))
      (PX G d m_X9_sits Post 50 [some (.ref 56), some (.int x1), some (.int x2), some (.int x3), some (.int (x4 + nI 1))] [] M)))) :
  PX G d m_X9_sits Post 50 [some (.ref 56), some (.int x1), some (.int x2), some (.int x3), some (.int x4)] [] M := wp_ok [(50, [true, true, true, true, true])] ok_X9_sits tk_X9_sits 300 _ _ _ _ h
set_option maxRecDepth 100000 in
theorem g_X9_take_0 {G : GG} {d : Nat} {Post : Option Value → PM → Prop} {M : PM} {x1 : Int32} (h : PC G d m_X9_isStone [.ref 56, .int x1] (wI M 56 0 (nI 0)) (fun v N1 => gI v (fun r1 => br (r1 = 0)
    (Post (some (.int (-1))) N1)
    (vp_in ((nI 24) + x1) 34 ∧ (br ((N1.1 63 (((nI 24) + x1).toNatClampNeg)) = (-9 : Int32))
      (Post (some (.int (-2))) N1)
      (PC G d m_X9_goes [.ref 56, .int ((nI 24) + x1), .int ((nI 29) + x1)] N1 (fun v N2 => gI v (fun r2 => Post (some (.int r2)) N2)))))))) :
  PX G d m_X9_take Post 0 [some (.ref 56), some (.int x1)] [] M := wp_ok [] ok_X9_take tk_X9_take 300 _ _ _ _ h
set_option maxRecDepth 100000 in
theorem g_X9_stepOf_0 {G : GG} {d : Nat} {Post : Option Value → PM → Prop} {M : PM} {x1 : Int32} {x2 : Int32} (h : vp_in x1 6 ∧ (br ((M.1 58 x1.toNatClampNeg) ≤ x2)
    (vp_in x1 6 ∧ (Post (some (.int ((x2 - (M.1 58 x1.toNatClampNeg)) + (nI 1)))) M))
    (vp_in x1 6 ∧ (Post (some (.int (x2 - (M.1 58 x1.toNatClampNeg)))) M)))) :
  PX G d m_X9_stepOf Post 0 [some (.ref 56), some (.int x1), some (.int x2)] [] M := wp_ok [] ok_X9_stepOf tk_X9_stepOf 300 _ _ _ _ h
set_option maxRecDepth 100000 in
theorem g_X9_seats_0 {G : GG} {d : Nat} {Post : Option Value → PM → Prop} {M : PM} {x1 : Int32} (h : PX G d m_X9_seats Post 7 [some (.ref 56), some (.int x1), some (.int (nI 0))] [] (wI M 56 24 (nI 0))) :
  PX G d m_X9_seats Post 0 [some (.ref 56), some (.int x1), none] [] M := wp_ok [(7, [true, true, true])] ok_X9_seats tk_X9_seats 300 _ _ _ _ h
set_option maxRecDepth 100000 in
theorem g_X9_seats_7 {G : GG} {d : Nat} {Post : Option Value → PM → Prop} {M : PM} {x1 : Int32} {x2 : Int32} (h : br ((M.1 56 15) ≤ x2)
    (Post none M)
    (br (((x1 >>> (x2 &&& 31)) &&& (nI 1)) = (nI 1))
      (vp_in (M.1 56 24) 8 ∧ (PX G d m_X9_seats Post 7 [some (.ref 56), some (.int x1), some (.int (x2 + nI 1))] [] (wI (wI M 66 ((M.1 56 24).toNatClampNeg) x2) 56 24 ((M.1 56 24) + (nI 1)))))
      (PX G d m_X9_seats Post 7 [some (.ref 56), some (.int x1), some (.int (x2 + nI 1))] [] M))) :
  PX G d m_X9_seats Post 7 [some (.ref 56), some (.int x1), some (.int x2)] [] M := wp_ok [(7, [true, true, true])] ok_X9_seats tk_X9_seats 300 _ _ _ _ h
set_option maxRecDepth 100000 in
theorem g_X9_waysOf_0 {G : GG} {d : Nat} {Post : Option Value → PM → Prop} {M : PM} {x1 : Int32} {x2 : Int32} {x3 : Int32} (h : PC G d m_X9_seats [.ref 56, .int x2] M (fun v N1 => gN v (PC G d m_X9_stonesOn [.ref 56, .int x1] N1 (fun v N2 => gI v (fun r2 => br ((N2.1 56 24) = 0)
    (PC G d m_X9_tiltBy [.ref 56, .int x1, .int r2] N2 (fun v N3 => gI v (fun r3 => br (r3 = 0)
      (Post (some (.int (nI 1))) N3)
      (Post (some (.int (nI 0))) N3))))
    (vp_in (nI 0) 8 ∧ (PX G d m_X9_waysOf Post 48 [some (.ref 56), some (.int x1), none, some (.int x3), some (.int r2), some (.int (nI 0)), some (.int (nI 0)), none, none] [] (wI N2 67 ((nI 0).toNatClampNeg) (-1))))))))) :
  PX G d m_X9_waysOf Post 0 [some (.ref 56), some (.int x1), some (.int x2), some (.int x3), none, none, none, none, none] [] M := wp_ok [(48, [true, true, false, true, true, true, true, false, false]), (129, [true, true, false, true, true, true, true, true, true]), (187, [true, true, false, true, true, true, true, false, true])] ok_X9_waysOf tk_X9_waysOf 300 _ _ _ _ h
set_option maxRecDepth 100000 in
theorem g_X9_waysOf_48 {G : GG} {d : Nat} {Post : Option Value → PM → Prop} {M : PM} {x1 : Int32} {x3 : Int32} {x4 : Int32} {x5 : Int32} {x6 : Int32} (h : br (x6 < 0)
    (Post (some (.int x5)) M)
    (br (x3 ≤ x5)
      (Post (some (.int x5)) M)
      (PC G d m_X9_freeSeat [.ref 56, .int x1, .int x6] M (fun v N1 => gI v (fun r1 => vp_in x6 8 ∧ (vp_in x6 8 ∧ (vp_in x1 6 ∧ (br (((wI N1 67 x6.toNatClampNeg r1).1 67 x6.toNatClampNeg) < ((nI 2) * (N1.1 58 x1.toNatClampNeg)))
        (br (((N1.1 56 24) - (nI 1)) ≤ x6)
          (PX G d m_X9_waysOf Post 129 [some (.ref 56), some (.int x1), none, some (.int x3), some (.int x4), some (.int x5), some (.int x6), some (.int x4), some (.int (nI 0))] [] (wI N1 67 x6.toNatClampNeg r1))
          (vp_in (x6 + nI 1) 8 ∧ (PX G d m_X9_waysOf Post 48 [some (.ref 56), some (.int x1), none, some (.int x3), some (.int x4), some (.int x5), some (.int (x6 + nI 1)), none, none] [] (wI (wI N1 67 x6.toNatClampNeg r1) 67 ((x6 + nI 1).toNatClampNeg) (-1)))))
        (PX G d m_X9_waysOf Post 48 [some (.ref 56), some (.int x1), none, some (.int x3), some (.int x4), some (.int x5), some (.int (x6 + (-1))), none, none] [] (wI N1 67 x6.toNatClampNeg r1)))))))))) :
  PX G d m_X9_waysOf Post 48 [some (.ref 56), some (.int x1), none, some (.int x3), some (.int x4), some (.int x5), some (.int x6), none, none] [] M := wp_ok [(48, [true, true, false, true, true, true, true, false, false]), (129, [true, true, false, true, true, true, true, true, true]), (187, [true, true, false, true, true, true, true, false, true])] ok_X9_waysOf tk_X9_waysOf 300 _ _ _ _ h
set_option maxRecDepth 100000 in
theorem g_X9_waysOf_129 {G : GG} {d : Nat} {Post : Option Value → PM → Prop} {M : PM} {x1 : Int32} {x3 : Int32} {x4 : Int32} {x5 : Int32} {x6 : Int32} {x7 : Int32} {x8 : Int32} (h : br ((M.1 56 24) ≤ x8)
    (PC G d m_X9_tiltBy [.ref 56, .int x1, .int x7] M (fun v N1 => gI v (fun r1 => br (r1 = 0)
      (PX G d m_X9_waysOf Post 187 [some (.ref 56), some (.int x1), none, some (.int x3), some (.int x4), some (.int x5), some (.int x6), none, some (.int (nI 0))] [] N1)
      (PX G d m_X9_waysOf Post 48 [some (.ref 56), some (.int x1), none, some (.int x3), some (.int x4), some (.int x5), some (.int x6), none, none] [] N1))))
    (vp_in x8 8 ∧ (vp_in (M.1 66 x8.toNatClampNeg) 16 ∧ (vp_in x8 8 ∧ (PC G d m_X9_stepOf [.ref 56, .int x1, .int (M.1 67 x8.toNatClampNeg)] M (fun v N2 => gI v (fun r2 => PX G d m_X9_waysOf Post 129 [some (.ref 56), some (.int x1), none, some (.int x3), some (.int x4), some (.int x5), some (.int x6), some (.int (x7 + ((M.1 60 ((M.1 66 x8.toNatClampNeg).toNatClampNeg)) * r2))), some (.int (x8 + nI 1))] [] N2))))))) :
  PX G d m_X9_waysOf Post 129 [some (.ref 56), some (.int x1), none, some (.int x3), some (.int x4), some (.int x5), some (.int x6), some (.int x7), some (.int x8)] [] M := wp_ok [(48, [true, true, false, true, true, true, true, false, false]), (129, [true, true, false, true, true, true, true, true, true]), (187, [true, true, false, true, true, true, true, false, true])] ok_X9_waysOf tk_X9_waysOf 300 _ _ _ _ h
set_option maxRecDepth 100000 in
theorem g_X9_waysOf_187 {G : GG} {d : Nat} {Post : Option Value → PM → Prop} {M : PM} {x1 : Int32} {x3 : Int32} {x4 : Int32} {x5 : Int32} {x6 : Int32} {x8 : Int32} (h : br ((M.1 56 24) ≤ x8)
    (PX G d m_X9_waysOf Post 48 [some (.ref 56), some (.int x1), none, some (.int x3), some (.int x4), some (.int (x5 + nI 1)), some (.int x6), none, none] [] M)
    (br (x5 = 0)
      (vp_in x8 8 ∧ (PC G d m_X9_stepOf [.ref 56, .int x1, .int (M.1 67 x8.toNatClampNeg)] M (fun v N1 => gI v (fun r1 => vp_in x8 8 ∧ (PX G d m_X9_waysOf Post 187 [some (.ref 56), some (.int x1), none, some (.int x3), some (.int x4), some (.int x5), some (.int x6), none, some (.int (x8 + nI 1))] [] (wI N1 68 x8.toNatClampNeg r1))))))
      (PX G d m_X9_waysOf Post 48 [some (.ref 56), some (.int x1), none, some (.int x3), some (.int x4), some (.int (x5 + nI 1)), some (.int x6), none, none] [] M))) :
  PX G d m_X9_waysOf Post 187 [some (.ref 56), some (.int x1), none, some (.int x3), some (.int x4), some (.int x5), some (.int x6), none, some (.int x8)] [] M := wp_ok [(48, [true, true, false, true, true, true, true, false, false]), (129, [true, true, false, true, true, true, true, true, true]), (187, [true, true, false, true, true, true, true, false, true])] ok_X9_waysOf tk_X9_waysOf 300 _ _ _ _ h
set_option maxRecDepth 100000 in
theorem g_X9_ways_0 {G : GG} {d : Nat} {Post : Option Value → PM → Prop} {M : PM} {x1 : Int32} {x2 : Int32} {x3 : Int32} (h : PC G d m_X9_isPlank [.ref 56, .int x1] (wI M 56 0 (nI 0)) (fun v N1 => gI v (fun r1 => br (r1 = 0)
    (Post (some (.int (-1000000))) N1)
    (br (x3 = (-1 : Int32))
      (PC G d m_X9_all [.ref 56] N1 (fun v N2 => gI v (fun r2 => br (x3 = (-1 : Int32))
        (PC G d m_X9_waysOf [.ref 56, .int x1, .int (x2 &&& r2), .int (nI 1000000)] N2 (fun v N4 => gI v (fun r4 => br (x3 = (-1 : Int32))
          (Post (some (.int r4)) N4)
          (PX G d m_X9_ways Post 67 [some (.ref 56), none, none, some (.int x3), some (.int r4), some (.int (nI 0)), some (.int (nI 0))] [] N4))))
        (PC G d m_X9_waysOf [.ref 56, .int x1, .int (x2 &&& r2), .int (nI 1)] N2 (fun v N3 => gI v (fun r3 => br (x3 = (-1 : Int32))
          (Post (some (.int r3)) N3)
          (PX G d m_X9_ways Post 67 [some (.ref 56), none, none, some (.int x3), some (.int r3), some (.int (nI 0)), some (.int (nI 0))] [] N3)))))))
      (PC G d m_X9_isChild [.ref 56, .int x3] N1 (fun v N5 => gI v (fun r5 => br (r5 = 0)
        (Post (some (.int (-1000000))) N5)
        (PC G d m_X9_all [.ref 56] N5 (fun v N6 => gI v (fun r6 => br (x3 = (-1 : Int32))
          (PC G d m_X9_waysOf [.ref 56, .int x1, .int (x2 &&& r6), .int (nI 1000000)] N6 (fun v N8 => gI v (fun r8 => br (x3 = (-1 : Int32))
            (Post (some (.int r8)) N8)
            (PX G d m_X9_ways Post 67 [some (.ref 56), none, none, some (.int x3), some (.int r8), some (.int (nI 0)), some (.int (nI 0))] [] N8))))
          (PC G d m_X9_waysOf [.ref 56, .int x1, .int (x2 &&& r6), .int (nI 1)] N6 (fun v N7 => gI v (fun r7 => br (x3 = (-1 : Int32))
            (Post (some (.int r7)) N7)
            (PX G d m_X9_ways Post 67 [some (.ref 56), none, none, some (.int x3), some (.int r7), some (.int (nI 0)), some (.int (nI 0))] [] N7)))))))))))))) :
  PX G d m_X9_ways Post 0 [some (.ref 56), some (.int x1), some (.int x2), some (.int x3), none, none, none] [] M := wp_ok [(67, [true, false, false, true, true, true, true])] ok_X9_ways tk_X9_ways 300 _ _ _ _ h
set_option maxRecDepth 100000 in
theorem g_X9_ways_67 {G : GG} {d : Nat} {Post : Option Value → PM → Prop} {M : PM} {x3 : Int32} {x4 : Int32} {x5 : Int32} {x6 : Int32} (h : br ((M.1 56 24) ≤ x6)
    (br (x4 = 0)
      (Post (some (.int (-9))) M)
      (Post (some (.int x5)) M))
    (br (x4 ≤ 0)
      (br (x4 = 0)
        (Post (some (.int (-9))) M)
        (Post (some (.int x5)) M))
      (vp_in x6 8 ∧ (br ((M.1 66 x6.toNatClampNeg) = x3)
        (vp_in x6 8 ∧ (PX G d m_X9_ways Post 67 [some (.ref 56), none, none, some (.int x3), some (.int x4), some (.int (M.1 68 x6.toNatClampNeg)), some (.int (x6 + nI 1))] [] M))
        (PX G d m_X9_ways Post 67 [some (.ref 56), none, none, some (.int x3), some (.int x4), some (.int x5), some (.int (x6 + nI 1))] [] M))))) :
  PX G d m_X9_ways Post 67 [some (.ref 56), none, none, some (.int x3), some (.int x4), some (.int x5), some (.int x6)] [] M := wp_ok [(67, [true, false, false, true, true, true, true])] ok_X9_ways tk_X9_ways 300 _ _ _ _ h
set_option maxRecDepth 100000 in
theorem g_X9_twoMoves_0 {G : GG} {d : Nat} {Post : Option Value → PM → Prop} {M : PM} {x1 : Int32} {x2 : Int32} {x3 : Int32} {x4 : Int32} (h : PX G d m_X9_twoMoves Post 3 [some (.ref 56), some (.int x1), some (.int x2), some (.int x3), some (.int x4), some (.int (nI 0)), none] [] M) :
  PX G d m_X9_twoMoves Post 0 [some (.ref 56), some (.int x1), some (.int x2), some (.int x3), some (.int x4), none, none] [] M := wp_ok [(3, [true, true, true, true, true, true, false]), (15, [true, true, true, true, true, true, true])] ok_X9_twoMoves tk_X9_twoMoves 300 _ _ _ _ h
set_option maxRecDepth 100000 in
theorem g_X9_twoMoves_3 {G : GG} {d : Nat} {Post : Option Value → PM → Prop} {M : PM} {x1 : Int32} {x2 : Int32} {x3 : Int32} {x4 : Int32} {x5 : Int32} (h : br ((M.1 56 15) ≤ x5)
    (Post (some (.int (-9))) M)
    (PX G d m_X9_twoMoves Post 15 [some (.ref 56), some (.int x1), some (.int x2), some (.int x3), some (.int x4), some (.int x5), some (.int (nI 0))] [] M)) :
  PX G d m_X9_twoMoves Post 3 [some (.ref 56), some (.int x1), some (.int x2), some (.int x3), some (.int x4), some (.int x5), none] [] M := wp_ok [(3, [true, true, true, true, true, true, false]), (15, [true, true, true, true, true, true, true])] ok_X9_twoMoves tk_X9_twoMoves 300 _ _ _ _ h
set_option maxRecDepth 100000 in
theorem g_X9_twoMoves_15 {G : GG} {d : Nat} {Post : Option Value → PM → Prop} {M : PM} {x1 : Int32} {x2 : Int32} {x3 : Int32} {x4 : Int32} {x5 : Int32} {x6 : Int32} (h : vp_in x1 6 ∧ (br (((nI 2) * (M.1 58 x1.toNatClampNeg)) ≤ x6)
    (PX G d m_X9_twoMoves Post 3 [some (.ref 56), some (.int x1), some (.int x2), some (.int x3), some (.int x4), some (.int (x5 + nI 1)), none] [] M)
    (PC G d m_X9_mayPut [.ref 56, .int x1, .int x2, .int x3, .int x4, .int x5, .int x6] M (fun v N1 => gI v (fun r1 => br (r1 = 0)
      (PX G d m_X9_twoMoves Post 15 [some (.ref 56), some (.int x1), some (.int x2), some (.int x3), some (.int x4), some (.int x5), some (.int (x6 + nI 1))] [] N1)
      (vp_in x5 16 ∧ (PC G d m_X9_stepOf [.ref 56, .int x1, .int x6] N1 (fun v N2 => gI v (fun r2 => PC G d m_X9_lastMove [.ref 56, .int x1, .int (x2 ||| ((nI 1) <<< (x5 &&& 31))), .int (x3 ||| ((nI 1) <<< (x6 &&& 31))), .int (x4 + ((N1.1 60 x5.toNatClampNeg) * r2))] N2 (fun v N3 => gI v (fun r3 => br (r3 = (-9 : Int32))
        (Post (some (.int (((nI 8) * x5) + x6))) N3)
        (PX G d m_X9_twoMoves Post 15 [some (.ref 56), some (.int x1), some (.int x2), some (.int x3), some (.int x4), some (.int x5), some (.int (x6 + nI 1))] [] N3)))))))))))) :
  PX G d m_X9_twoMoves Post 15 [some (.ref 56), some (.int x1), some (.int x2), some (.int x3), some (.int x4), some (.int x5), some (.int x6)] [] M := wp_ok [(3, [true, true, true, true, true, true, false]), (15, [true, true, true, true, true, true, true])] ok_X9_twoMoves tk_X9_twoMoves 300 _ _ _ _ h
set_option maxRecDepth 100000 in
theorem g_X9_threeMoves_0 {G : GG} {d : Nat} {Post : Option Value → PM → Prop} {M : PM} {x1 : Int32} {x2 : Int32} {x3 : Int32} {x4 : Int32} (h : PX G d m_X9_threeMoves Post 3 [some (.ref 56), some (.int x1), some (.int x2), some (.int x3), some (.int x4), some (.int (nI 0)), none] [] M) :
  PX G d m_X9_threeMoves Post 0 [some (.ref 56), some (.int x1), some (.int x2), some (.int x3), some (.int x4), none, none] [] M := wp_ok [(3, [true, true, true, true, true, true, false]), (15, [true, true, true, true, true, true, true])] ok_X9_threeMoves tk_X9_threeMoves 300 _ _ _ _ h
set_option maxRecDepth 100000 in
theorem g_X9_threeMoves_3 {G : GG} {d : Nat} {Post : Option Value → PM → Prop} {M : PM} {x1 : Int32} {x2 : Int32} {x3 : Int32} {x4 : Int32} {x5 : Int32} (h : br ((M.1 56 15) ≤ x5)
    (Post (some (.int (-9))) M)
    (PX G d m_X9_threeMoves Post 15 [some (.ref 56), some (.int x1), some (.int x2), some (.int x3), some (.int x4), some (.int x5), some (.int (nI 0))] [] M)) :
  PX G d m_X9_threeMoves Post 3 [some (.ref 56), some (.int x1), some (.int x2), some (.int x3), some (.int x4), some (.int x5), none] [] M := wp_ok [(3, [true, true, true, true, true, true, false]), (15, [true, true, true, true, true, true, true])] ok_X9_threeMoves tk_X9_threeMoves 300 _ _ _ _ h
set_option maxRecDepth 100000 in
theorem g_X9_threeMoves_15 {G : GG} {d : Nat} {Post : Option Value → PM → Prop} {M : PM} {x1 : Int32} {x2 : Int32} {x3 : Int32} {x4 : Int32} {x5 : Int32} {x6 : Int32} (h : vp_in x1 6 ∧ (br (((nI 2) * (M.1 58 x1.toNatClampNeg)) ≤ x6)
    (PX G d m_X9_threeMoves Post 3 [some (.ref 56), some (.int x1), some (.int x2), some (.int x3), some (.int x4), some (.int (x5 + nI 1)), none] [] M)
    (PC G d m_X9_mayPut [.ref 56, .int x1, .int x2, .int x3, .int x4, .int x5, .int x6] M (fun v N1 => gI v (fun r1 => br (r1 = 0)
      (PX G d m_X9_threeMoves Post 15 [some (.ref 56), some (.int x1), some (.int x2), some (.int x3), some (.int x4), some (.int x5), some (.int (x6 + nI 1))] [] N1)
      (vp_in x5 16 ∧ (PC G d m_X9_stepOf [.ref 56, .int x1, .int x6] N1 (fun v N2 => gI v (fun r2 => PC G d m_X9_twoMoves [.ref 56, .int x1, .int (x2 ||| ((nI 1) <<< (x5 &&& 31))), .int (x3 ||| ((nI 1) <<< (x6 &&& 31))), .int (x4 + ((N1.1 60 x5.toNatClampNeg) * r2))] N2 (fun v N3 => gI v (fun r3 => br (r3 = (-9 : Int32))
        (Post (some (.int (((nI 8) * x5) + x6))) N3)
        (PX G d m_X9_threeMoves Post 15 [some (.ref 56), some (.int x1), some (.int x2), some (.int x3), some (.int x4), some (.int x5), some (.int (x6 + nI 1))] [] N3)))))))))))) :
  PX G d m_X9_threeMoves Post 15 [some (.ref 56), some (.int x1), some (.int x2), some (.int x3), some (.int x4), some (.int x5), some (.int x6)] [] M := wp_ok [(3, [true, true, true, true, true, true, false]), (15, [true, true, true, true, true, true, true])] ok_X9_threeMoves tk_X9_threeMoves 300 _ _ _ _ h
set_option maxRecDepth 100000 in
theorem g_X9_strangers_0 {G : GG} {d : Nat} {Post : Option Value → PM → Prop} {M : PM} {x1 : Int32} (h : PC G d m_X9_in [.int x1, .int (nI 2), .int (nI 5)] (wI M 56 0 (nI 0)) (fun v N1 => gI v (fun r1 => br (r1 = 0)
    (Post (some (.int (-1))) N1)
    (Post (some (.int (N1.1 56 27))) (wI (wI N1 56 27 x1) 56 29 (nI 0)))))) :
  PX G d m_X9_strangers Post 0 [some (.ref 56), some (.int x1), none] [] M := wp_ok [] ok_X9_strangers tk_X9_strangers 300 _ _ _ _ h
set_option maxRecDepth 100000 in
theorem g_X9_trial_0 {G : GG} {d : Nat} {Post : Option Value → PM → Prop} {M : PM} {x1 : Int32} {x2 : Int32} {x3 : Int32} (h : PC G d m_X9_isStranger [.ref 56, .int x1] (wI M 56 0 (nI 0)) (fun v N1 => gI v (fun r1 => br (r1 = 0)
    (Post (some (.int (-1))) N1)
    (PC G d m_X9_isStranger [.ref 56, .int x2] N1 (fun v N2 => gI v (fun r2 => br (r2 = 0)
      (Post (some (.int (-1))) N2)
      (br (x1 = x2)
        (Post (some (.int (-1))) N2)
        (PC G d m_X9_in [.int x3, .int (-1), .int (nI 1)] N2 (fun v N3 => gI v (fun r3 => br (r3 = 0)
          (Post (some (.int (-1))) N3)
          (br ((N3.1 56 29) = (nI 12))
            (Post (some (.int (-3))) N3)
            (vp_in ((nI 3) * (N3.1 56 29)) 36 ∧ (vp_in (((nI 3) * (N3.1 56 29)) + (nI 1)) 36 ∧ (vp_in (((nI 3) * (N3.1 56 29)) + (nI 2)) 36 ∧ (Post (some (.int ((N3.1 56 29) + (nI 1)))) (wI (wI (wI (wI N3 69 (((nI 3) * (N3.1 56 29)).toNatClampNeg) x1) 69 ((((nI 3) * (N3.1 56 29)) + (nI 1)).toNatClampNeg) x2) 69 ((((nI 3) * (N3.1 56 29)) + (nI 2)).toNatClampNeg) x3) 56 29 ((N3.1 56 29) + (nI 1)))))))))))))))))) :
  PX G d m_X9_trial Post 0 [some (.ref 56), some (.int x1), some (.int x2), some (.int x3)] [] M := wp_ok [] ok_X9_trial tk_X9_trial 300 _ _ _ _ h
set_option maxRecDepth 100000 in
theorem g_X9_weightIn_0 {G : GG} {d : Nat} {Post : Option Value → PM → Prop} {M : PM} {x0 : Int32} {x1 : Int32} (h : PX G d m_X9_weightIn Post 4 [none, some (.int x1), some (.int x0), some (.int (nI 0))] [] M) :
  PX G d m_X9_weightIn Post 0 [some (.int x0), some (.int x1), none, none] [] M := wp_ok [(4, [false, true, true, true])] ok_X9_weightIn tk_X9_weightIn 300 _ _ _ _ h
set_option maxRecDepth 100000 in
theorem g_X9_weightIn_4 {G : GG} {d : Nat} {Post : Option Value → PM → Prop} {M : PM} {x1 : Int32} {x2 : Int32} {x3 : Int32} (h : br (x1 ≤ x3)
    (¬ (nI 6) = 0 ∧ (Post (some (.int ((nI 1) + (x2 - x2 / (nI 6) * (nI 6))))) M))
    (¬ (nI 6) = 0 ∧ (PX G d m_X9_weightIn Post 4 [none, some (.int x1), some (.int (x2 / (nI 6))), some (.int (x3 + nI 1))] [] M))) :
  PX G d m_X9_weightIn Post 4 [none, some (.int x1), some (.int x2), some (.int x3)] [] M := wp_ok [(4, [false, true, true, true])] ok_X9_weightIn tk_X9_weightIn 300 _ _ _ _ h
set_option maxRecDepth 100000 in
theorem g_X9_weighs_0 {G : GG} {d : Nat} {Post : Option Value → PM → Prop} {M : PM} {x0 : Int32} {x1 : Int32} {x2 : Int32} (h : PC G d m_X9_weightIn [.int x0, .int x2] M (fun v N1 => gI v (fun r1 => PC G d m_X9_weightIn [.int x0, .int x1] N1 (fun v N2 => gI v (fun r2 => br ((r1 - r2) ≤ 0)
    (br (0 ≤ (r1 - r2))
      (Post (some (.int (nI 0))) N2)
      (Post (some (.int (-1))) N2))
    (Post (some (.int (nI 1))) N2)))))) :
  PX G d m_X9_weighs Post 0 [some (.int x0), some (.int x1), some (.int x2), none] [] M := wp_ok [] ok_X9_weighs tk_X9_weighs 300 _ _ _ _ h
set_option maxRecDepth 100000 in
theorem g_X9_sure_0 {G : GG} {d : Nat} {Post : Option Value → PM → Prop} {M : PM} {x1 : Int32} (h : PC G d m_X9_isStranger [.ref 56, .int x1] (wI M 56 0 (nI 0)) (fun v N1 => gI v (fun r1 => br (r1 = 0)
    (Post (some (.int (-1))) N1)
    (PX G d m_X9_sure Post 23 [some (.ref 56), some (.int x1), some (.int (nI 0)), some (.int (-9)), some (.int (nI 1))] [] N1)))) :
  PX G d m_X9_sure Post 0 [some (.ref 56), some (.int x1), none, none, none] [] M := wp_ok [(23, [true, true, true, true, true])] ok_X9_sure tk_X9_sure 300 _ _ _ _ h
set_option maxRecDepth 100000 in
theorem g_X9_sure_23 {G : GG} {d : Nat} {Post : Option Value → PM → Prop} {M : PM} {x1 : Int32} {x2 : Int32} {x3 : Int32} {x4 : Int32} (h : br ((nI 7) ≤ x4)
    (br (x2 = (nI 1))
      (Post (some (.int x3)) M)
      (Post (some (.int (-9))) M))
    (PC G d m_X9_couldBe [.ref 56, .int x1, .int x4] M (fun v N1 => gI v (fun r1 => br (r1 ≤ 0)
      (PX G d m_X9_sure Post 23 [some (.ref 56), some (.int x1), some (.int x2), some (.int x3), some (.int (x4 + nI 1))] [] N1)
      (PX G d m_X9_sure Post 23 [some (.ref 56), some (.int x1), some (.int (x2 + nI 1)), some (.int x4), some (.int (x4 + nI 1))] [] N1))))) :
  PX G d m_X9_sure Post 23 [some (.ref 56), some (.int x1), some (.int x2), some (.int x3), some (.int x4)] [] M := wp_ok [(23, [true, true, true, true, true])] ok_X9_sure tk_X9_sure 300 _ _ _ _ h
set_option maxRecDepth 100000 in
theorem g_X9_waits_0 {G : GG} {d : Nat} {Post : Option Value → PM → Prop} {M : PM} {x1 : Int32} (h : vp_in x1 8 ∧ (vp_in x1 16 ∧ (br ((M.1 61 x1.toNatClampNeg) ≤ (M.1 70 x1.toNatClampNeg))
    (Post none M)
    (vp_in (M.1 56 32) 8 ∧ (Post none (wI (wI M 71 ((M.1 56 32).toNatClampNeg) x1) 56 32 ((M.1 56 32) + (nI 1)))))))) :
  PX G d m_X9_waits Post 0 [some (.ref 56), some (.int x1)] [] M := wp_ok [] ok_X9_waits tk_X9_waits 300 _ _ _ _ h
set_option maxRecDepth 100000 in
theorem g_X9_takesOn_0 {G : GG} {d : Nat} {Post : Option Value → PM → Prop} {M : PM} {x1 : Int32} {x2 : Int32} (h : PX G d m_X9_takesOn Post 2 [some (.ref 56), some (.int x1), some (.int x2), some (.int (nI 0)), none] [] M) :
  PX G d m_X9_takesOn Post 0 [some (.ref 56), some (.int x1), some (.int x2), none, none] [] M := wp_ok [(2, [true, true, true, true, false]), (15, [true, true, true, true, true]), (70, [true, true, true, true, true])] ok_X9_takesOn tk_X9_takesOn 300 _ _ _ _ h
set_option maxRecDepth 100000 in
theorem g_X9_takesOn_2 {G : GG} {d : Nat} {Post : Option Value → PM → Prop} {M : PM} {x1 : Int32} {x2 : Int32} {x3 : Int32} (h : br ((M.1 56 32) ≤ x3)
    (Post none M)
    (PX G d m_X9_takesOn Post 15 [some (.ref 56), some (.int x1), some (.int x2), some (.int x3), some (.int (x3 + (nI 1)))] [] M)) :
  PX G d m_X9_takesOn Post 2 [some (.ref 56), some (.int x1), some (.int x2), some (.int x3), none] [] M := wp_ok [(2, [true, true, true, true, false]), (15, [true, true, true, true, true]), (70, [true, true, true, true, true])] ok_X9_takesOn tk_X9_takesOn 300 _ _ _ _ h
set_option maxRecDepth 100000 in
theorem g_X9_takesOn_15 {G : GG} {d : Nat} {Post : Option Value → PM → Prop} {M : PM} {x1 : Int32} {x2 : Int32} {x3 : Int32} {x4 : Int32} (h : br ((M.1 56 32) ≤ x4)
    (PX G d m_X9_takesOn Post 2 [some (.ref 56), some (.int x1), some (.int x2), some (.int (x3 + nI 1)), none] [] M)
    (vp_in x3 8 ∧ (vp_in x4 8 ∧ (PC G d m_X9_areAPair [.ref 56, .int x1, .int (M.1 71 x3.toNatClampNeg), .int (M.1 71 x4.toNatClampNeg)] M (fun v N1 => gI v (fun r1 => br (r1 = 0)
      (PX G d m_X9_takesOn Post 15 [some (.ref 56), some (.int x1), some (.int x2), some (.int x3), some (.int (x4 + nI 1))] [] N1)
      (vp_in x3 8 ∧ (vp_in x1 3 ∧ (vp_in x4 8 ∧ (vp_in x1 3 ∧ (PX G d m_X9_takesOn Post 70 [some (.ref 56), some (.int x1), some (.int x2), some (.int x3), some (.int x4)] [] (wI (wI N1 72 x1.toNatClampNeg (N1.1 71 x3.toNatClampNeg)) 73 x1.toNatClampNeg (N1.1 71 x4.toNatClampNeg))))))))))))) :
  PX G d m_X9_takesOn Post 15 [some (.ref 56), some (.int x1), some (.int x2), some (.int x3), some (.int x4)] [] M := wp_ok [(2, [true, true, true, true, false]), (15, [true, true, true, true, true]), (70, [true, true, true, true, true])] ok_X9_takesOn tk_X9_takesOn 300 _ _ _ _ h
set_option maxRecDepth 100000 in
theorem g_X9_takesOn_70 {G : GG} {d : Nat} {Post : Option Value → PM → Prop} {M : PM} {x1 : Int32} {x2 : Int32} {x3 : Int32} {x4 : Int32} (h : vp_in x1 3 ∧ (vp_in (M.1 72 x1.toNatClampNeg) 16 ∧ (vp_in x1 3 ∧ (vp_in (M.1 72 x1.toNatClampNeg) 8 ∧ (vp_in x1 3 ∧ (vp_in (M.1 73 x1.toNatClampNeg) 16 ∧ (vp_in x1 3 ∧ (vp_in (M.1 73 x1.toNatClampNeg) 8 ∧ (PC G d m_X9_lesser [.int ((M.1 61 ((M.1 72 x1.toNatClampNeg).toNatClampNeg)) - (M.1 70 ((M.1 72 x1.toNatClampNeg).toNatClampNeg))), .int ((M.1 61 ((M.1 73 x1.toNatClampNeg).toNatClampNeg)) - (M.1 70 ((M.1 73 x1.toNatClampNeg).toNatClampNeg)))] M (fun v N1 => gI v (fun r1 => vp_in x1 3 ∧ (PC G d m_X9_outOfRow [.ref 56, .int x4] (wI N1 74 x1.toNatClampNeg (x2 + r1)) (fun v N2 => gN v (PC G d m_X9_outOfRow [.ref 56, .int x3] N2 (fun v N3 => gN v (Post none N3)))))))))))))))) :
  PX G d m_X9_takesOn Post 70 [some (.ref 56), some (.int x1), some (.int x2), some (.int x3), some (.int x4)] [] M := wp_ok [(2, [true, true, true, true, false]), (15, [true, true, true, true, true]), (70, [true, true, true, true, true])] ok_X9_takesOn tk_X9_takesOn 300 _ _ _ _ h
set_option maxRecDepth 100000 in
theorem g_X9_rides_0 {G : GG} {d : Nat} {Post : Option Value → PM → Prop} {M : PM} {x1 : Int32} {x2 : Int32} (h : PC G d m_X9_in [.int x1, .int (nI 0), .int (nI 99)] (wI M 56 0 (nI 0)) (fun v N1 => gI v (fun r1 => br (r1 = 0)
    (Post (some (.int (-1))) N1)
    (br (x2 = (-1 : Int32))
      (PC G d m_X9_goesBy [.ref 56, .int x1] N1 (fun v N2 => gN v (br (x2 = (-1 : Int32))
        (Post (some (.int (N2.1 56 32))) N2)
        (vp_in x2 8 ∧ (Post (some (.int (N2.1 70 x2.toNatClampNeg))) N2)))))
      (PC G d m_X9_isChild [.ref 56, .int x2] N1 (fun v N3 => gI v (fun r3 => br (r3 = 0)
        (Post (some (.int (-1))) N3)
        (PC G d m_X9_goesBy [.ref 56, .int x1] N3 (fun v N4 => gN v (br (x2 = (-1 : Int32))
          (Post (some (.int (N4.1 56 32))) N4)
          (vp_in x2 8 ∧ (Post (some (.int (N4.1 70 x2.toNatClampNeg))) N4)))))))))))) :
  PX G d m_X9_rides Post 0 [some (.ref 56), some (.int x1), some (.int x2)] [] M := wp_ok [] ok_X9_rides tk_X9_rides 300 _ _ _ _ h
set_option maxRecDepth 100000 in
theorem g_X9_rate_0 {G : GG} {d : Nat} {Post : Option Value → PM → Prop} {M : PM} {x1 : Int32} {x2 : Int32} (h : PC G d m_X9_in [.int x1, .int (nI 0), .int (nI 5)] (wI M 56 0 (nI 0)) (fun v N1 => gI v (fun r1 => br (r1 = 0)
    (Post (some (.int (-1000000))) N1)
    (PC G d m_X9_isChild [.ref 56, .int x2] N1 (fun v N2 => gI v (fun r2 => br (r2 = 0)
      (Post (some (.int (-1000000))) N2)
      (vp_in x2 16 ∧ (vp_in ((nI 16) + x2) 34 ∧ (vp_in x2 16 ∧ (vp_in ((nI 8) + x2) 34 ∧ (br (x1 = 0)
        (PX G d m_X9_rate Post 120 [some (.ref 56), some (.int x1), some (.int x2), some (.int ((N2.1 60 x2.toNatClampNeg) + (N2.1 63 (((nI 16) + x2).toNatClampNeg)))), some (.int ((N2.1 60 x2.toNatClampNeg) - (N2.1 63 (((nI 8) + x2).toNatClampNeg))))] [.long 1, .long (N2.2 56 1), .ref 56] N2)
        (br (x1 = (nI 1))
          (PX G d m_X9_rate Post 120 [some (.ref 56), some (.int x1), some (.int x2), some (.int ((N2.1 60 x2.toNatClampNeg) + (N2.1 63 (((nI 16) + x2).toNatClampNeg)))), some (.int ((N2.1 60 x2.toNatClampNeg) - (N2.1 63 (((nI 8) + x2).toNatClampNeg))))] [.long 11, .long (N2.2 56 1), .ref 56] N2)
          (br (x1 = (nI 2))
            (PX G d m_X9_rate Post 120 [some (.ref 56), some (.int x1), some (.int x2), some (.int ((N2.1 60 x2.toNatClampNeg) + (N2.1 63 (((nI 16) + x2).toNatClampNeg)))), some (.int ((N2.1 60 x2.toNatClampNeg) - (N2.1 63 (((nI 8) + x2).toNatClampNeg))))] [.long 101, .long (N2.2 56 1), .ref 56] N2)
            (br (x1 = (nI 3))
              (PX G d m_X9_rate Post 120 [some (.ref 56), some (.int x1), some (.int x2), some (.int ((N2.1 60 x2.toNatClampNeg) + (N2.1 63 (((nI 16) + x2).toNatClampNeg)))), some (.int ((N2.1 60 x2.toNatClampNeg) - (N2.1 63 (((nI 8) + x2).toNatClampNeg))))] [.long 1011, .long (N2.2 56 1), .ref 56] N2)
              (br (x1 = (nI 4))
                (PX G d m_X9_rate Post 120 [some (.ref 56), some (.int x1), some (.int x2), some (.int ((N2.1 60 x2.toNatClampNeg) + (N2.1 63 (((nI 16) + x2).toNatClampNeg)))), some (.int ((N2.1 60 x2.toNatClampNeg) - (N2.1 63 (((nI 8) + x2).toNatClampNeg))))] [.long 10101, .long (N2.2 56 1), .ref 56] N2)
                (PX G d m_X9_rate Post 120 [some (.ref 56), some (.int x1), some (.int x2), some (.int ((N2.1 60 x2.toNatClampNeg) + (N2.1 63 (((nI 16) + x2).toNatClampNeg)))), some (.int ((N2.1 60 x2.toNatClampNeg) - (N2.1 63 (((nI 8) + x2).toNatClampNeg))))] [.long 100001, .long (N2.2 56 1), .ref 56] N2)))))))))))))))) :
  PX G d m_X9_rate Post 0 [some (.ref 56), some (.int x1), some (.int x2), none, none] [] M := wp_ok [(120, [true, true, true, true, true])] ok_X9_rate tk_X9_rate 300 _ _ _ _ h
set_option maxRecDepth 100000 in
theorem g_X9_rate_120 {G : GG} {d : Nat} {Post : Option Value → PM → Prop} {M : PM} {x1 : Int32} {x2 : Int32} {x3 : Int32} {x4 : Int32} {y0 : Int64} {y1 : Int64} (h : br (x1 = 0)
    (vp_in x2 16 ∧ (Post (some (.int (M.1 60 x2.toNatClampNeg))) (wL M 56 1 (y1 + y0))))
    (br (x1 = (nI 1))
      (Post (some (.int x3)) (wL M 56 1 (y1 + y0)))
      (br (x1 = (nI 2))
        (Post (some (.int x4)) (wL M 56 1 (y1 + y0)))
        (br (x1 = (nI 3))
          (Post (some (.int ((nI 2) * x3))) (wL M 56 1 (y1 + y0)))
          (br (x1 = (nI 4))
            (vp_in x2 16 ∧ (Post (some (.int (x4 + (M.1 61 x2.toNatClampNeg)))) (wL M 56 1 (y1 + y0))))
            (vp_in x2 16 ∧ (Post (some (.int ((M.1 60 x2.toNatClampNeg) - x2))) (wL M 56 1 (y1 + y0))))))))) :
  PX G d m_X9_rate Post 120 [some (.ref 56), some (.int x1), some (.int x2), some (.int x3), some (.int x4)] [.long y0, .long y1, .ref 56] M := wp_ok [(120, [true, true, true, true, true])] ok_X9_rate tk_X9_rate 300 _ _ _ _ h
set_option maxRecDepth 100000 in
theorem g_X9_sitting_0 {G : GG} {d : Nat} {Post : Option Value → PM → Prop} {M : PM} (h : PX G d m_X9_sitting Post 4 [some (.ref 56), some (.int (nI 0)), some (.int (nI 0))] [] M) :
  PX G d m_X9_sitting Post 0 [some (.ref 56), none, none] [] M := wp_ok [(4, [true, true, true])] ok_X9_sitting tk_X9_sitting 300 _ _ _ _ h
set_option maxRecDepth 100000 in
theorem g_X9_sitting_4 {G : GG} {d : Nat} {Post : Option Value → PM → Prop} {M : PM} {x1 : Int32} {x2 : Int32} (h : br ((M.1 56 15) ≤ x2)
    (Post (some (.int x1)) M)
    (vp_in ((nI 0) + x2) 34 ∧ (br ((M.1 63 (((nI 0) + x2).toNatClampNeg)) = (-9 : Int32))
      (PX G d m_X9_sitting Post 4 [some (.ref 56), some (.int (x1 + (nI 0))), some (.int (x2 + nI 1))] [] M)
      (PX G d m_X9_sitting Post 4 [some (.ref 56), some (.int (x1 + (nI 1))), some (.int (x2 + nI 1))] [] M)))) :
  PX G d m_X9_sitting Post 4 [some (.ref 56), some (.int x1), some (.int x2)] [] M := wp_ok [(4, [true, true, true])] ok_X9_sitting tk_X9_sitting 300 _ _ _ _ h
set_option maxRecDepth 100000 in
theorem g_X9_trace_0 {G : GG} {d : Nat} {Post : Option Value → PM → Prop} {M : PM} (h : Post (some (.long (M.2 56 1))) (wI M 56 0 (nI 0))) :
  PX G d m_X9_trace Post 0 [some (.ref 56)] [] M := wp_ok [] ok_X9_trace tk_X9_trace 300 _ _ _ _ h
end
section
def lawcl : List (Nat × Mth) := [(15, m_X8_type), (19, m_X9_type), (20, m_X8_clear), (24, m_X9_clear), (25, m_X8_park), (28, m_X9_park), (29, m_X8_plank), (33, m_X9_plank), (34, m_X8_child), (37, m_X9_child), (38, m_X8_stone), (41, m_X9_stone), (42, m_X8_sits), (46, m_X9_sits), (47, m_X8_leaves), (51, m_X9_leaves), (52, m_X8_lay), (55, m_X9_lay), (56, m_X8_take), (59, m_X9_take), (60, m_X8_ways), (63, m_X9_ways), (64, m_X8_most), (67, m_X9_most), (68, m_X8_moves), (71, m_X9_moves), (72, m_X8_ballast), (75, m_X9_ballast), (76, m_X8_game), (79, m_X9_game), (80, m_X8_strangers), (83, m_X9_strangers), (84, m_X8_trial), (87, m_X9_trial), (88, m_X8_could), (91, m_X9_could), (92, m_X8_sure), (95, m_X9_sure), (96, m_X8_next), (99, m_X9_next), (100, m_X8_rides), (103, m_X9_rides), (104, m_X8_forever), (107, m_X9_forever), (108, m_X8_rate), (111, m_X9_rate), (112, m_X8_keep), (115, m_X9_keep), (116, m_X8_back), (119, m_X9_back), (120, m_X8_count), (123, m_X9_count), (124, m_X8_trace), (128, m_X9_trace)]
theorem lawc_0 : Cond.methodLink "SeesawParkLaw" 15 m_X8_type.2.1 ∈ gw := (gt2 (i := 86) rfl rfl)
theorem lawc_1 : Cond.methodLink "SeesawParkLaw" 19 m_X9_type.2.1 ∈ gw := (gt5 (i := 41) rfl rfl)
theorem lawc_2 : Cond.methodLink "SeesawParkLaw" 20 m_X8_clear.2.1 ∈ gw := (gt2 (i := 95) rfl rfl)
theorem lawc_3 : Cond.methodLink "SeesawParkLaw" 24 m_X9_clear.2.1 ∈ gw := (gt5 (i := 46) rfl rfl)
theorem lawc_4 : Cond.methodLink "SeesawParkLaw" 25 m_X8_park.2.1 ∈ gw := (gt2 (i := 99) rfl rfl)
theorem lawc_5 : Cond.methodLink "SeesawParkLaw" 28 m_X9_park.2.1 ∈ gw := (gt5 (i := 50) rfl rfl)
theorem lawc_6 : Cond.methodLink "SeesawParkLaw" 29 m_X8_plank.2.1 ∈ gw := (gt2 (i := 219) rfl rfl)
theorem lawc_7 : Cond.methodLink "SeesawParkLaw" 33 m_X9_plank.2.1 ∈ gw := (gt5 (i := 88) rfl rfl)
theorem lawc_8 : Cond.methodLink "SeesawParkLaw" 34 m_X8_child.2.1 ∈ gw := (gt3 (i := 14) rfl rfl)
theorem lawc_9 : Cond.methodLink "SeesawParkLaw" 37 m_X9_child.2.1 ∈ gw := (gt5 (i := 120) rfl rfl)
theorem lawc_10 : Cond.methodLink "SeesawParkLaw" 38 m_X8_stone.2.1 ∈ gw := (gt3 (i := 22) rfl rfl)
theorem lawc_11 : Cond.methodLink "SeesawParkLaw" 41 m_X9_stone.2.1 ∈ gw := (gt5 (i := 128) rfl rfl)
theorem lawc_12 : Cond.methodLink "SeesawParkLaw" 42 m_X8_sits.2.1 ∈ gw := (gt3 (i := 30) rfl rfl)
theorem lawc_13 : Cond.methodLink "SeesawParkLaw" 46 m_X9_sits.2.1 ∈ gw := (gt5 (i := 136) rfl rfl)
theorem lawc_14 : Cond.methodLink "SeesawParkLaw" 47 m_X8_leaves.2.1 ∈ gw := (gt3 (i := 59) rfl rfl)
theorem lawc_15 : Cond.methodLink "SeesawParkLaw" 51 m_X9_leaves.2.1 ∈ gw := (gt5 (i := 152) rfl rfl)
theorem lawc_16 : Cond.methodLink "SeesawParkLaw" 52 m_X8_lay.2.1 ∈ gw := (gt3 (i := 63) rfl rfl)
theorem lawc_17 : Cond.methodLink "SeesawParkLaw" 55 m_X9_lay.2.1 ∈ gw := (gt5 (i := 156) rfl rfl)
theorem lawc_18 : Cond.methodLink "SeesawParkLaw" 56 m_X8_take.2.1 ∈ gw := (gt3 (i := 79) rfl rfl)
theorem lawc_19 : Cond.methodLink "SeesawParkLaw" 59 m_X9_take.2.1 ∈ gw := (gt5 (i := 160) rfl rfl)
theorem lawc_20 : Cond.methodLink "SeesawParkLaw" 60 m_X8_ways.2.1 ∈ gw := (gt3 (i := 83) rfl rfl)
theorem lawc_21 : Cond.methodLink "SeesawParkLaw" 63 m_X9_ways.2.1 ∈ gw := (gt5 (i := 164) rfl rfl)
theorem lawc_22 : Cond.methodLink "SeesawParkLaw" 64 m_X8_most.2.1 ∈ gw := (gt3 (i := 140) rfl rfl)
theorem lawc_23 : Cond.methodLink "SeesawParkLaw" 67 m_X9_most.2.1 ∈ gw := (gt5 (i := 189) rfl rfl)
theorem lawc_24 : Cond.methodLink "SeesawParkLaw" 68 m_X8_moves.2.1 ∈ gw := (gt3 (i := 177) rfl rfl)
theorem lawc_25 : Cond.methodLink "SeesawParkLaw" 71 m_X9_moves.2.1 ∈ gw := (gt5 (i := 196) rfl rfl)
theorem lawc_26 : Cond.methodLink "SeesawParkLaw" 72 m_X8_ballast.2.1 ∈ gw := (gt3 (i := 189) rfl rfl)
theorem lawc_27 : Cond.methodLink "SeesawParkLaw" 75 m_X9_ballast.2.1 ∈ gw := (gt5 (i := 200) rfl rfl)
theorem lawc_28 : Cond.methodLink "SeesawParkLaw" 76 m_X8_game.2.1 ∈ gw := (gt3 (i := 205) rfl rfl)
theorem lawc_29 : Cond.methodLink "SeesawParkLaw" 79 m_X9_game.2.1 ∈ gw := (gt5 (i := 212) rfl rfl)
theorem lawc_30 : Cond.methodLink "SeesawParkLaw" 80 m_X8_strangers.2.1 ∈ gw := (gt3 (i := 229) rfl rfl)
theorem lawc_31 : Cond.methodLink "SeesawParkLaw" 83 m_X9_strangers.2.1 ∈ gw := (gt6 (i := 0) rfl rfl)
theorem lawc_32 : Cond.methodLink "SeesawParkLaw" 84 m_X8_trial.2.1 ∈ gw := (gt3 (i := 237) rfl rfl)
theorem lawc_33 : Cond.methodLink "SeesawParkLaw" 87 m_X9_trial.2.1 ∈ gw := (gt6 (i := 4) rfl rfl)
theorem lawc_34 : Cond.methodLink "SeesawParkLaw" 88 m_X8_could.2.1 ∈ gw := (gt4 (i := 9) rfl rfl)
theorem lawc_35 : Cond.methodLink "SeesawParkLaw" 91 m_X9_could.2.1 ∈ gw := (gt6 (i := 12) rfl rfl)
theorem lawc_36 : Cond.methodLink "SeesawParkLaw" 92 m_X8_sure.2.1 ∈ gw := (gt4 (i := 44) rfl rfl)
theorem lawc_37 : Cond.methodLink "SeesawParkLaw" 95 m_X9_sure.2.1 ∈ gw := (gt6 (i := 34) rfl rfl)
theorem lawc_38 : Cond.methodLink "SeesawParkLaw" 96 m_X8_next.2.1 ∈ gw := (gt4 (i := 53) rfl rfl)
theorem lawc_39 : Cond.methodLink "SeesawParkLaw" 99 m_X9_next.2.1 ∈ gw := (gt6 (i := 38) rfl rfl)
theorem lawc_40 : Cond.methodLink "SeesawParkLaw" 100 m_X8_rides.2.1 ∈ gw := (gt4 (i := 69) rfl rfl)
theorem lawc_41 : Cond.methodLink "SeesawParkLaw" 103 m_X9_rides.2.1 ∈ gw := (gt6 (i := 42) rfl rfl)
theorem lawc_42 : Cond.methodLink "SeesawParkLaw" 104 m_X8_forever.2.1 ∈ gw := (gt4 (i := 106) rfl rfl)
theorem lawc_43 : Cond.methodLink "SeesawParkLaw" 107 m_X9_forever.2.1 ∈ gw := (gt6 (i := 73) rfl rfl)
theorem lawc_44 : Cond.methodLink "SeesawParkLaw" 108 m_X8_rate.2.1 ∈ gw := (gt4 (i := 115) rfl rfl)
theorem lawc_45 : Cond.methodLink "SeesawParkLaw" 111 m_X9_rate.2.1 ∈ gw := (gt6 (i := 77) rfl rfl)
theorem lawc_46 : Cond.methodLink "SeesawParkLaw" 112 m_X8_keep.2.1 ∈ gw := (gt4 (i := 127) rfl rfl)
theorem lawc_47 : Cond.methodLink "SeesawParkLaw" 115 m_X9_keep.2.1 ∈ gw := (gt6 (i := 86) rfl rfl)
theorem lawc_48 : Cond.methodLink "SeesawParkLaw" 116 m_X8_back.2.1 ∈ gw := (gt4 (i := 146) rfl rfl)
theorem lawc_49 : Cond.methodLink "SeesawParkLaw" 119 m_X9_back.2.1 ∈ gw := (gt6 (i := 94) rfl rfl)
theorem lawc_50 : Cond.methodLink "SeesawParkLaw" 120 m_X8_count.2.1 ∈ gw := (gt4 (i := 150) rfl rfl)
theorem lawc_51 : Cond.methodLink "SeesawParkLaw" 123 m_X9_count.2.1 ∈ gw := (gt6 (i := 98) rfl rfl)
theorem lawc_52 : Cond.methodLink "SeesawParkLaw" 124 m_X8_trace.2.1 ∈ gw := (gt4 (i := 154) rfl rfl)
theorem lawc_53 : Cond.methodLink "SeesawParkLaw" 128 m_X9_trace.2.1 ∈ gw := (gt6 (i := 102) rfl rfl)
theorem lawcl_ok : ∀ q ∈ lawcl, Cond.methodLink "SeesawParkLaw" q.1 q.2.2.1 ∈ gw := List.forall_mem_cons.mpr ⟨lawc_0, List.forall_mem_cons.mpr ⟨lawc_1, List.forall_mem_cons.mpr ⟨lawc_2, List.forall_mem_cons.mpr ⟨lawc_3, List.forall_mem_cons.mpr ⟨lawc_4, List.forall_mem_cons.mpr ⟨lawc_5, List.forall_mem_cons.mpr ⟨lawc_6, List.forall_mem_cons.mpr ⟨lawc_7, List.forall_mem_cons.mpr ⟨lawc_8, List.forall_mem_cons.mpr ⟨lawc_9, List.forall_mem_cons.mpr ⟨lawc_10, List.forall_mem_cons.mpr ⟨lawc_11, List.forall_mem_cons.mpr ⟨lawc_12, List.forall_mem_cons.mpr ⟨lawc_13, List.forall_mem_cons.mpr ⟨lawc_14, List.forall_mem_cons.mpr ⟨lawc_15, List.forall_mem_cons.mpr ⟨lawc_16, List.forall_mem_cons.mpr ⟨lawc_17, List.forall_mem_cons.mpr ⟨lawc_18, List.forall_mem_cons.mpr ⟨lawc_19, List.forall_mem_cons.mpr ⟨lawc_20, List.forall_mem_cons.mpr ⟨lawc_21, List.forall_mem_cons.mpr ⟨lawc_22, List.forall_mem_cons.mpr ⟨lawc_23, List.forall_mem_cons.mpr ⟨lawc_24, List.forall_mem_cons.mpr ⟨lawc_25, List.forall_mem_cons.mpr ⟨lawc_26, List.forall_mem_cons.mpr ⟨lawc_27, List.forall_mem_cons.mpr ⟨lawc_28, List.forall_mem_cons.mpr ⟨lawc_29, List.forall_mem_cons.mpr ⟨lawc_30, List.forall_mem_cons.mpr ⟨lawc_31, List.forall_mem_cons.mpr ⟨lawc_32, List.forall_mem_cons.mpr ⟨lawc_33, List.forall_mem_cons.mpr ⟨lawc_34, List.forall_mem_cons.mpr ⟨lawc_35, List.forall_mem_cons.mpr ⟨lawc_36, List.forall_mem_cons.mpr ⟨lawc_37, List.forall_mem_cons.mpr ⟨lawc_38, List.forall_mem_cons.mpr ⟨lawc_39, List.forall_mem_cons.mpr ⟨lawc_40, List.forall_mem_cons.mpr ⟨lawc_41, List.forall_mem_cons.mpr ⟨lawc_42, List.forall_mem_cons.mpr ⟨lawc_43, List.forall_mem_cons.mpr ⟨lawc_44, List.forall_mem_cons.mpr ⟨lawc_45, List.forall_mem_cons.mpr ⟨lawc_46, List.forall_mem_cons.mpr ⟨lawc_47, List.forall_mem_cons.mpr ⟨lawc_48, List.forall_mem_cons.mpr ⟨lawc_49, List.forall_mem_cons.mpr ⟨lawc_50, List.forall_mem_cons.mpr ⟨lawc_51, List.forall_mem_cons.mpr ⟨lawc_52, List.forall_mem_cons.mpr ⟨lawc_53, fun _ h => absurd h List.not_mem_nil⟩⟩⟩⟩⟩⟩⟩⟩⟩⟩⟩⟩⟩⟩⟩⟩⟩⟩⟩⟩⟩⟩⟩⟩⟩⟩⟩⟩⟩⟩⟩⟩⟩⟩⟩⟩⟩⟩⟩⟩⟩⟩⟩⟩⟩⟩⟩⟩⟩⟩⟩⟩⟩⟩
theorem lawk13 : Cond.constantLong "SeesawParkLaw" 13 4294967295 ∈ gw := (gt6 (i := 106) rfl rfl)
/-! THE CLAIM OUT OF ONE WALK OF THE LAW'S BODY. Your part is whole_start (and what it stands on); all else here is the same for every law, but numbers. -/
def R_law : String := "SeesawParkLaw"
def lw_P (b : Addr) (xs : List Int32) (args : Array Value) (s : State) : Prop := args = #[.ref b] ∧ s.IntsAt b xs ∧ xs.length ≤ 256 ∧ (Jvm.Cond.and given_1 narrow_1).before args s = true
def lw_Q (_ : Array Value) (s : State) (o : Outcome) (t : State) : Prop := o = .returned (some (.int 1)) ∧ Framed s o t [] 600000 7302250
def lw_Z (below : List Frame) (a : Array Value) (s : State) : State → Prop := fun t => ∃ o, t.status = .running ∧ Ended t below o ∧ lw_Q a s o t
/-- the law's own end, with 1 on the stack, nothing written that was there before, its room as the claim has it -/
theorem lw_ret {p : Program} {l : Launch} {e : Env} {s : State} {m : MethodId} {below : List Frame} {meth : Method} {c : Code} {b : Nat} (hx : p.tables.exec = Jvm.exec) (hb : c.code = code) (hr : meth.sig.returnType = ret) (hlocks : meth.locks = false) {pc : Nat} {H : Heap} {ls : Array Slot} (hdg : decode code pc = .ok (.ireturn, 1)) : W p l e room_1 s m #[Value.ref b] below meth c H [] 600000 7302250 (lw_Z below #[Value.ref b] s) (F0 m pc ls [.int 1]) := by
  intro T hT X
  obtain ⟨fs, hret, hrun, hended, hW, hframe⟩ := X.leave (v := some (.int 1)) (hlocks := hlocks) (fun h => by rw [hr] at h; cases h)
  have hmeth' : T.vm.method? m = some meth := X.method'
  refine ⟨T.setFrames fs, ?_, .returned (some (.int 1)), hrun, hended, rfl, ⟨_, rfl⟩, hW, hframe⟩
  jvm_step X.here [X.here.top, hx, hb, hdg, hmeth', hr, ret, narrow_b1]
  (try refine ⟨rfl, ?_⟩); (try refine ⟨rfl, ?_⟩)
  first | (intro acts; rw [hret _ acts rfl rfl rfl]) | rw [hret _ _ rfl rfl rfl]
  exact Steps.refl _
/-- what holds at the law's entry: the machine, the code, the tables' words (any of lw_tbl by 'hts w (by decide +kernel)'), the script of L ints xs at the cell b, what the Statement gives of the start (any of its parts by flat_of_before) -/
def lw_At (p : Program) (s : State) (m : MethodId) (meth : Method) (c : Code) (b L : Nat) (xs : Nat → Int32) : Prop :=
  p.tables.exec = Jvm.exec ∧ c.code = code ∧ meth.sig.returnType = ret ∧ c.maxLocals = 4 ∧ s.vm.findClass R_law = some m.cls ∧ (∀ w ∈ lw_tbl, w.before #[Value.ref b] s = true) ∧ va_X b L xs s s.heap ∧ b < s.heap.size ∧ meth.locks = false ∧ (Jvm.Cond.and given_1 narrow_1).before #[Value.ref b] s = true
def WKL (G : GG) (d sb sl : Nat) (xs : Nat → Int32) (nc ns : Nat) (s : State) (args : Array Value) : Prop := WK G s ∧ args = #[.ref sb] ∧ va_X sb sl xs s s.heap ∧ sb < s.heap.size ∧ (∀ i, i < 75 → s.heap.size ≤ G.2.2.2 i) ∧ G.2.2.2 240 = sb ∧ d ≤ 1000 ∧ nc ≤ 600000 ∧ ns ≤ 7302250
def LX (G : GG) (d sb sl : Nat) (xs : Nat → Int32) (nc ns : Nat) (pc : Nat) (L : List (Option Value)) (st : List Value) (M : PM) : Prop :=
  ∀ (p : Program) (e : Env) (s : State) (m : MethodId) (args : Array Value) (below : List Frame) (meth : Method) (c : Code) (H : Heap) (locs : List Loc) (ls : Array Slot),
    p.tables.exec = Jvm.exec → c.code = code → c.maxLocals = 4 → meth.sig.returnType = ret → meth.locks = false → s.vm.findClass R_law = some m.cls → (∀ w ∈ gw, w.before args s = true) → WKL G d sb sl xs nc ns s args → va_P G.2.1 cls (pws G.2.2.2 G.2.2.1 M) H → va_S (AA G.2.2.2) s.heap H locs → lvH G.2.2.2 ls 4 L →
    W p G.1 e room_1 s m args below meth c H locs nc ns (lw_Z below args s) (F0 m pc ls (st.map (cv G.2.2.2)))
def HL (G : GG) (d sb sl : Nat) (xs : Nat → Int32) (nc ns : Nat) (K : KK) : Prop := ∀ pc L st M, K pc L st M → LX G d sb sl xs nc ns pc L st M
section Y1
variable {G : GG} {d sb sl : Nat} {xs : Nat → Int32} {nc ns : Nat} {pc : Nat} {L : List (Option Value)} {st : List Value} {M : PM}
theorem y_iconst {K : KK} (hK : HL G d sb sl xs nc ns K) {n : Int} {kv : Int32} (hv : Int32.ofInt n = kv) (hd : decode code pc = .ok (.iconst n, 1)) (h : K (pc + 1) L (.int kv :: st) M) : LX G d sb sl xs nc ns pc L st M := by
  intro p e s m args below meth c H locs ls hx hb hml hr hk hown hts hW hP hS hl
  exact lv_iconst hx hb hd hv (hK _ _ _ _ h p e s m args below meth c H locs ls hx hb hml hr hk hown hts hW hP hS hl)
theorem y_bipush {K : KK} (hK : HL G d sb sl xs nc ns K) {n : Int} {kv : Int32} (hv : (Int8.ofInt n).toInt32 = kv) (hd : decode code pc = .ok (.bipush n, 2)) (h : K (pc + 2) L (.int kv :: st) M) : LX G d sb sl xs nc ns pc L st M := by
  intro p e s m args below meth c H locs ls hx hb hml hr hk hown hts hW hP hS hl
  exact lv_bipush hx hb hd hv (hK _ _ _ _ h p e s m args below meth c H locs ls hx hb hml hr hk hown hts hW hP hS hl)
theorem y_aload_n {K : KK} (hK : HL G d sb sl xs nc ns K) {k : Fin 4} (hd : decode code pc = .ok (.aload_n k, 1)) (h : gR (lg L (k : Nat)) (fun x => K (pc + 1) L (.ref x :: st) M)) : LX G d sb sl xs nc ns pc L st M := by
  intro p e s m args below meth c H locs ls hx hb hml hr hk hown hts hW hP hS hl
  obtain ⟨x, e1, h1⟩ := gR_inv h
  exact lv_aload_n hx hb hd rfl (hl.2.2 _ _ e1) (hK _ _ _ _ h1 p e s m args below meth c H locs ls hx hb hml hr hk hown hts hW hP hS hl)
theorem y_iload_n {K : KK} (hK : HL G d sb sl xs nc ns K) {k : Fin 4} (hd : decode code pc = .ok (.iload_n k, 1)) (h : gI (lg L (k : Nat)) (fun x => K (pc + 1) L (.int x :: st) M)) : LX G d sb sl xs nc ns pc L st M := by
  intro p e s m args below meth c H locs ls hx hb hml hr hk hown hts hW hP hS hl
  obtain ⟨x, e1, h1⟩ := gI_inv h
  exact lv_iload_n hx hb hd rfl (hl.2.2 _ _ e1) (hK _ _ _ _ h1 p e s m args below meth c H locs ls hx hb hml hr hk hown hts hW hP hS hl)
theorem y_istore_n {K : KK} (hK : HL G d sb sl xs nc ns K) {k : Fin 4} (hd : decode code pc = .ok (.istore_n k, 1)) (h : p1 st (fun x r => gd (Nat.blt (k : Nat) 4) (K (pc + 1) (stL L (k : Nat) (.int x)) r M))) : LX G d sb sl xs nc ns pc L st M := by
  intro p e s m args below meth c H locs ls hx hb hml hr hk hown hts hW hP hS hl
  obtain ⟨x, r, rfl, h1⟩ := p1_inv h
  obtain ⟨hk1, h1⟩ := gd_inv h1
  exact lv_istore_n hx hb hd rfl hl.has (Nat.le_of_ble_eq_true hk1) rfl (fun ls2 hl2 => hK _ _ _ _ (h1) p e s m args below meth c H locs ls2 hx hb hml hr hk hown hts hW hP hS (lvH.st1 hl2))
theorem y_iinc {K : KK} (hK : HL G d sb sl xs nc ns K) {k : Nat} {n : Int} {kv : Int32} (hv : Int32.ofInt n = kv) (hd : decode code pc = .ok (.iinc k n, 3)) (h : gI (lg L k) (fun x => gd (Nat.blt k 4) (K (pc + 3) (stL L k (.int (x + kv))) st M))) : LX G d sb sl xs nc ns pc L st M := by
  intro p e s m args below meth c H locs ls hx hb hml hr hk hown hts hW hP hS hl
  obtain ⟨x, e1, h1⟩ := gI_inv h
  obtain ⟨hk1, h1⟩ := gd_inv h1
  obtain ⟨j, hj⟩ := List.mem_iff_getElem?.mp (cvl_mem (ad := G.2.2.2) e1)
  exact lv_iinc hx hb hd hl.has (k := j) hj (by rw [hv]) (Nat.le_of_ble_eq_true hk1) rfl (fun ls2 hl2 => hK _ _ _ _ (h1) p e s m args below meth c H locs ls2 hx hb hml hr hk hown hts hW hP hS (lvH.st1 hl2))
theorem y_iadd {K : KK} (hK : HL G d sb sl xs nc ns K) (hd : decode code pc = .ok (.iadd, 1)) (h : p2 st (fun a b r => K (pc + 1) L (.int (a + b) :: r) M)) : LX G d sb sl xs nc ns pc L st M := by
  intro p e s m args below meth c H locs ls hx hb hml hr hk hown hts hW hP hS hl
  obtain ⟨a, b, r, rfl, h1⟩ := p2_inv h
  exact lv_iadd hx hb hd (hK _ _ _ _ h1 p e s m args below meth c H locs ls hx hb hml hr hk hown hts hW hP hS hl)
theorem y_isub {K : KK} (hK : HL G d sb sl xs nc ns K) (hd : decode code pc = .ok (.isub, 1)) (h : p2 st (fun a b r => K (pc + 1) L (.int (a - b) :: r) M)) : LX G d sb sl xs nc ns pc L st M := by
  intro p e s m args below meth c H locs ls hx hb hml hr hk hown hts hW hP hS hl
  obtain ⟨a, b, r, rfl, h1⟩ := p2_inv h
  exact lv_isub hx hb hd (hK _ _ _ _ h1 p e s m args below meth c H locs ls hx hb hml hr hk hown hts hW hP hS hl)
theorem y_iand {K : KK} (hK : HL G d sb sl xs nc ns K) (hd : decode code pc = .ok (.iand, 1)) (h : p2 st (fun a b r => K (pc + 1) L (.int (a &&& b) :: r) M)) : LX G d sb sl xs nc ns pc L st M := by
  intro p e s m args below meth c H locs ls hx hb hml hr hk hown hts hW hP hS hl
  obtain ⟨a, b, r, rfl, h1⟩ := p2_inv h
  exact lv_iand hx hb hd (hK _ _ _ _ h1 p e s m args below meth c H locs ls hx hb hml hr hk hown hts hW hP hS hl)
theorem y_i2l {K : KK} (hK : HL G d sb sl xs nc ns K) (hd : decode code pc = .ok (.i2l, 1)) (h : p1 st (fun a r => K (pc + 1) L (.long a.toInt64 :: r) M)) : LX G d sb sl xs nc ns pc L st M := by
  intro p e s m args below meth c H locs ls hx hb hml hr hk hown hts hW hP hS hl
  obtain ⟨a, r, rfl, h1⟩ := p1_inv h
  exact lv_i2l hx hb hd rfl (hK _ _ _ _ h1 p e s m args below meth c H locs ls hx hb hml hr hk hown hts hW hP hS hl)
theorem y_lshl {K : KK} (hK : HL G d sb sl xs nc ns K) (hd : decode code pc = .ok (.lshl, 1)) (h : qi st (fun a b r => K (pc + 1) L (.long (a <<< (b.toInt64 &&& 63)) :: r) M)) : LX G d sb sl xs nc ns pc L st M := by
  intro p e s m args below meth c H locs ls hx hb hml hr hk hown hts hW hP hS hl
  obtain ⟨a, b, r, rfl, h1⟩ := qi_inv h
  exact lv_lshl hx hb hd rfl (hK _ _ _ _ h1 p e s m args below meth c H locs ls hx hb hml hr hk hown hts hW hP hS hl)
theorem y_land {K : KK} (hK : HL G d sb sl xs nc ns K) (hd : decode code pc = .ok (.land, 1)) (h : q2 st (fun a b r => K (pc + 1) L (.long (a &&& b) :: r) M)) : LX G d sb sl xs nc ns pc L st M := by
  intro p e s m args below meth c H locs ls hx hb hml hr hk hown hts hW hP hS hl
  obtain ⟨a, b, r, rfl, h1⟩ := q2_inv h
  exact lv_land hx hb hd (hK _ _ _ _ h1 p e s m args below meth c H locs ls hx hb hml hr hk hown hts hW hP hS hl)
theorem y_lor {K : KK} (hK : HL G d sb sl xs nc ns K) (hd : decode code pc = .ok (.lor, 1)) (h : q2 st (fun a b r => K (pc + 1) L (.long (a ||| b) :: r) M)) : LX G d sb sl xs nc ns pc L st M := by
  intro p e s m args below meth c H locs ls hx hb hml hr hk hown hts hW hP hS hl
  obtain ⟨a, b, r, rfl, h1⟩ := q2_inv h
  exact lv_lor hx hb hd (hK _ _ _ _ h1 p e s m args below meth c H locs ls hx hb hml hr hk hown hts hW hP hS hl)
theorem y_lcmp {K : KK} (hK : HL G d sb sl xs nc ns K) (hd : decode code pc = .ok (.lcmp, 1)) (h : q2 st (fun a b r => K (pc + 1) L (.int (lg_cmp a b) :: r) M)) : LX G d sb sl xs nc ns pc L st M := by
  intro p e s m args below meth c H locs ls hx hb hml hr hk hown hts hW hP hS hl
  obtain ⟨a, b, r, rfl, h1⟩ := q2_inv h
  exact W.lcmp hx hb hd (hK _ _ _ _ h1 p e s m args below meth c H locs ls hx hb hml hr hk hown hts hW hP hS hl)
theorem y_ifCond {K : KK} (hK : HL G d sb sl xs nc ns K) {cc : ClassFile.Cond} {f : Int} {tg : List Nat} (hv : (pc : Int) + f = ((tg.getD 0 0 : Nat) : Int)) (hd : decode code pc = .ok (.ifCond cc f, 3)) (h : p1 st (fun a r => bz cc a (K (tg.getD 0 0) L r M) (K (pc + 3) L r M))) : LX G d sb sl xs nc ns pc L st M := by
  intro p e s m args below meth c H locs ls hx hb hml hr hk hown hts hW hP hS hl
  obtain ⟨a, r, rfl, h1⟩ := p1_inv h
  cases cc with
  | eq => exact lv_if_eq hx hb hd hv (fun q => hK _ _ _ _ (h1.1 q) p e s m args below meth c H locs ls hx hb hml hr hk hown hts hW hP hS hl) (fun q => hK _ _ _ _ (h1.2 q) p e s m args below meth c H locs ls hx hb hml hr hk hown hts hW hP hS hl)
  | ne => exact lv_if_ne hx hb hd hv (fun q => hK _ _ _ _ (h1.2 q) p e s m args below meth c H locs ls hx hb hml hr hk hown hts hW hP hS hl) (fun q => hK _ _ _ _ (h1.1 q) p e s m args below meth c H locs ls hx hb hml hr hk hown hts hW hP hS hl)
  | lt => exact lv_if_lt hx hb hd hv (fun q => hK _ _ _ _ (h1.1 q) p e s m args below meth c H locs ls hx hb hml hr hk hown hts hW hP hS hl) (fun q => hK _ _ _ _ (h1.2 q) p e s m args below meth c H locs ls hx hb hml hr hk hown hts hW hP hS hl)
  | ge => exact lv_if_ge hx hb hd hv (fun q => hK _ _ _ _ (h1.1 q) p e s m args below meth c H locs ls hx hb hml hr hk hown hts hW hP hS hl) (fun q => hK _ _ _ _ (h1.2 q) p e s m args below meth c H locs ls hx hb hml hr hk hown hts hW hP hS hl)
  | gt => exact lv_if_gt hx hb hd hv (fun q => hK _ _ _ _ (h1.1 q) p e s m args below meth c H locs ls hx hb hml hr hk hown hts hW hP hS hl) (fun q => hK _ _ _ _ (h1.2 q) p e s m args below meth c H locs ls hx hb hml hr hk hown hts hW hP hS hl)
  | le => exact lv_if_le hx hb hd hv (fun q => hK _ _ _ _ (h1.1 q) p e s m args below meth c H locs ls hx hb hml hr hk hown hts hW hP hS hl) (fun q => hK _ _ _ _ (h1.2 q) p e s m args below meth c H locs ls hx hb hml hr hk hown hts hW hP hS hl)
theorem y_if_icmp {K : KK} (hK : HL G d sb sl xs nc ns K) {cc : ClassFile.Cond} {f : Int} {tg : List Nat} (hv : (pc : Int) + f = ((tg.getD 0 0 : Nat) : Int)) (hd : decode code pc = .ok (.if_icmp cc f, 3)) (h : p2 st (fun a b r => bc cc a b (K (tg.getD 0 0) L r M) (K (pc + 3) L r M))) : LX G d sb sl xs nc ns pc L st M := by
  intro p e s m args below meth c H locs ls hx hb hml hr hk hown hts hW hP hS hl
  obtain ⟨a, b, r, rfl, h1⟩ := p2_inv h
  cases cc with
  | eq => exact lv_icmp_eq hx hb hd hv (fun q => hK _ _ _ _ (h1.1 q) p e s m args below meth c H locs ls hx hb hml hr hk hown hts hW hP hS hl) (fun q => hK _ _ _ _ (h1.2 q) p e s m args below meth c H locs ls hx hb hml hr hk hown hts hW hP hS hl)
  | ne => exact lv_icmp_ne hx hb hd hv (fun q => hK _ _ _ _ (h1.2 q) p e s m args below meth c H locs ls hx hb hml hr hk hown hts hW hP hS hl) (fun q => hK _ _ _ _ (h1.1 q) p e s m args below meth c H locs ls hx hb hml hr hk hown hts hW hP hS hl)
  | lt => exact lv_icmp_lt hx hb hd hv (fun q => hK _ _ _ _ (h1.1 q) p e s m args below meth c H locs ls hx hb hml hr hk hown hts hW hP hS hl) (fun q => hK _ _ _ _ (h1.2 q) p e s m args below meth c H locs ls hx hb hml hr hk hown hts hW hP hS hl)
  | ge => exact lv_icmp_ge hx hb hd hv (fun q => hK _ _ _ _ (h1.1 q) p e s m args below meth c H locs ls hx hb hml hr hk hown hts hW hP hS hl) (fun q => hK _ _ _ _ (h1.2 q) p e s m args below meth c H locs ls hx hb hml hr hk hown hts hW hP hS hl)
  | gt => exact lv_icmp_gt hx hb hd hv (fun q => hK _ _ _ _ (h1.1 q) p e s m args below meth c H locs ls hx hb hml hr hk hown hts hW hP hS hl) (fun q => hK _ _ _ _ (h1.2 q) p e s m args below meth c H locs ls hx hb hml hr hk hown hts hW hP hS hl)
  | le => exact lv_icmp_le hx hb hd hv (fun q => hK _ _ _ _ (h1.1 q) p e s m args below meth c H locs ls hx hb hml hr hk hown hts hW hP hS hl) (fun q => hK _ _ _ _ (h1.2 q) p e s m args below meth c H locs ls hx hb hml hr hk hown hts hW hP hS hl)
theorem y_goto {K : KK} (hK : HL G d sb sl xs nc ns K) {f : Int} {tg : List Nat} (hv : (pc : Int) + f = ((tg.getD 0 0 : Nat) : Int)) (hd : decode code pc = .ok (.goto f, 3)) (h : K (tg.getD 0 0) L st M) : LX G d sb sl xs nc ns pc L st M := by
  intro p e s m args below meth c H locs ls hx hb hml hr hk hown hts hW hP hS hl
  exact lv_goto hx hb hd hv (hK _ _ _ _ h p e s m args below meth c H locs ls hx hb hml hr hk hown hts hW hP hS hl)
theorem y_tableswitch {K : KK} (hK : HL G d sb sl xs nc ns K) {df lo hi : Int} {os : Array Int} {ln : Nat} {tg : List Nat} (hv : tg.map (fun t : Nat => (t : Int) - (pc : Int)) = df :: os.toList) (hs : (os.size : Int) = hi - lo + 1) (hd : decode code pc = .ok (.tableswitch df lo hi os, ln)) (h : p1 st (fun a r => swt (fun t => K t L r M) a lo hi (tg.getD 0 0) lo tg.tail)) : LX G d sb sl xs nc ns pc L st M := by
  intro p e s m args below meth c H locs ls hx hb hml hr hk hown hts hW hP hS hl
  obtain ⟨a, r, rfl, h1⟩ := p1_inv h
  cases tg with
  | nil => cases hv
  | cons t0 ts =>
    simp only [List.map_cons, List.cons.injEq] at hv
    obtain ⟨e1, e2⟩ := hv
    by_cases ho : a.toInt < lo ∨ hi < a.toInt
    · exact lv_tableOut hx hb hd ho (tgt := t0) (by omega) (hK _ _ _ _ (swt_out ho lo ts h1) p e s m args below meth c H locs ls hx hb hml hr hk hown hts hW hP hS hl)
    · have hlo : ¬ a.toInt < lo := fun q => ho (Or.inl q)
      have hhi : ¬ hi < a.toInt := fun q => ho (Or.inr q)
      have hj : (a.toInt - lo).toNat < os.toList.length := by rw [Array.length_toList]; omega
      have hj2 : (a.toInt - lo).toNat < ts.length := by rw [← e2] at hj; simpa using hj
      have hk1 : ts[(a.toInt - lo).toNat]? = some ts[(a.toInt - lo).toNat] := List.getElem?_eq_getElem hj2
      have ho2 : os[(a.toInt - lo).toNat]? = some ((ts[(a.toInt - lo).toNat] : Int) - (pc : Int)) := by
        rw [← Array.getElem?_toList, ← e2, List.getElem?_map, hk1]; rfl
      exact lv_tableIn hx hb hd hlo hhi ho2 (tgt := ts[(a.toInt - lo).toNat]) (by omega) (hK _ _ _ _ (swt_in lo ts (a.toInt - lo).toNat _ h1 (by omega) hk1) p e s m args below meth c H locs ls hx hb hml hr hk hown hts hW hP hS hl)
theorem WKL.out {s : State} {args : Array Value} (h : WKL G d sb sl xs nc ns s args) : ¬ AA G.2.2.2 sb := by
  rintro ⟨i, hi, e⟩
  have := h.2.2.2.2.1 i hi
  have h2 := h.2.2.2.1
  omega
theorem y_iaload {K : KK} (hK : HL G d sb sl xs nc ns K) (hd : decode code pc = .ok (.iaload, 1)) (h : p1 st (fun i st1 => r1 st1 (fun a r => gd (Nat.beq a 240) (vp_in i sl ∧ K (pc + 1) L (.int (xs i.toNatClampNeg) :: r) M)))) : LX G d sb sl xs nc ns pc L st M := by
  intro p e s m args below meth c H locs ls hx hb hml hr hk hown hts hW hP hS hl
  obtain ⟨i, st1, rfl, hA⟩ := p1_inv h
  obtain ⟨a, r, rfl, hB⟩ := r1_inv hA
  obtain ⟨e0, h1, h2⟩ := gd_inv hB
  have e0 := Nat.eq_of_beq_eq_true e0
  subst e0
  have h3 := va_sld (xs := xs) (rest := r.map (cv G.2.2.2)) hx hb hW.2.2.1 hW.2.2.2.1 hW.out hS h1 hd (hK _ _ _ _ h2 p e s m args below meth c H locs ls hx hb hml hr hk hown hts hW hP hS hl)
  rw [← hW.2.2.2.2.2.1] at h3
  exact h3
theorem y_arraylength {K : KK} (hK : HL G d sb sl xs nc ns K) (hd : decode code pc = .ok (.arraylength, 1)) (h : r1 st (fun a r => gd (Nat.beq a 240) (K (pc + 1) L (.int (Int32.ofNat sl) :: r) M))) : LX G d sb sl xs nc ns pc L st M := by
  intro p e s m args below meth c H locs ls hx hb hml hr hk hown hts hW hP hS hl
  obtain ⟨a, r, rfl, hB⟩ := r1_inv h
  obtain ⟨e0, h2⟩ := gd_inv hB
  have e0 := Nat.eq_of_beq_eq_true e0
  subst e0
  have h3 := va_slen (rest := r.map (cv G.2.2.2)) hx hb hW.2.2.1 hW.2.2.2.1 hW.out hS hd (hK _ _ _ _ h2 p e s m args below meth c H locs ls hx hb hml hr hk hown hts hW hP hS hl)
  rw [← hW.2.2.2.2.2.1] at h3
  exact h3
theorem y_ldc2_w {K : KK} (hK : HL G d sb sl xs nc ns K) (hd : decode code pc = .ok (.ldc2_w 13, 3)) (h : K (pc + 3) L (.long 4294967295 :: st) M) : LX G d sb sl xs nc ns pc L st M := by
  intro p e s m args below meth c H locs ls hx hb hml hr hk hown hts hW hP hS hl
  exact lv_ldc2 hx hb hown (hts _ lawk13) hd (hK _ _ _ _ h p e s m args below meth c H locs ls hx hb hml hr hk hown hts hW hP hS hl)
theorem y_ireturn (hd : decode code pc = .ok (.ireturn, 1)) (h : st = [.int 1]) : LX G d sb sl xs nc ns pc L st M := by
  intro p e s m args below meth c H locs ls hx hb hml hr hk hown hts hW hP hS hl
  subst h
  obtain ⟨-, rfl, -, -, hge, -, -, h8, h9⟩ := hW
  refine va_forget (fun q hq => ?_) ?_
  · obtain ⟨i, hi, e1⟩ := hS.2.2 q hq
    rw [e1]; exact hge i hi
  · refine W.widen (k := 600000) (n := 7302250) h8 h9 ?_
    exact lw_ret hx hb hr hk hd
theorem y_back {p : Program} {e : Env} {s : State} {m : MethodId} {args : Array Value} {below : List Frame} {meth : Method} {c : Code} {H : Heap} {locs : List Loc} {ls : Array Slot} {a : Array Value} {st0 rest : List Value} {Q : State → Prop} {P2 : Option Value → PM → Prop}
    (hr : va_Run p G.1 e room_1 s m args below meth c H locs nc ns 0 0 (F0 m pc ls st0) rest (Qp G P2 a) (AA G.2.2.2)) (hS : va_S (AA G.2.2.2) s.heap H locs)
    (kk : ∀ (v : Option Value) (M2 : PM) (H1 : Heap) (locs1 : List Loc), P2 v M2 → va_P G.2.1 cls (pws G.2.2.2 G.2.2.1 M2) H1 → va_S (AA G.2.2.2) s.heap H1 locs1 → W p G.1 e room_1 s m args below meth c H1 locs1 nc ns Q (F0 m (pc + 3) ls ((v.map (cv G.2.2.2)).toList ++ rest))) :
    W p G.1 e room_1 s m args below meth c H locs nc ns Q (F0 m pc ls st0) := by
  intro T hT X
  obtain ⟨v, st₀, t, T', L, h0, X', hL, e1, e2, ⟨⟨r, M2, hv, hp, hP2⟩, hz, hk⟩, stp⟩ := hr T hT X
  rw [h0] at hz hk
  cases hv
  rw [← e1] at hP2 hz hk
  obtain ⟨t2, a1, b1⟩ := kk r M2 T'.heap (locs ++ L) hp hP2 ⟨Nat.le_trans hS.1 hz, fun q h1 h2 => by rw [hk q (Nat.lt_of_lt_of_le h1 hS.1) h2]; exact hS.2.1 q h1 h2, fun q hq => by
      rcases List.mem_append.mp hq with h | h
      · exact hS.2.2 q h
      · exact hL q h⟩ T' rfl X'
  exact ⟨t2, stp t2 a1, b1⟩
theorem y_invokevirtual {K : KK} (hK : HL G d sb sl xs nc ns K) {idx : Nat} (hd : decode code pc = .ok (.invokevirtual idx, 3)) (h : match lkp lawcl idx with
    | some μ2 => gd (!μ2.2.2.2.2.2.1) (r1 (st.drop μ2.2.2.2.2.2.2) (fun a r => gd (Nat.ble (csum r) 8 && recv a μ2.1) (PC G d μ2 (.ref a :: (st.take μ2.2.2.2.2.2.2).reverse) M (rk μ2.2.2.2.2.1 K (pc + 3) L r))))
    | none => False) : LX G d sb sl xs nc ns pc L st M := by
  intro p e s m args below meth c H locs ls hx hb hml hr hk hown hts hW hP hS hl
  cases hc : lkp lawcl idx with
  | none => rw [hc] at h; exact h.elim
  | some μ2 =>
    rw [hc] at h
    obtain ⟨hst, h2⟩ := gd_inv h
    obtain ⟨a, r, hdr, h3⟩ := r1_inv h2
    obtain ⟨hb8, hm, hM⟩ := gd_inv h3
    simp only [Bool.and_eq_true] at hb8
    have hlink : Cond.methodLink R_law idx μ2.2.1 ∈ gw := lawcl_ok _ (lkp_mem hc)
    have hstat : μ2.2.2.2.2.2.1 = false := by simpa using hst
    have hlast := hm.2.2.2.2.2.2
    rw [if_neg (by rw [hstat]; decide)] at hlast
    have hsplit : st = (st.take μ2.2.2.2.2.2.2) ++ .ref a :: r := by rw [← hdr]; exact (List.take_append_drop _ _).symm
    have hlen : (st.take μ2.2.2.2.2.2.2).length = μ2.2.2.2.2.2.2 := by
      have : (st.drop μ2.2.2.2.2.2.2).length = r.length + 1 := by rw [hdr]; rfl
      rw [List.length_drop] at this
      rw [List.length_take]; omega
    have hrecv : ∃ cellB : Cell, H[G.2.2.2 a]? = some cellB ∧ cellB.vm.isStatics = false ∧ s.vm.findClass μ2.2.1.cls = some cellB.cls := by
      have h4 := hb8.2
      have str : (Nat.beq μ2.1 13 && Nat.ble 210 a && Nat.ble a 212) = true → ∃ cellB : Cell, H[G.2.2.2 a]? = some cellB ∧ cellB.vm.isStatics = false ∧ s.vm.findClass μ2.2.1.cls = some cellB.cls := by
        intro h5
        simp only [Bool.and_eq_true] at h5
        have e13 := Nat.eq_of_beq_eq_true h5.1.1
        have a1 := Nat.le_of_ble_eq_true h5.1.2
        have a2 := Nat.le_of_ble_eq_true h5.2
        have h6 := vk_recv (i := a - 210) hW.1.2.2.1.2.2.2.2.2.2 (by omega) hS
        have z1 : 210 + (a - 210) = a := by omega
        simp only [z1] at h6
        rw [← hm.2.2.1, e13]
        exact h6
      unfold recv at h4
      cases hs : shp[a]? with
      | none => rw [hs] at h4; exact str h4
      | some sh =>
        cases sh with
        | inl z => rw [hs] at h4; exact str h4
        | inr z =>
          obtain ⟨ci, ks⟩ := z
          rw [hs] at h4
          have e5 : ci = μ2.1 := Nat.eq_of_beq_eq_true h4
          subst e5
          have hci : μ2.1 < 10 := by
            have h7 := List.all_eq_true.mp shp_ci _ (List.mem_of_getElem? hs)
            simpa using h7
          have h8 := va_recv hW.1.1 hP (fcl_get hci) (pws_get hs)
          rw [← hm.2.2.1, show nmo μ2.1 = (fcl μ2.1).1 from nmo_fcl hci]
          exact h8
    have hpre := x_pre (p := p) (av := .ref a :: (st.take μ2.2.2.2.2.2.2).reverse) hW.1 hP hS
    have cb : CallB room_1 s args R_law idx μ2.2.1 μ2.2.2.1 μ2.2.2.2.1 μ2.2.2.2.2.1 (mcode μ2 :: gw) (rmd d) 0 0 μ2.2.2.2.2.2.2 :=
      callB_of μ2.2.2.2.2.2.2 hts (gw_in hm) rfl rfl rfl (hts _ hm.2.1) (hts _ hlink) hm.2.2.2.1 ⟨by have := hW.2.2.2.2.2.2.1; show d + 1 ≤ 2048; omega, by have := hm.2.2.2.2.1; have := hW.2.2.2.2.2.2.1; show 8 + (μ2.2.2.2.1 + 11) + 64 * d ≤ 84000; omega⟩
    refine y_back (va_runV (As := ((st.take μ2.2.2.2.2.2.2).reverse).map (cv G.2.2.2)) (rest := r.map (cv G.2.2.2)) (b := G.2.2.2 a) (C := μ2.2.1.cls) (bytes := μ2.2.2.1) (maxL := μ2.2.2.2.1) (ret := μ2.2.2.2.2.1) (n := μ2.2.2.2.2.2.2) (own := R_law) ⟨hx, hb, hml, hown, hts⟩ hM ⟨cb, hts _ hlast.1, hts _ hlast.2⟩ ⟨hpre.1, hrecv, hpre.2⟩ rfl (by rw [List.length_map, List.length_reverse]; exact hlen) hl.1 ?_ ?_ hd ⟨hW.2.2.2.2.2.2.2.1, hW.2.2.2.2.2.2.2.2⟩) hS ?_
    · show st.map (cv G.2.2.2) = _
      rw [← List.map_reverse, List.reverse_reverse]
      conv => lhs; rw [hsplit]
      rw [List.map_append]; rfl
    · show 2 * 0 + _ ≤ 8
      have := Nat.le_of_ble_eq_true hb8.1
      rw [csum_cv]; omega
    · intro v M2 H1 locs1 hp hP1 hS1
      have h9 := hK _ _ _ _ (rk_inv hp) p e s m args below meth c H1 locs1 ls hx hb hml hr hk hown hts hW hP1 hS1 hl
      rw [List.map_append] at h9
      cases v <;> exact h9
end Y1
def st1L (G : GG) (d sl : Nat) (xs : Nat → Int32) (i : Instr) (tg : List Nat) (kv : Int32) (pc : Nat) (L : List (Option Value)) (st : List Value) (M : PM) (K : KK) : Prop := match i with
  | .iconst _ => K (pc + 1) L (.int kv :: st) M
  | .bipush _ => K (pc + 2) L (.int kv :: st) M
  | .aload_n k => gR (lg L (k : Nat)) (fun x => K (pc + 1) L (.ref x :: st) M)
  | .iload_n k => gI (lg L (k : Nat)) (fun x => K (pc + 1) L (.int x :: st) M)
  | .istore_n k => p1 st (fun x r => gd (Nat.blt (k : Nat) 4) (K (pc + 1) (stL L (k : Nat) (.int x)) r M))
  | .iinc k _ => gI (lg L k) (fun x => gd (Nat.blt k 4) (K (pc + 3) (stL L k (.int (x + kv))) st M))
  | .iadd => p2 st (fun a b r => K (pc + 1) L (.int (a + b) :: r) M)
  | .isub => p2 st (fun a b r => K (pc + 1) L (.int (a - b) :: r) M)
  | .iand => p2 st (fun a b r => K (pc + 1) L (.int (a &&& b) :: r) M)
  | .i2l => p1 st (fun a r => K (pc + 1) L (.long a.toInt64 :: r) M)
  | .lshl => qi st (fun a b r => K (pc + 1) L (.long (a <<< (b.toInt64 &&& 63)) :: r) M)
  | .land => q2 st (fun a b r => K (pc + 1) L (.long (a &&& b) :: r) M)
  | .lor => q2 st (fun a b r => K (pc + 1) L (.long (a ||| b) :: r) M)
  | .lcmp => q2 st (fun a b r => K (pc + 1) L (.int (lg_cmp a b) :: r) M)
  | .ifCond c _ => p1 st (fun a r => bz c a (K (tg.getD 0 0) L r M) (K (pc + 3) L r M))
  | .if_icmp c _ => p2 st (fun a b r => bc c a b (K (tg.getD 0 0) L r M) (K (pc + 3) L r M))
  | .goto _ => K (tg.getD 0 0) L st M
  | .tableswitch _ lo hi _ => p1 st (fun a r => swt (fun t => K t L r M) a lo hi (tg.getD 0 0) lo tg.tail)
  | .iaload => p1 st (fun i st1 => r1 st1 (fun a r => gd (Nat.beq a 240) (vp_in i sl ∧ K (pc + 1) L (.int (xs i.toNatClampNeg) :: r) M)))
  | .arraylength => r1 st (fun a r => gd (Nat.beq a 240) (K (pc + 1) L (.int (Int32.ofNat sl) :: r) M))
  | .ldc2_w idx => gd (Nat.beq idx 13) (K (pc + 3) L (.long 4294967295 :: st) M)
  | .invokevirtual idx => (match lkp lawcl idx with
    | some μ2 => gd (!μ2.2.2.2.2.2.1) (r1 (st.drop μ2.2.2.2.2.2.2) (fun a r => gd (Nat.ble (csum r) 8 && recv a μ2.1) (PC G d μ2 (.ref a :: (st.take μ2.2.2.2.2.2.2).reverse) M (rk μ2.2.2.2.2.1 K (pc + 3) L r))))
    | none => False)
  | .ireturn => st = [.int 1]
  | _ => False
def rchkL (pc : Nat) (i : Instr) (ln : Nat) (tg : List Nat) (kv : Int32) : Bool := match i with
  | .iconst n => Nat.beq ln 1 && decide (Int32.ofInt n = kv)
  | .bipush n => Nat.beq ln 2 && decide ((Int8.ofInt n).toInt32 = kv)
  | .iinc _ n => Nat.beq ln 3 && decide (Int32.ofInt n = kv)
  | .ifCond _ f => Nat.beq ln 3 && decide ((pc : Int) + f = ((tg.getD 0 0 : Nat) : Int))
  | .if_icmp _ f => Nat.beq ln 3 && decide ((pc : Int) + f = ((tg.getD 0 0 : Nat) : Int))
  | .goto f => Nat.beq ln 3 && decide ((pc : Int) + f = ((tg.getD 0 0 : Nat) : Int))
  | .tableswitch df lo hi os => decide (tg.map (fun t : Nat => (t : Int) - (pc : Int)) = df :: os.toList) && decide ((os.size : Int) = hi - lo + 1)
  | .invokevirtual _ => Nat.beq ln 3
  | .ldc2_w _ => Nat.beq ln 3
  | _ => Nat.beq ln 1
theorem st1L_ok {G : GG} {d sb sl : Nat} {xs : Nat → Int32} {nc ns : Nat} {K : KK} (hK : HL G d sb sl xs nc ns K) {pc : Nat} {L : List (Option Value)} {st : List Value} {M : PM} {i : Instr} {ln : Nat} {tg : List Nat} {kv : Int32} (hd : decode code pc = .ok (i, ln)) (hc : rchkL pc i ln tg kv = true) (h : st1L G d sl xs i tg kv pc L st M K) : LX G d sb sl xs nc ns pc L st M := by
  cases i with
  | aload_n k => have e1 := Nat.eq_of_beq_eq_true hc; subst e1; exact y_aload_n hK hd h
  | iload_n k => have e1 := Nat.eq_of_beq_eq_true hc; subst e1; exact y_iload_n hK hd h
  | istore_n k => have e1 := Nat.eq_of_beq_eq_true hc; subst e1; exact y_istore_n hK hd h
  | iadd => have e1 := Nat.eq_of_beq_eq_true hc; subst e1; exact y_iadd hK hd h
  | isub => have e1 := Nat.eq_of_beq_eq_true hc; subst e1; exact y_isub hK hd h
  | iand => have e1 := Nat.eq_of_beq_eq_true hc; subst e1; exact y_iand hK hd h
  | i2l => have e1 := Nat.eq_of_beq_eq_true hc; subst e1; exact y_i2l hK hd h
  | lshl => have e1 := Nat.eq_of_beq_eq_true hc; subst e1; exact y_lshl hK hd h
  | land => have e1 := Nat.eq_of_beq_eq_true hc; subst e1; exact y_land hK hd h
  | lor => have e1 := Nat.eq_of_beq_eq_true hc; subst e1; exact y_lor hK hd h
  | lcmp => have e1 := Nat.eq_of_beq_eq_true hc; subst e1; exact y_lcmp hK hd h
  | iaload => have e1 := Nat.eq_of_beq_eq_true hc; subst e1; exact y_iaload hK hd h
  | arraylength => have e1 := Nat.eq_of_beq_eq_true hc; subst e1; exact y_arraylength hK hd h
  | invokevirtual k => have e1 := Nat.eq_of_beq_eq_true hc; subst e1; exact y_invokevirtual hK hd h
  | ireturn => have e1 := Nat.eq_of_beq_eq_true hc; subst e1; exact y_ireturn hd h
  | ldc2_w k => have e1 := Nat.eq_of_beq_eq_true hc; subst e1; have h1 := gd_inv h; have e2 := Nat.eq_of_beq_eq_true h1.1; subst e2; exact y_ldc2_w hK hd h1.2
  | iconst n => simp only [rchkL, Bool.and_eq_true, decide_eq_true_eq] at hc; have e1 := Nat.eq_of_beq_eq_true hc.1; subst e1; exact y_iconst hK hc.2 hd h
  | bipush n => simp only [rchkL, Bool.and_eq_true, decide_eq_true_eq] at hc; have e1 := Nat.eq_of_beq_eq_true hc.1; subst e1; exact y_bipush hK hc.2 hd h
  | iinc k n => simp only [rchkL, Bool.and_eq_true, decide_eq_true_eq] at hc; have e1 := Nat.eq_of_beq_eq_true hc.1; subst e1; exact y_iinc hK hc.2 hd h
  | ifCond cc f => simp only [rchkL, Bool.and_eq_true, decide_eq_true_eq] at hc; have e1 := Nat.eq_of_beq_eq_true hc.1; subst e1; exact y_ifCond hK hc.2 hd h
  | if_icmp cc f => simp only [rchkL, Bool.and_eq_true, decide_eq_true_eq] at hc; have e1 := Nat.eq_of_beq_eq_true hc.1; subst e1; exact y_if_icmp hK hc.2 hd h
  | goto f => simp only [rchkL, Bool.and_eq_true, decide_eq_true_eq] at hc; have e1 := Nat.eq_of_beq_eq_true hc.1; subst e1; exact y_goto hK hc.2 hd h
  | tableswitch df lo hi os => simp only [rchkL, Bool.and_eq_true, decide_eq_true_eq] at hc; exact y_tableswitch hK hc.1 hc.2 hd h
  | _ => exact h.elim
def tbokL (tb : List Row) : Bool := tb.all fun q => decide (decode code q.1 = .ok (q.2.1, q.2.2.1)) && rchkL q.1 q.2.1 q.2.2.1 q.2.2.2.1 q.2.2.2.2
def wpL (G : GG) (d sl : Nat) (xs : Nat → Int32) (tb : List Row) (cuts : List (Nat × List Bool)) (K : KK) : Nat → KK
  | 0 => K
  | n + 1 => fun pc L st M => match lkp tb pc with
    | none => False
    | some (i, _, tg, kv) => st1L G d sl xs i tg kv pc L st M (fun pc2 L2 st2 M2 => match lkp cuts pc2 with
      | some ms => K pc2 (msk ms L2) st2 M2
      | none => wpL G d sl xs tb cuts K n pc2 L2 st2 M2)
theorem LX.weak {G : GG} {d sb sl : Nat} {xs : Nat → Int32} {nc ns : Nat} {pc : Nat} {L L2 : List (Option Value)} {st : List Value} {M : PM} (hw : ∀ i v, lg L i = some v → lg L2 i = some v) (h : LX G d sb sl xs nc ns pc L st M) : LX G d sb sl xs nc ns pc L2 st M :=
  fun p e s m args below meth c H locs ls hx hb hml hr hk hown hts hW hP hS hl => h p e s m args below meth c H locs ls hx hb hml hr hk hown hts hW hP hS ⟨hl.1, hl.2.1, fun i v hv => hl.2.2 i v (hw i v hv)⟩
theorem wpL_ok {G : GG} {d sb sl : Nat} {xs : Nat → Int32} {nc ns : Nat} {tb : List Row} (cuts : List (Nat × List Bool)) (ht : tbokL tb = true) : ∀ (n pc : Nat) (L : List (Option Value)) (st : List Value) (M : PM), wpL G d sl xs tb cuts (LX G d sb sl xs nc ns) n pc L st M → LX G d sb sl xs nc ns pc L st M
  | 0, _, _, _, _, h => h
  | n + 1, pc, L, st, M, h => by
    unfold wpL at h
    cases hl : lkp tb pc with
    | none => rw [hl] at h; exact h.elim
    | some q =>
      obtain ⟨i, ln, tg, kv⟩ := q
      rw [hl] at h
      have h1 := List.all_eq_true.mp ht _ (lkp_mem hl)
      simp only [Bool.and_eq_true, decide_eq_true_eq] at h1
      refine st1L_ok (fun pc2 L2 st2 M2 h2 => ?_) h1.1 h1.2 h
      cases hq : lkp cuts pc2 with
      | some ms => rw [hq] at h2; exact LX.weak (fun _ _ => lg_msk) h2
      | none => rw [hq] at h2; exact wpL_ok cuts ht n pc2 L2 st2 M2 h2
end
section
def tb_law0 : List Row := [(16, .iconst 0, 1, [], 0), (17, .istore_n 3, 1, [], 0), (18, .iload_n 3, 1, [], 0), (19, .aload_n 0, 1, [], 0), (20, .arraylength, 1, [], 0), (21, .iconst 4, 1, [], 4), (22, .isub, 1, [], 0), (23, .if_icmp .gt 931, 3, [954], 0), (26, .aload_n 0, 1, [], 0), (27, .iload_n 3, 1, [], 0), (28, .iaload, 1, [], 0), (29, .bipush 31, 2, [], 31), (31, .iand, 1, [], 0), (32, .tableswitch 916 0 26 #[124, 187, 200, 213, 246, 279, 312, 355, 378, 421, 444, 487, 520, 543, 576, 609, 632, 675, 708, 731, 754, 787, 800, 833, 856, 879, 902], 124, [948, 156, 219, 232, 245, 278, 311, 344, 387, 410, 453, 476, 519, 552, 575, 608, 641, 664, 707, 740, 763, 786, 819, 832, 865, 888, 911, 934], 0), (156, .aload_n 1, 1, [], 0), (157, .aload_n 0, 1, [], 0), (158, .iload_n 3, 1, [], 0), (159, .iconst 1, 1, [], 1), (160, .iadd, 1, [], 0), (161, .iaload, 1, [], 0), (162, .i2l, 1, [], 0), (163, .bipush 32, 2, [], 32), (165, .lshl, 1, [], 0), (166, .aload_n 0, 1, [], 0), (167, .iload_n 3, 1, [], 0), (168, .iconst 2, 1, [], 2), (169, .iadd, 1, [], 0), (170, .iaload, 1, [], 0), (171, .i2l, 1, [], 0), (172, .ldc2_w 13, 3, [], 0), (175, .land, 1, [], 0), (176, .lor, 1, [], 0), (177, .aload_n 0, 1, [], 0), (178, .iload_n 3, 1, [], 0), (179, .iconst 3, 1, [], 3), (180, .iadd, 1, [], 0), (181, .iaload, 1, [], 0), (182, .invokevirtual 15, 3, [], 0), (185, .aload_n 2, 1, [], 0), (186, .aload_n 0, 1, [], 0), (187, .iload_n 3, 1, [], 0), (188, .iconst 1, 1, [], 1), (189, .iadd, 1, [], 0), (190, .iaload, 1, [], 0), (191, .i2l, 1, [], 0), (192, .bipush 32, 2, [], 32), (194, .lshl, 1, [], 0), (195, .aload_n 0, 1, [], 0), (196, .iload_n 3, 1, [], 0), (197, .iconst 2, 1, [], 2), (198, .iadd, 1, [], 0), (199, .iaload, 1, [], 0), (200, .i2l, 1, [], 0), (201, .ldc2_w 13, 3, [], 0), (204, .land, 1, [], 0), (205, .lor, 1, [], 0), (206, .aload_n 0, 1, [], 0), (207, .iload_n 3, 1, [], 0), (208, .iconst 3, 1, [], 3), (209, .iadd, 1, [], 0), (210, .iaload, 1, [], 0), (211, .invokevirtual 19, 3, [], 0), (214, .if_icmp .eq 734, 3, [948], 0), (217, .iconst 0, 1, [], 0), (218, .ireturn, 1, [], 0), (219, .aload_n 1, 1, [], 0), (220, .invokevirtual 20, 3, [], 0), (223, .aload_n 2, 1, [], 0), (224, .invokevirtual 24, 3, [], 0), (227, .if_icmp .eq 721, 3, [948], 0), (230, .iconst 0, 1, [], 0), (231, .ireturn, 1, [], 0), (232, .aload_n 1, 1, [], 0), (233, .invokevirtual 25, 3, [], 0), (236, .aload_n 2, 1, [], 0), (237, .invokevirtual 28, 3, [], 0), (240, .if_icmp .eq 708, 3, [948], 0), (243, .iconst 0, 1, [], 0), (244, .ireturn, 1, [], 0), (245, .aload_n 1, 1, [], 0), (246, .aload_n 0, 1, [], 0), (247, .iload_n 3, 1, [], 0), (248, .iconst 1, 1, [], 1), (249, .iadd, 1, [], 0), (250, .iaload, 1, [], 0), (251, .aload_n 0, 1, [], 0), (252, .iload_n 3, 1, [], 0), (253, .iconst 2, 1, [], 2), (254, .iadd, 1, [], 0), (255, .iaload, 1, [], 0), (256, .invokevirtual 29, 3, [], 0), (259, .aload_n 2, 1, [], 0), (260, .aload_n 0, 1, [], 0), (261, .iload_n 3, 1, [], 0), (262, .iconst 1, 1, [], 1), (263, .iadd, 1, [], 0), (264, .iaload, 1, [], 0), (265, .aload_n 0, 1, [], 0), (266, .iload_n 3, 1, [], 0), (267, .iconst 2, 1, [], 2), (268, .iadd, 1, [], 0), (269, .iaload, 1, [], 0), (270, .invokevirtual 33, 3, [], 0), (273, .if_icmp .eq 675, 3, [948], 0), (276, .iconst 0, 1, [], 0), (277, .ireturn, 1, [], 0), (278, .aload_n 1, 1, [], 0), (279, .aload_n 0, 1, [], 0), (280, .iload_n 3, 1, [], 0), (281, .iconst 1, 1, [], 1), (282, .iadd, 1, [], 0), (283, .iaload, 1, [], 0), (284, .aload_n 0, 1, [], 0), (285, .iload_n 3, 1, [], 0), (286, .iconst 2, 1, [], 2), (287, .iadd, 1, [], 0), (288, .iaload, 1, [], 0), (289, .invokevirtual 34, 3, [], 0), (292, .aload_n 2, 1, [], 0), (293, .aload_n 0, 1, [], 0), (294, .iload_n 3, 1, [], 0), (295, .iconst 1, 1, [], 1), (296, .iadd, 1, [], 0), (297, .iaload, 1, [], 0), (298, .aload_n 0, 1, [], 0), (299, .iload_n 3, 1, [], 0), (300, .iconst 2, 1, [], 2), (301, .iadd, 1, [], 0), (302, .iaload, 1, [], 0), (303, .invokevirtual 37, 3, [], 0), (306, .if_icmp .eq 642, 3, [948], 0), (309, .iconst 0, 1, [], 0), (310, .ireturn, 1, [], 0), (311, .aload_n 1, 1, [], 0), (312, .aload_n 0, 1, [], 0), (313, .iload_n 3, 1, [], 0), (314, .iconst 1, 1, [], 1), (315, .iadd, 1, [], 0), (316, .iaload, 1, [], 0), (317, .aload_n 0, 1, [], 0), (318, .iload_n 3, 1, [], 0), (319, .iconst 2, 1, [], 2), (320, .iadd, 1, [], 0), (321, .iaload, 1, [], 0), (322, .invokevirtual 38, 3, [], 0), (325, .aload_n 2, 1, [], 0), (326, .aload_n 0, 1, [], 0), (327, .iload_n 3, 1, [], 0), (328, .iconst 1, 1, [], 1), (329, .iadd, 1, [], 0), (330, .iaload, 1, [], 0), (331, .aload_n 0, 1, [], 0), (332, .iload_n 3, 1, [], 0), (333, .iconst 2, 1, [], 2), (334, .iadd, 1, [], 0), (335, .iaload, 1, [], 0), (336, .invokevirtual 41, 3, [], 0), (339, .if_icmp .eq 609, 3, [948], 0), (342, .iconst 0, 1, [], 0), (343, .ireturn, 1, [], 0)]
theorem tk_law0 : tbokL tb_law0 = true := by decide +kernel
def tb_law1 : List Row := [(344, .aload_n 1, 1, [], 0), (345, .aload_n 0, 1, [], 0), (346, .iload_n 3, 1, [], 0), (347, .iconst 1, 1, [], 1), (348, .iadd, 1, [], 0), (349, .iaload, 1, [], 0), (350, .aload_n 0, 1, [], 0), (351, .iload_n 3, 1, [], 0), (352, .iconst 2, 1, [], 2), (353, .iadd, 1, [], 0), (354, .iaload, 1, [], 0), (355, .aload_n 0, 1, [], 0), (356, .iload_n 3, 1, [], 0), (357, .iconst 3, 1, [], 3), (358, .iadd, 1, [], 0), (359, .iaload, 1, [], 0), (360, .invokevirtual 42, 3, [], 0), (363, .aload_n 2, 1, [], 0), (364, .aload_n 0, 1, [], 0), (365, .iload_n 3, 1, [], 0), (366, .iconst 1, 1, [], 1), (367, .iadd, 1, [], 0), (368, .iaload, 1, [], 0), (369, .aload_n 0, 1, [], 0), (370, .iload_n 3, 1, [], 0), (371, .iconst 2, 1, [], 2), (372, .iadd, 1, [], 0), (373, .iaload, 1, [], 0), (374, .aload_n 0, 1, [], 0), (375, .iload_n 3, 1, [], 0), (376, .iconst 3, 1, [], 3), (377, .iadd, 1, [], 0), (378, .iaload, 1, [], 0), (379, .invokevirtual 46, 3, [], 0), (382, .if_icmp .eq 566, 3, [948], 0), (385, .iconst 0, 1, [], 0), (386, .ireturn, 1, [], 0), (387, .aload_n 1, 1, [], 0), (388, .aload_n 0, 1, [], 0), (389, .iload_n 3, 1, [], 0), (390, .iconst 1, 1, [], 1), (391, .iadd, 1, [], 0), (392, .iaload, 1, [], 0), (393, .invokevirtual 47, 3, [], 0), (396, .aload_n 2, 1, [], 0), (397, .aload_n 0, 1, [], 0), (398, .iload_n 3, 1, [], 0), (399, .iconst 1, 1, [], 1), (400, .iadd, 1, [], 0), (401, .iaload, 1, [], 0), (402, .invokevirtual 51, 3, [], 0), (405, .if_icmp .eq 543, 3, [948], 0), (408, .iconst 0, 1, [], 0), (409, .ireturn, 1, [], 0), (410, .aload_n 1, 1, [], 0), (411, .aload_n 0, 1, [], 0), (412, .iload_n 3, 1, [], 0), (413, .iconst 1, 1, [], 1), (414, .iadd, 1, [], 0), (415, .iaload, 1, [], 0), (416, .aload_n 0, 1, [], 0), (417, .iload_n 3, 1, [], 0), (418, .iconst 2, 1, [], 2), (419, .iadd, 1, [], 0), (420, .iaload, 1, [], 0), (421, .aload_n 0, 1, [], 0), (422, .iload_n 3, 1, [], 0), (423, .iconst 3, 1, [], 3), (424, .iadd, 1, [], 0), (425, .iaload, 1, [], 0), (426, .invokevirtual 52, 3, [], 0), (429, .aload_n 2, 1, [], 0), (430, .aload_n 0, 1, [], 0), (431, .iload_n 3, 1, [], 0), (432, .iconst 1, 1, [], 1), (433, .iadd, 1, [], 0), (434, .iaload, 1, [], 0), (435, .aload_n 0, 1, [], 0), (436, .iload_n 3, 1, [], 0), (437, .iconst 2, 1, [], 2), (438, .iadd, 1, [], 0), (439, .iaload, 1, [], 0), (440, .aload_n 0, 1, [], 0), (441, .iload_n 3, 1, [], 0), (442, .iconst 3, 1, [], 3), (443, .iadd, 1, [], 0), (444, .iaload, 1, [], 0), (445, .invokevirtual 55, 3, [], 0), (448, .if_icmp .eq 500, 3, [948], 0), (451, .iconst 0, 1, [], 0), (452, .ireturn, 1, [], 0), (453, .aload_n 1, 1, [], 0), (454, .aload_n 0, 1, [], 0), (455, .iload_n 3, 1, [], 0), (456, .iconst 1, 1, [], 1), (457, .iadd, 1, [], 0), (458, .iaload, 1, [], 0), (459, .invokevirtual 56, 3, [], 0), (462, .aload_n 2, 1, [], 0), (463, .aload_n 0, 1, [], 0), (464, .iload_n 3, 1, [], 0), (465, .iconst 1, 1, [], 1), (466, .iadd, 1, [], 0), (467, .iaload, 1, [], 0), (468, .invokevirtual 59, 3, [], 0), (471, .if_icmp .eq 477, 3, [948], 0), (474, .iconst 0, 1, [], 0), (475, .ireturn, 1, [], 0), (476, .aload_n 1, 1, [], 0), (477, .aload_n 0, 1, [], 0), (478, .iload_n 3, 1, [], 0), (479, .iconst 1, 1, [], 1), (480, .iadd, 1, [], 0), (481, .iaload, 1, [], 0), (482, .aload_n 0, 1, [], 0), (483, .iload_n 3, 1, [], 0), (484, .iconst 2, 1, [], 2), (485, .iadd, 1, [], 0), (486, .iaload, 1, [], 0), (487, .aload_n 0, 1, [], 0), (488, .iload_n 3, 1, [], 0), (489, .iconst 3, 1, [], 3), (490, .iadd, 1, [], 0), (491, .iaload, 1, [], 0), (492, .invokevirtual 60, 3, [], 0), (495, .aload_n 2, 1, [], 0), (496, .aload_n 0, 1, [], 0), (497, .iload_n 3, 1, [], 0), (498, .iconst 1, 1, [], 1), (499, .iadd, 1, [], 0), (500, .iaload, 1, [], 0), (501, .aload_n 0, 1, [], 0), (502, .iload_n 3, 1, [], 0), (503, .iconst 2, 1, [], 2), (504, .iadd, 1, [], 0), (505, .iaload, 1, [], 0), (506, .aload_n 0, 1, [], 0), (507, .iload_n 3, 1, [], 0), (508, .iconst 3, 1, [], 3), (509, .iadd, 1, [], 0), (510, .iaload, 1, [], 0), (511, .invokevirtual 63, 3, [], 0), (514, .if_icmp .eq 434, 3, [948], 0), (517, .iconst 0, 1, [], 0), (518, .ireturn, 1, [], 0), (519, .aload_n 1, 1, [], 0), (520, .aload_n 0, 1, [], 0), (521, .iload_n 3, 1, [], 0), (522, .iconst 1, 1, [], 1), (523, .iadd, 1, [], 0), (524, .iaload, 1, [], 0), (525, .aload_n 0, 1, [], 0), (526, .iload_n 3, 1, [], 0), (527, .iconst 2, 1, [], 2), (528, .iadd, 1, [], 0), (529, .iaload, 1, [], 0), (530, .invokevirtual 64, 3, [], 0), (533, .aload_n 2, 1, [], 0), (534, .aload_n 0, 1, [], 0), (535, .iload_n 3, 1, [], 0)]
theorem tk_law1 : tbokL tb_law1 = true := by decide +kernel
def tb_law2 : List Row := [(536, .iconst 1, 1, [], 1), (537, .iadd, 1, [], 0), (538, .iaload, 1, [], 0), (539, .aload_n 0, 1, [], 0), (540, .iload_n 3, 1, [], 0), (541, .iconst 2, 1, [], 2), (542, .iadd, 1, [], 0), (543, .iaload, 1, [], 0), (544, .invokevirtual 67, 3, [], 0), (547, .if_icmp .eq 401, 3, [948], 0), (550, .iconst 0, 1, [], 0), (551, .ireturn, 1, [], 0), (552, .aload_n 1, 1, [], 0), (553, .aload_n 0, 1, [], 0), (554, .iload_n 3, 1, [], 0), (555, .iconst 1, 1, [], 1), (556, .iadd, 1, [], 0), (557, .iaload, 1, [], 0), (558, .invokevirtual 68, 3, [], 0), (561, .aload_n 2, 1, [], 0), (562, .aload_n 0, 1, [], 0), (563, .iload_n 3, 1, [], 0), (564, .iconst 1, 1, [], 1), (565, .iadd, 1, [], 0), (566, .iaload, 1, [], 0), (567, .invokevirtual 71, 3, [], 0), (570, .if_icmp .eq 378, 3, [948], 0), (573, .iconst 0, 1, [], 0), (574, .ireturn, 1, [], 0), (575, .aload_n 1, 1, [], 0), (576, .aload_n 0, 1, [], 0), (577, .iload_n 3, 1, [], 0), (578, .iconst 1, 1, [], 1), (579, .iadd, 1, [], 0), (580, .iaload, 1, [], 0), (581, .aload_n 0, 1, [], 0), (582, .iload_n 3, 1, [], 0), (583, .iconst 2, 1, [], 2), (584, .iadd, 1, [], 0), (585, .iaload, 1, [], 0), (586, .invokevirtual 72, 3, [], 0), (589, .aload_n 2, 1, [], 0), (590, .aload_n 0, 1, [], 0), (591, .iload_n 3, 1, [], 0), (592, .iconst 1, 1, [], 1), (593, .iadd, 1, [], 0), (594, .iaload, 1, [], 0), (595, .aload_n 0, 1, [], 0), (596, .iload_n 3, 1, [], 0), (597, .iconst 2, 1, [], 2), (598, .iadd, 1, [], 0), (599, .iaload, 1, [], 0), (600, .invokevirtual 75, 3, [], 0), (603, .if_icmp .eq 345, 3, [948], 0), (606, .iconst 0, 1, [], 0), (607, .ireturn, 1, [], 0), (608, .aload_n 1, 1, [], 0), (609, .aload_n 0, 1, [], 0), (610, .iload_n 3, 1, [], 0), (611, .iconst 1, 1, [], 1), (612, .iadd, 1, [], 0), (613, .iaload, 1, [], 0), (614, .aload_n 0, 1, [], 0), (615, .iload_n 3, 1, [], 0), (616, .iconst 2, 1, [], 2), (617, .iadd, 1, [], 0), (618, .iaload, 1, [], 0), (619, .invokevirtual 76, 3, [], 0), (622, .aload_n 2, 1, [], 0), (623, .aload_n 0, 1, [], 0), (624, .iload_n 3, 1, [], 0), (625, .iconst 1, 1, [], 1), (626, .iadd, 1, [], 0), (627, .iaload, 1, [], 0), (628, .aload_n 0, 1, [], 0), (629, .iload_n 3, 1, [], 0), (630, .iconst 2, 1, [], 2), (631, .iadd, 1, [], 0), (632, .iaload, 1, [], 0), (633, .invokevirtual 79, 3, [], 0), (636, .if_icmp .eq 312, 3, [948], 0), (639, .iconst 0, 1, [], 0), (640, .ireturn, 1, [], 0), (641, .aload_n 1, 1, [], 0), (642, .aload_n 0, 1, [], 0), (643, .iload_n 3, 1, [], 0), (644, .iconst 1, 1, [], 1), (645, .iadd, 1, [], 0), (646, .iaload, 1, [], 0), (647, .invokevirtual 80, 3, [], 0), (650, .aload_n 2, 1, [], 0), (651, .aload_n 0, 1, [], 0), (652, .iload_n 3, 1, [], 0), (653, .iconst 1, 1, [], 1), (654, .iadd, 1, [], 0), (655, .iaload, 1, [], 0), (656, .invokevirtual 83, 3, [], 0), (659, .if_icmp .eq 289, 3, [948], 0), (662, .iconst 0, 1, [], 0), (663, .ireturn, 1, [], 0), (664, .aload_n 1, 1, [], 0), (665, .aload_n 0, 1, [], 0), (666, .iload_n 3, 1, [], 0), (667, .iconst 1, 1, [], 1), (668, .iadd, 1, [], 0), (669, .iaload, 1, [], 0), (670, .aload_n 0, 1, [], 0), (671, .iload_n 3, 1, [], 0), (672, .iconst 2, 1, [], 2), (673, .iadd, 1, [], 0), (674, .iaload, 1, [], 0), (675, .aload_n 0, 1, [], 0), (676, .iload_n 3, 1, [], 0), (677, .iconst 3, 1, [], 3), (678, .iadd, 1, [], 0), (679, .iaload, 1, [], 0), (680, .invokevirtual 84, 3, [], 0), (683, .aload_n 2, 1, [], 0), (684, .aload_n 0, 1, [], 0), (685, .iload_n 3, 1, [], 0), (686, .iconst 1, 1, [], 1), (687, .iadd, 1, [], 0), (688, .iaload, 1, [], 0), (689, .aload_n 0, 1, [], 0), (690, .iload_n 3, 1, [], 0), (691, .iconst 2, 1, [], 2), (692, .iadd, 1, [], 0), (693, .iaload, 1, [], 0), (694, .aload_n 0, 1, [], 0), (695, .iload_n 3, 1, [], 0), (696, .iconst 3, 1, [], 3), (697, .iadd, 1, [], 0), (698, .iaload, 1, [], 0), (699, .invokevirtual 87, 3, [], 0), (702, .if_icmp .eq 246, 3, [948], 0), (705, .iconst 0, 1, [], 0), (706, .ireturn, 1, [], 0), (707, .aload_n 1, 1, [], 0), (708, .aload_n 0, 1, [], 0), (709, .iload_n 3, 1, [], 0), (710, .iconst 1, 1, [], 1), (711, .iadd, 1, [], 0), (712, .iaload, 1, [], 0), (713, .aload_n 0, 1, [], 0), (714, .iload_n 3, 1, [], 0), (715, .iconst 2, 1, [], 2), (716, .iadd, 1, [], 0), (717, .iaload, 1, [], 0), (718, .invokevirtual 88, 3, [], 0), (721, .aload_n 2, 1, [], 0), (722, .aload_n 0, 1, [], 0), (723, .iload_n 3, 1, [], 0), (724, .iconst 1, 1, [], 1), (725, .iadd, 1, [], 0), (726, .iaload, 1, [], 0), (727, .aload_n 0, 1, [], 0), (728, .iload_n 3, 1, [], 0), (729, .iconst 2, 1, [], 2), (730, .iadd, 1, [], 0), (731, .iaload, 1, [], 0)]
theorem tk_law2 : tbokL tb_law2 = true := by decide +kernel
def tb_law3 : List Row := [(732, .invokevirtual 91, 3, [], 0), (735, .if_icmp .eq 213, 3, [948], 0), (738, .iconst 0, 1, [], 0), (739, .ireturn, 1, [], 0), (740, .aload_n 1, 1, [], 0), (741, .aload_n 0, 1, [], 0), (742, .iload_n 3, 1, [], 0), (743, .iconst 1, 1, [], 1), (744, .iadd, 1, [], 0), (745, .iaload, 1, [], 0), (746, .invokevirtual 92, 3, [], 0), (749, .aload_n 2, 1, [], 0), (750, .aload_n 0, 1, [], 0), (751, .iload_n 3, 1, [], 0), (752, .iconst 1, 1, [], 1), (753, .iadd, 1, [], 0), (754, .iaload, 1, [], 0), (755, .invokevirtual 95, 3, [], 0), (758, .if_icmp .eq 190, 3, [948], 0), (761, .iconst 0, 1, [], 0), (762, .ireturn, 1, [], 0), (763, .aload_n 1, 1, [], 0), (764, .aload_n 0, 1, [], 0), (765, .iload_n 3, 1, [], 0), (766, .iconst 1, 1, [], 1), (767, .iadd, 1, [], 0), (768, .iaload, 1, [], 0), (769, .invokevirtual 96, 3, [], 0), (772, .aload_n 2, 1, [], 0), (773, .aload_n 0, 1, [], 0), (774, .iload_n 3, 1, [], 0), (775, .iconst 1, 1, [], 1), (776, .iadd, 1, [], 0), (777, .iaload, 1, [], 0), (778, .invokevirtual 99, 3, [], 0), (781, .if_icmp .eq 167, 3, [948], 0), (784, .iconst 0, 1, [], 0), (785, .ireturn, 1, [], 0), (786, .aload_n 1, 1, [], 0), (787, .aload_n 0, 1, [], 0), (788, .iload_n 3, 1, [], 0), (789, .iconst 1, 1, [], 1), (790, .iadd, 1, [], 0), (791, .iaload, 1, [], 0), (792, .aload_n 0, 1, [], 0), (793, .iload_n 3, 1, [], 0), (794, .iconst 2, 1, [], 2), (795, .iadd, 1, [], 0), (796, .iaload, 1, [], 0), (797, .invokevirtual 100, 3, [], 0), (800, .aload_n 2, 1, [], 0), (801, .aload_n 0, 1, [], 0), (802, .iload_n 3, 1, [], 0), (803, .iconst 1, 1, [], 1), (804, .iadd, 1, [], 0), (805, .iaload, 1, [], 0), (806, .aload_n 0, 1, [], 0), (807, .iload_n 3, 1, [], 0), (808, .iconst 2, 1, [], 2), (809, .iadd, 1, [], 0), (810, .iaload, 1, [], 0), (811, .invokevirtual 103, 3, [], 0), (814, .if_icmp .eq 134, 3, [948], 0), (817, .iconst 0, 1, [], 0), (818, .ireturn, 1, [], 0), (819, .aload_n 1, 1, [], 0), (820, .invokevirtual 104, 3, [], 0), (823, .aload_n 2, 1, [], 0), (824, .invokevirtual 107, 3, [], 0), (827, .if_icmp .eq 121, 3, [948], 0), (830, .iconst 0, 1, [], 0), (831, .ireturn, 1, [], 0), (832, .aload_n 1, 1, [], 0), (833, .aload_n 0, 1, [], 0), (834, .iload_n 3, 1, [], 0), (835, .iconst 1, 1, [], 1), (836, .iadd, 1, [], 0), (837, .iaload, 1, [], 0), (838, .aload_n 0, 1, [], 0), (839, .iload_n 3, 1, [], 0), (840, .iconst 2, 1, [], 2), (841, .iadd, 1, [], 0), (842, .iaload, 1, [], 0), (843, .invokevirtual 108, 3, [], 0), (846, .aload_n 2, 1, [], 0), (847, .aload_n 0, 1, [], 0), (848, .iload_n 3, 1, [], 0), (849, .iconst 1, 1, [], 1), (850, .iadd, 1, [], 0), (851, .iaload, 1, [], 0), (852, .aload_n 0, 1, [], 0), (853, .iload_n 3, 1, [], 0), (854, .iconst 2, 1, [], 2), (855, .iadd, 1, [], 0), (856, .iaload, 1, [], 0), (857, .invokevirtual 111, 3, [], 0), (860, .if_icmp .eq 88, 3, [948], 0), (863, .iconst 0, 1, [], 0), (864, .ireturn, 1, [], 0), (865, .aload_n 1, 1, [], 0), (866, .aload_n 0, 1, [], 0), (867, .iload_n 3, 1, [], 0), (868, .iconst 1, 1, [], 1), (869, .iadd, 1, [], 0), (870, .iaload, 1, [], 0), (871, .invokevirtual 112, 3, [], 0), (874, .aload_n 2, 1, [], 0), (875, .aload_n 0, 1, [], 0), (876, .iload_n 3, 1, [], 0), (877, .iconst 1, 1, [], 1), (878, .iadd, 1, [], 0), (879, .iaload, 1, [], 0), (880, .invokevirtual 115, 3, [], 0), (883, .if_icmp .eq 65, 3, [948], 0), (886, .iconst 0, 1, [], 0), (887, .ireturn, 1, [], 0), (888, .aload_n 1, 1, [], 0), (889, .aload_n 0, 1, [], 0), (890, .iload_n 3, 1, [], 0), (891, .iconst 1, 1, [], 1), (892, .iadd, 1, [], 0), (893, .iaload, 1, [], 0), (894, .invokevirtual 116, 3, [], 0), (897, .aload_n 2, 1, [], 0), (898, .aload_n 0, 1, [], 0), (899, .iload_n 3, 1, [], 0), (900, .iconst 1, 1, [], 1), (901, .iadd, 1, [], 0), (902, .iaload, 1, [], 0), (903, .invokevirtual 119, 3, [], 0), (906, .if_icmp .eq 42, 3, [948], 0), (909, .iconst 0, 1, [], 0), (910, .ireturn, 1, [], 0), (911, .aload_n 1, 1, [], 0), (912, .aload_n 0, 1, [], 0), (913, .iload_n 3, 1, [], 0), (914, .iconst 1, 1, [], 1), (915, .iadd, 1, [], 0), (916, .iaload, 1, [], 0), (917, .invokevirtual 120, 3, [], 0), (920, .aload_n 2, 1, [], 0), (921, .aload_n 0, 1, [], 0), (922, .iload_n 3, 1, [], 0), (923, .iconst 1, 1, [], 1), (924, .iadd, 1, [], 0), (925, .iaload, 1, [], 0), (926, .invokevirtual 123, 3, [], 0), (929, .if_icmp .eq 19, 3, [948], 0), (932, .iconst 0, 1, [], 0), (933, .ireturn, 1, [], 0), (934, .aload_n 1, 1, [], 0), (935, .invokevirtual 124, 3, [], 0), (938, .aload_n 2, 1, [], 0), (939, .invokevirtual 128, 3, [], 0), (942, .lcmp, 1, [], 0), (943, .ifCond .eq 5, 3, [948], 0), (946, .iconst 0, 1, [], 0), (947, .ireturn, 1, [], 0), (948, .iinc 3 4, 3, [], 4), (951, .goto (-933), 3, [18], 0)]
theorem tk_law3 : tbokL tb_law3 = true := by decide +kernel
def tb_law4 : List Row := [(954, .iconst 1, 1, [], 1), (955, .ireturn, 1, [], 0)]
theorem tk_law4 : tbokL tb_law4 = true := by decide +kernel
def tb_law : List Row := tb_law0 ++ tb_law1 ++ tb_law2 ++ tb_law3 ++ tb_law4
theorem tbokL_app {a b : List Row} (ha : tbokL a = true) (hb : tbokL b = true) : tbokL (a ++ b) = true := by unfold tbokL at *; rw [List.all_append, ha, hb]; rfl
theorem tk_law : tbokL tb_law = true := (tbokL_app (tbokL_app (tbokL_app (tbokL_app tk_law0 tk_law1) tk_law2) tk_law3) tk_law4)
end
section
abbrev lawcuts : List (Nat × List Bool) := [(18, [true, true, true, true]), (156, [true, true, true, true]), (219, [true, true, true, true]), (232, [true, true, true, true]), (245, [true, true, true, true]), (278, [true, true, true, true]), (311, [true, true, true, true]), (344, [true, true, true, true]), (387, [true, true, true, true]), (410, [true, true, true, true]), (453, [true, true, true, true]), (476, [true, true, true, true]), (519, [true, true, true, true]), (552, [true, true, true, true]), (575, [true, true, true, true]), (608, [true, true, true, true]), (641, [true, true, true, true]), (664, [true, true, true, true]), (707, [true, true, true, true]), (740, [true, true, true, true]), (763, [true, true, true, true]), (786, [true, true, true, true]), (819, [true, true, true, true]), (832, [true, true, true, true]), (865, [true, true, true, true]), (888, [true, true, true, true]), (911, [true, true, true, true]), (934, [true, true, true, true])]
set_option maxRecDepth 100000 in
theorem gl_18 {G : GG} {d sb sl : Nat} {xs : Nat → Int32} {nc ns : Nat} {M : PM} {x3 : Int32} (h : br (((Int32.ofNat sl) - (nI 4)) < x3)
    (([.int (nI 1)] : List Value) = [.int 1])
    (vp_in x3 sl ∧ ((((xs x3.toNatClampNeg) &&& (nI 31)) = 0 → LX G d sb sl xs nc ns 156 [some (.ref 240), some (.ref 0), some (.ref 56), some (.int x3)] [] M) ∧
    (((xs x3.toNatClampNeg) &&& (nI 31)) = 1 → LX G d sb sl xs nc ns 219 [some (.ref 240), some (.ref 0), some (.ref 56), some (.int x3)] [] M) ∧
    (((xs x3.toNatClampNeg) &&& (nI 31)) = 2 → LX G d sb sl xs nc ns 232 [some (.ref 240), some (.ref 0), some (.ref 56), some (.int x3)] [] M) ∧
    (((xs x3.toNatClampNeg) &&& (nI 31)) = 3 → LX G d sb sl xs nc ns 245 [some (.ref 240), some (.ref 0), some (.ref 56), some (.int x3)] [] M) ∧
    (((xs x3.toNatClampNeg) &&& (nI 31)) = 4 → LX G d sb sl xs nc ns 278 [some (.ref 240), some (.ref 0), some (.ref 56), some (.int x3)] [] M) ∧
    (((xs x3.toNatClampNeg) &&& (nI 31)) = 5 → LX G d sb sl xs nc ns 311 [some (.ref 240), some (.ref 0), some (.ref 56), some (.int x3)] [] M) ∧
    (((xs x3.toNatClampNeg) &&& (nI 31)) = 6 → LX G d sb sl xs nc ns 344 [some (.ref 240), some (.ref 0), some (.ref 56), some (.int x3)] [] M) ∧
    (((xs x3.toNatClampNeg) &&& (nI 31)) = 7 → LX G d sb sl xs nc ns 387 [some (.ref 240), some (.ref 0), some (.ref 56), some (.int x3)] [] M) ∧
    (((xs x3.toNatClampNeg) &&& (nI 31)) = 8 → LX G d sb sl xs nc ns 410 [some (.ref 240), some (.ref 0), some (.ref 56), some (.int x3)] [] M) ∧
    (((xs x3.toNatClampNeg) &&& (nI 31)) = 9 → LX G d sb sl xs nc ns 453 [some (.ref 240), some (.ref 0), some (.ref 56), some (.int x3)] [] M) ∧
    (((xs x3.toNatClampNeg) &&& (nI 31)) = 10 → LX G d sb sl xs nc ns 476 [some (.ref 240), some (.ref 0), some (.ref 56), some (.int x3)] [] M) ∧
    (((xs x3.toNatClampNeg) &&& (nI 31)) = 11 → LX G d sb sl xs nc ns 519 [some (.ref 240), some (.ref 0), some (.ref 56), some (.int x3)] [] M) ∧
    (((xs x3.toNatClampNeg) &&& (nI 31)) = 12 → LX G d sb sl xs nc ns 552 [some (.ref 240), some (.ref 0), some (.ref 56), some (.int x3)] [] M) ∧
    (((xs x3.toNatClampNeg) &&& (nI 31)) = 13 → LX G d sb sl xs nc ns 575 [some (.ref 240), some (.ref 0), some (.ref 56), some (.int x3)] [] M) ∧
    (((xs x3.toNatClampNeg) &&& (nI 31)) = 14 → LX G d sb sl xs nc ns 608 [some (.ref 240), some (.ref 0), some (.ref 56), some (.int x3)] [] M) ∧
    (((xs x3.toNatClampNeg) &&& (nI 31)) = 15 → LX G d sb sl xs nc ns 641 [some (.ref 240), some (.ref 0), some (.ref 56), some (.int x3)] [] M) ∧
    (((xs x3.toNatClampNeg) &&& (nI 31)) = 16 → LX G d sb sl xs nc ns 664 [some (.ref 240), some (.ref 0), some (.ref 56), some (.int x3)] [] M) ∧
    (((xs x3.toNatClampNeg) &&& (nI 31)) = 17 → LX G d sb sl xs nc ns 707 [some (.ref 240), some (.ref 0), some (.ref 56), some (.int x3)] [] M) ∧
    (((xs x3.toNatClampNeg) &&& (nI 31)) = 18 → LX G d sb sl xs nc ns 740 [some (.ref 240), some (.ref 0), some (.ref 56), some (.int x3)] [] M) ∧
    (((xs x3.toNatClampNeg) &&& (nI 31)) = 19 → LX G d sb sl xs nc ns 763 [some (.ref 240), some (.ref 0), some (.ref 56), some (.int x3)] [] M) ∧
    (((xs x3.toNatClampNeg) &&& (nI 31)) = 20 → LX G d sb sl xs nc ns 786 [some (.ref 240), some (.ref 0), some (.ref 56), some (.int x3)] [] M) ∧
    (((xs x3.toNatClampNeg) &&& (nI 31)) = 21 → LX G d sb sl xs nc ns 819 [some (.ref 240), some (.ref 0), some (.ref 56), some (.int x3)] [] M) ∧
    (((xs x3.toNatClampNeg) &&& (nI 31)) = 22 → LX G d sb sl xs nc ns 832 [some (.ref 240), some (.ref 0), some (.ref 56), some (.int x3)] [] M) ∧
    (((xs x3.toNatClampNeg) &&& (nI 31)) = 23 → LX G d sb sl xs nc ns 865 [some (.ref 240), some (.ref 0), some (.ref 56), some (.int x3)] [] M) ∧
    (((xs x3.toNatClampNeg) &&& (nI 31)) = 24 → LX G d sb sl xs nc ns 888 [some (.ref 240), some (.ref 0), some (.ref 56), some (.int x3)] [] M) ∧
    (((xs x3.toNatClampNeg) &&& (nI 31)) = 25 → LX G d sb sl xs nc ns 911 [some (.ref 240), some (.ref 0), some (.ref 56), some (.int x3)] [] M) ∧
    (((xs x3.toNatClampNeg) &&& (nI 31)) = 26 → LX G d sb sl xs nc ns 934 [some (.ref 240), some (.ref 0), some (.ref 56), some (.int x3)] [] M) ∧
    ((((xs x3.toNatClampNeg) &&& (nI 31)).toInt < 0 ∨ 26 < ((xs x3.toNatClampNeg) &&& (nI 31)).toInt) → LX G d sb sl xs nc ns 18 [some (.ref 240), some (.ref 0), some (.ref 56), some (.int (x3 + nI 4))] [] M)))) :
  LX G d sb sl xs nc ns 18 [some (.ref 240), some (.ref 0), some (.ref 56), some (.int x3)] [] M := wpL_ok lawcuts tk_law 60 _ _ _ _ h
set_option maxRecDepth 100000 in
theorem gl_156 {G : GG} {d sb sl : Nat} {xs : Nat → Int32} {nc ns : Nat} {M : PM} {x3 : Int32} (h : vp_in (x3 + (nI 1)) sl ∧ (vp_in (x3 + (nI 2)) sl ∧ (vp_in (x3 + (nI 3)) sl ∧ (PC G d m_X8_type [.ref 0, .long ((((xs (x3 + (nI 1)).toNatClampNeg).toInt64) <<< ((nI 32).toInt64 &&& 63)) ||| (((xs (x3 + (nI 2)).toNatClampNeg).toInt64) &&& 4294967295)), .int (xs (x3 + (nI 3)).toNatClampNeg)] M (fun v N1 => gI v (fun r1 => vp_in (x3 + (nI 1)) sl ∧ (vp_in (x3 + (nI 2)) sl ∧ (vp_in (x3 + (nI 3)) sl ∧ (PC G d m_X9_type [.ref 56, .long ((((xs (x3 + (nI 1)).toNatClampNeg).toInt64) <<< ((nI 32).toInt64 &&& 63)) ||| (((xs (x3 + (nI 2)).toNatClampNeg).toInt64) &&& 4294967295)), .int (xs (x3 + (nI 3)).toNatClampNeg)] N1 (fun v N2 => gI v (fun r2 => br (r1 = r2)
    (LX G d sb sl xs nc ns 18 [some (.ref 240), some (.ref 0), some (.ref 56), some (.int (x3 + nI 4))] [] N2)
    (([.int (nI 0)] : List Value) = [.int 1])))))))))))) :
  LX G d sb sl xs nc ns 156 [some (.ref 240), some (.ref 0), some (.ref 56), some (.int x3)] [] M := wpL_ok lawcuts tk_law 60 _ _ _ _ h
set_option maxRecDepth 100000 in
theorem gl_219 {G : GG} {d sb sl : Nat} {xs : Nat → Int32} {nc ns : Nat} {M : PM} {x3 : Int32} (h : PC G d m_X8_clear [.ref 0] M (fun v N1 => gI v (fun r1 => PC G d m_X9_clear [.ref 56] N1 (fun v N2 => gI v (fun r2 => br (r1 = r2)
    (LX G d sb sl xs nc ns 18 [some (.ref 240), some (.ref 0), some (.ref 56), some (.int (x3 + nI 4))] [] N2)
    (([.int (nI 0)] : List Value) = [.int 1])))))) :
  LX G d sb sl xs nc ns 219 [some (.ref 240), some (.ref 0), some (.ref 56), some (.int x3)] [] M := wpL_ok lawcuts tk_law 60 _ _ _ _ h
set_option maxRecDepth 100000 in
theorem gl_232 {G : GG} {d sb sl : Nat} {xs : Nat → Int32} {nc ns : Nat} {M : PM} {x3 : Int32} (h : PC G d m_X8_park [.ref 0] M (fun v N1 => gI v (fun r1 => PC G d m_X9_park [.ref 56] N1 (fun v N2 => gI v (fun r2 => br (r1 = r2)
    (LX G d sb sl xs nc ns 18 [some (.ref 240), some (.ref 0), some (.ref 56), some (.int (x3 + nI 4))] [] N2)
    (([.int (nI 0)] : List Value) = [.int 1])))))) :
  LX G d sb sl xs nc ns 232 [some (.ref 240), some (.ref 0), some (.ref 56), some (.int x3)] [] M := wpL_ok lawcuts tk_law 60 _ _ _ _ h
set_option maxRecDepth 100000 in
theorem gl_245 {G : GG} {d sb sl : Nat} {xs : Nat → Int32} {nc ns : Nat} {M : PM} {x3 : Int32} (h : vp_in (x3 + (nI 1)) sl ∧ (vp_in (x3 + (nI 2)) sl ∧ (PC G d m_X8_plank [.ref 0, .int (xs (x3 + (nI 1)).toNatClampNeg), .int (xs (x3 + (nI 2)).toNatClampNeg)] M (fun v N1 => gI v (fun r1 => vp_in (x3 + (nI 1)) sl ∧ (vp_in (x3 + (nI 2)) sl ∧ (PC G d m_X9_plank [.ref 56, .int (xs (x3 + (nI 1)).toNatClampNeg), .int (xs (x3 + (nI 2)).toNatClampNeg)] N1 (fun v N2 => gI v (fun r2 => br (r1 = r2)
    (LX G d sb sl xs nc ns 18 [some (.ref 240), some (.ref 0), some (.ref 56), some (.int (x3 + nI 4))] [] N2)
    (([.int (nI 0)] : List Value) = [.int 1])))))))))) :
  LX G d sb sl xs nc ns 245 [some (.ref 240), some (.ref 0), some (.ref 56), some (.int x3)] [] M := wpL_ok lawcuts tk_law 60 _ _ _ _ h
set_option maxRecDepth 100000 in
theorem gl_278 {G : GG} {d sb sl : Nat} {xs : Nat → Int32} {nc ns : Nat} {M : PM} {x3 : Int32} (h : vp_in (x3 + (nI 1)) sl ∧ (vp_in (x3 + (nI 2)) sl ∧ (PC G d m_X8_child [.ref 0, .int (xs (x3 + (nI 1)).toNatClampNeg), .int (xs (x3 + (nI 2)).toNatClampNeg)] M (fun v N1 => gI v (fun r1 => vp_in (x3 + (nI 1)) sl ∧ (vp_in (x3 + (nI 2)) sl ∧ (PC G d m_X9_child [.ref 56, .int (xs (x3 + (nI 1)).toNatClampNeg), .int (xs (x3 + (nI 2)).toNatClampNeg)] N1 (fun v N2 => gI v (fun r2 => br (r1 = r2)
    (LX G d sb sl xs nc ns 18 [some (.ref 240), some (.ref 0), some (.ref 56), some (.int (x3 + nI 4))] [] N2)
    (([.int (nI 0)] : List Value) = [.int 1])))))))))) :
  LX G d sb sl xs nc ns 278 [some (.ref 240), some (.ref 0), some (.ref 56), some (.int x3)] [] M := wpL_ok lawcuts tk_law 60 _ _ _ _ h
set_option maxRecDepth 100000 in
theorem gl_311 {G : GG} {d sb sl : Nat} {xs : Nat → Int32} {nc ns : Nat} {M : PM} {x3 : Int32} (h : vp_in (x3 + (nI 1)) sl ∧ (vp_in (x3 + (nI 2)) sl ∧ (PC G d m_X8_stone [.ref 0, .int (xs (x3 + (nI 1)).toNatClampNeg), .int (xs (x3 + (nI 2)).toNatClampNeg)] M (fun v N1 => gI v (fun r1 => vp_in (x3 + (nI 1)) sl ∧ (vp_in (x3 + (nI 2)) sl ∧ (PC G d m_X9_stone [.ref 56, .int (xs (x3 + (nI 1)).toNatClampNeg), .int (xs (x3 + (nI 2)).toNatClampNeg)] N1 (fun v N2 => gI v (fun r2 => br (r1 = r2)
    (LX G d sb sl xs nc ns 18 [some (.ref 240), some (.ref 0), some (.ref 56), some (.int (x3 + nI 4))] [] N2)
    (([.int (nI 0)] : List Value) = [.int 1])))))))))) :
  LX G d sb sl xs nc ns 311 [some (.ref 240), some (.ref 0), some (.ref 56), some (.int x3)] [] M := wpL_ok lawcuts tk_law 60 _ _ _ _ h
set_option maxRecDepth 100000 in
theorem gl_344 {G : GG} {d sb sl : Nat} {xs : Nat → Int32} {nc ns : Nat} {M : PM} {x3 : Int32} (h : vp_in (x3 + (nI 1)) sl ∧ (vp_in (x3 + (nI 2)) sl ∧ (vp_in (x3 + (nI 3)) sl ∧ (PC G d m_X8_sits [.ref 0, .int (xs (x3 + (nI 1)).toNatClampNeg), .int (xs (x3 + (nI 2)).toNatClampNeg), .int (xs (x3 + (nI 3)).toNatClampNeg)] M (fun v N1 => gI v (fun r1 => vp_in (x3 + (nI 1)) sl ∧ (vp_in (x3 + (nI 2)) sl ∧ (vp_in (x3 + (nI 3)) sl ∧ (PC G d m_X9_sits [.ref 56, .int (xs (x3 + (nI 1)).toNatClampNeg), .int (xs (x3 + (nI 2)).toNatClampNeg), .int (xs (x3 + (nI 3)).toNatClampNeg)] N1 (fun v N2 => gI v (fun r2 => br (r1 = r2)
    (LX G d sb sl xs nc ns 18 [some (.ref 240), some (.ref 0), some (.ref 56), some (.int (x3 + nI 4))] [] N2)
    (([.int (nI 0)] : List Value) = [.int 1])))))))))))) :
  LX G d sb sl xs nc ns 344 [some (.ref 240), some (.ref 0), some (.ref 56), some (.int x3)] [] M := wpL_ok lawcuts tk_law 60 _ _ _ _ h
set_option maxRecDepth 100000 in
theorem gl_387 {G : GG} {d sb sl : Nat} {xs : Nat → Int32} {nc ns : Nat} {M : PM} {x3 : Int32} (h : vp_in (x3 + (nI 1)) sl ∧ (PC G d m_X8_leaves [.ref 0, .int (xs (x3 + (nI 1)).toNatClampNeg)] M (fun v N1 => gI v (fun r1 => vp_in (x3 + (nI 1)) sl ∧ (PC G d m_X9_leaves [.ref 56, .int (xs (x3 + (nI 1)).toNatClampNeg)] N1 (fun v N2 => gI v (fun r2 => br (r1 = r2)
    (LX G d sb sl xs nc ns 18 [some (.ref 240), some (.ref 0), some (.ref 56), some (.int (x3 + nI 4))] [] N2)
    (([.int (nI 0)] : List Value) = [.int 1])))))))) :
  LX G d sb sl xs nc ns 387 [some (.ref 240), some (.ref 0), some (.ref 56), some (.int x3)] [] M := wpL_ok lawcuts tk_law 60 _ _ _ _ h
set_option maxRecDepth 100000 in
theorem gl_410 {G : GG} {d sb sl : Nat} {xs : Nat → Int32} {nc ns : Nat} {M : PM} {x3 : Int32} (h : vp_in (x3 + (nI 1)) sl ∧ (vp_in (x3 + (nI 2)) sl ∧ (vp_in (x3 + (nI 3)) sl ∧ (PC G d m_X8_lay [.ref 0, .int (xs (x3 + (nI 1)).toNatClampNeg), .int (xs (x3 + (nI 2)).toNatClampNeg), .int (xs (x3 + (nI 3)).toNatClampNeg)] M (fun v N1 => gI v (fun r1 => vp_in (x3 + (nI 1)) sl ∧ (vp_in (x3 + (nI 2)) sl ∧ (vp_in (x3 + (nI 3)) sl ∧ (PC G d m_X9_lay [.ref 56, .int (xs (x3 + (nI 1)).toNatClampNeg), .int (xs (x3 + (nI 2)).toNatClampNeg), .int (xs (x3 + (nI 3)).toNatClampNeg)] N1 (fun v N2 => gI v (fun r2 => br (r1 = r2)
    (LX G d sb sl xs nc ns 18 [some (.ref 240), some (.ref 0), some (.ref 56), some (.int (x3 + nI 4))] [] N2)
    (([.int (nI 0)] : List Value) = [.int 1])))))))))))) :
  LX G d sb sl xs nc ns 410 [some (.ref 240), some (.ref 0), some (.ref 56), some (.int x3)] [] M := wpL_ok lawcuts tk_law 60 _ _ _ _ h
set_option maxRecDepth 100000 in
theorem gl_453 {G : GG} {d sb sl : Nat} {xs : Nat → Int32} {nc ns : Nat} {M : PM} {x3 : Int32} (h : vp_in (x3 + (nI 1)) sl ∧ (PC G d m_X8_take [.ref 0, .int (xs (x3 + (nI 1)).toNatClampNeg)] M (fun v N1 => gI v (fun r1 => vp_in (x3 + (nI 1)) sl ∧ (PC G d m_X9_take [.ref 56, .int (xs (x3 + (nI 1)).toNatClampNeg)] N1 (fun v N2 => gI v (fun r2 => br (r1 = r2)
    (LX G d sb sl xs nc ns 18 [some (.ref 240), some (.ref 0), some (.ref 56), some (.int (x3 + nI 4))] [] N2)
    (([.int (nI 0)] : List Value) = [.int 1])))))))) :
  LX G d sb sl xs nc ns 453 [some (.ref 240), some (.ref 0), some (.ref 56), some (.int x3)] [] M := wpL_ok lawcuts tk_law 60 _ _ _ _ h
set_option maxRecDepth 100000 in
theorem gl_476 {G : GG} {d sb sl : Nat} {xs : Nat → Int32} {nc ns : Nat} {M : PM} {x3 : Int32} (h : vp_in (x3 + (nI 1)) sl ∧ (vp_in (x3 + (nI 2)) sl ∧ (vp_in (x3 + (nI 3)) sl ∧ (PC G d m_X8_ways [.ref 0, .int (xs (x3 + (nI 1)).toNatClampNeg), .int (xs (x3 + (nI 2)).toNatClampNeg), .int (xs (x3 + (nI 3)).toNatClampNeg)] M (fun v N1 => gI v (fun r1 => vp_in (x3 + (nI 1)) sl ∧ (vp_in (x3 + (nI 2)) sl ∧ (vp_in (x3 + (nI 3)) sl ∧ (PC G d m_X9_ways [.ref 56, .int (xs (x3 + (nI 1)).toNatClampNeg), .int (xs (x3 + (nI 2)).toNatClampNeg), .int (xs (x3 + (nI 3)).toNatClampNeg)] N1 (fun v N2 => gI v (fun r2 => br (r1 = r2)
    (LX G d sb sl xs nc ns 18 [some (.ref 240), some (.ref 0), some (.ref 56), some (.int (x3 + nI 4))] [] N2)
    (([.int (nI 0)] : List Value) = [.int 1])))))))))))) :
  LX G d sb sl xs nc ns 476 [some (.ref 240), some (.ref 0), some (.ref 56), some (.int x3)] [] M := wpL_ok lawcuts tk_law 60 _ _ _ _ h
set_option maxRecDepth 100000 in
theorem gl_519 {G : GG} {d sb sl : Nat} {xs : Nat → Int32} {nc ns : Nat} {M : PM} {x3 : Int32} (h : vp_in (x3 + (nI 1)) sl ∧ (vp_in (x3 + (nI 2)) sl ∧ (PC G d m_X8_most [.ref 0, .int (xs (x3 + (nI 1)).toNatClampNeg), .int (xs (x3 + (nI 2)).toNatClampNeg)] M (fun v N1 => gI v (fun r1 => vp_in (x3 + (nI 1)) sl ∧ (vp_in (x3 + (nI 2)) sl ∧ (PC G d m_X9_most [.ref 56, .int (xs (x3 + (nI 1)).toNatClampNeg), .int (xs (x3 + (nI 2)).toNatClampNeg)] N1 (fun v N2 => gI v (fun r2 => br (r1 = r2)
    (LX G d sb sl xs nc ns 18 [some (.ref 240), some (.ref 0), some (.ref 56), some (.int (x3 + nI 4))] [] N2)
    (([.int (nI 0)] : List Value) = [.int 1])))))))))) :
  LX G d sb sl xs nc ns 519 [some (.ref 240), some (.ref 0), some (.ref 56), some (.int x3)] [] M := wpL_ok lawcuts tk_law 60 _ _ _ _ h
set_option maxRecDepth 100000 in
theorem gl_552 {G : GG} {d sb sl : Nat} {xs : Nat → Int32} {nc ns : Nat} {M : PM} {x3 : Int32} (h : vp_in (x3 + (nI 1)) sl ∧ (PC G d m_X8_moves [.ref 0, .int (xs (x3 + (nI 1)).toNatClampNeg)] M (fun v N1 => gI v (fun r1 => vp_in (x3 + (nI 1)) sl ∧ (PC G d m_X9_moves [.ref 56, .int (xs (x3 + (nI 1)).toNatClampNeg)] N1 (fun v N2 => gI v (fun r2 => br (r1 = r2)
    (LX G d sb sl xs nc ns 18 [some (.ref 240), some (.ref 0), some (.ref 56), some (.int (x3 + nI 4))] [] N2)
    (([.int (nI 0)] : List Value) = [.int 1])))))))) :
  LX G d sb sl xs nc ns 552 [some (.ref 240), some (.ref 0), some (.ref 56), some (.int x3)] [] M := wpL_ok lawcuts tk_law 60 _ _ _ _ h
set_option maxRecDepth 100000 in
theorem gl_575 {G : GG} {d sb sl : Nat} {xs : Nat → Int32} {nc ns : Nat} {M : PM} {x3 : Int32} (h : vp_in (x3 + (nI 1)) sl ∧ (vp_in (x3 + (nI 2)) sl ∧ (PC G d m_X8_ballast [.ref 0, .int (xs (x3 + (nI 1)).toNatClampNeg), .int (xs (x3 + (nI 2)).toNatClampNeg)] M (fun v N1 => gI v (fun r1 => vp_in (x3 + (nI 1)) sl ∧ (vp_in (x3 + (nI 2)) sl ∧ (PC G d m_X9_ballast [.ref 56, .int (xs (x3 + (nI 1)).toNatClampNeg), .int (xs (x3 + (nI 2)).toNatClampNeg)] N1 (fun v N2 => gI v (fun r2 => br (r1 = r2)
    (LX G d sb sl xs nc ns 18 [some (.ref 240), some (.ref 0), some (.ref 56), some (.int (x3 + nI 4))] [] N2)
    (([.int (nI 0)] : List Value) = [.int 1])))))))))) :
  LX G d sb sl xs nc ns 575 [some (.ref 240), some (.ref 0), some (.ref 56), some (.int x3)] [] M := wpL_ok lawcuts tk_law 60 _ _ _ _ h
set_option maxRecDepth 100000 in
theorem gl_608 {G : GG} {d sb sl : Nat} {xs : Nat → Int32} {nc ns : Nat} {M : PM} {x3 : Int32} (h : vp_in (x3 + (nI 1)) sl ∧ (vp_in (x3 + (nI 2)) sl ∧ (PC G d m_X8_game [.ref 0, .int (xs (x3 + (nI 1)).toNatClampNeg), .int (xs (x3 + (nI 2)).toNatClampNeg)] M (fun v N1 => gI v (fun r1 => vp_in (x3 + (nI 1)) sl ∧ (vp_in (x3 + (nI 2)) sl ∧ (PC G d m_X9_game [.ref 56, .int (xs (x3 + (nI 1)).toNatClampNeg), .int (xs (x3 + (nI 2)).toNatClampNeg)] N1 (fun v N2 => gI v (fun r2 => br (r1 = r2)
    (LX G d sb sl xs nc ns 18 [some (.ref 240), some (.ref 0), some (.ref 56), some (.int (x3 + nI 4))] [] N2)
    (([.int (nI 0)] : List Value) = [.int 1])))))))))) :
  LX G d sb sl xs nc ns 608 [some (.ref 240), some (.ref 0), some (.ref 56), some (.int x3)] [] M := wpL_ok lawcuts tk_law 60 _ _ _ _ h
set_option maxRecDepth 100000 in
theorem gl_641 {G : GG} {d sb sl : Nat} {xs : Nat → Int32} {nc ns : Nat} {M : PM} {x3 : Int32} (h : vp_in (x3 + (nI 1)) sl ∧ (PC G d m_X8_strangers [.ref 0, .int (xs (x3 + (nI 1)).toNatClampNeg)] M (fun v N1 => gI v (fun r1 => vp_in (x3 + (nI 1)) sl ∧ (PC G d m_X9_strangers [.ref 56, .int (xs (x3 + (nI 1)).toNatClampNeg)] N1 (fun v N2 => gI v (fun r2 => br (r1 = r2)
    (LX G d sb sl xs nc ns 18 [some (.ref 240), some (.ref 0), some (.ref 56), some (.int (x3 + nI 4))] [] N2)
    (([.int (nI 0)] : List Value) = [.int 1])))))))) :
  LX G d sb sl xs nc ns 641 [some (.ref 240), some (.ref 0), some (.ref 56), some (.int x3)] [] M := wpL_ok lawcuts tk_law 60 _ _ _ _ h
set_option maxRecDepth 100000 in
theorem gl_664 {G : GG} {d sb sl : Nat} {xs : Nat → Int32} {nc ns : Nat} {M : PM} {x3 : Int32} (h : vp_in (x3 + (nI 1)) sl ∧ (vp_in (x3 + (nI 2)) sl ∧ (vp_in (x3 + (nI 3)) sl ∧ (PC G d m_X8_trial [.ref 0, .int (xs (x3 + (nI 1)).toNatClampNeg), .int (xs (x3 + (nI 2)).toNatClampNeg), .int (xs (x3 + (nI 3)).toNatClampNeg)] M (fun v N1 => gI v (fun r1 => vp_in (x3 + (nI 1)) sl ∧ (vp_in (x3 + (nI 2)) sl ∧ (vp_in (x3 + (nI 3)) sl ∧ (PC G d m_X9_trial [.ref 56, .int (xs (x3 + (nI 1)).toNatClampNeg), .int (xs (x3 + (nI 2)).toNatClampNeg), .int (xs (x3 + (nI 3)).toNatClampNeg)] N1 (fun v N2 => gI v (fun r2 => br (r1 = r2)
    (LX G d sb sl xs nc ns 18 [some (.ref 240), some (.ref 0), some (.ref 56), some (.int (x3 + nI 4))] [] N2)
    (([.int (nI 0)] : List Value) = [.int 1])))))))))))) :
  LX G d sb sl xs nc ns 664 [some (.ref 240), some (.ref 0), some (.ref 56), some (.int x3)] [] M := wpL_ok lawcuts tk_law 60 _ _ _ _ h
set_option maxRecDepth 100000 in
theorem gl_707 {G : GG} {d sb sl : Nat} {xs : Nat → Int32} {nc ns : Nat} {M : PM} {x3 : Int32} (h : vp_in (x3 + (nI 1)) sl ∧ (vp_in (x3 + (nI 2)) sl ∧ (PC G d m_X8_could [.ref 0, .int (xs (x3 + (nI 1)).toNatClampNeg), .int (xs (x3 + (nI 2)).toNatClampNeg)] M (fun v N1 => gI v (fun r1 => vp_in (x3 + (nI 1)) sl ∧ (vp_in (x3 + (nI 2)) sl ∧ (PC G d m_X9_could [.ref 56, .int (xs (x3 + (nI 1)).toNatClampNeg), .int (xs (x3 + (nI 2)).toNatClampNeg)] N1 (fun v N2 => gI v (fun r2 => br (r1 = r2)
    (LX G d sb sl xs nc ns 18 [some (.ref 240), some (.ref 0), some (.ref 56), some (.int (x3 + nI 4))] [] N2)
    (([.int (nI 0)] : List Value) = [.int 1])))))))))) :
  LX G d sb sl xs nc ns 707 [some (.ref 240), some (.ref 0), some (.ref 56), some (.int x3)] [] M := wpL_ok lawcuts tk_law 60 _ _ _ _ h
set_option maxRecDepth 100000 in
theorem gl_740 {G : GG} {d sb sl : Nat} {xs : Nat → Int32} {nc ns : Nat} {M : PM} {x3 : Int32} (h : vp_in (x3 + (nI 1)) sl ∧ (PC G d m_X8_sure [.ref 0, .int (xs (x3 + (nI 1)).toNatClampNeg)] M (fun v N1 => gI v (fun r1 => vp_in (x3 + (nI 1)) sl ∧ (PC G d m_X9_sure [.ref 56, .int (xs (x3 + (nI 1)).toNatClampNeg)] N1 (fun v N2 => gI v (fun r2 => br (r1 = r2)
    (LX G d sb sl xs nc ns 18 [some (.ref 240), some (.ref 0), some (.ref 56), some (.int (x3 + nI 4))] [] N2)
    (([.int (nI 0)] : List Value) = [.int 1])))))))) :
  LX G d sb sl xs nc ns 740 [some (.ref 240), some (.ref 0), some (.ref 56), some (.int x3)] [] M := wpL_ok lawcuts tk_law 60 _ _ _ _ h
set_option maxRecDepth 100000 in
theorem gl_763 {G : GG} {d sb sl : Nat} {xs : Nat → Int32} {nc ns : Nat} {M : PM} {x3 : Int32} (h : vp_in (x3 + (nI 1)) sl ∧ (PC G d m_X8_next [.ref 0, .int (xs (x3 + (nI 1)).toNatClampNeg)] M (fun v N1 => gI v (fun r1 => vp_in (x3 + (nI 1)) sl ∧ (PC G d m_X9_next [.ref 56, .int (xs (x3 + (nI 1)).toNatClampNeg)] N1 (fun v N2 => gI v (fun r2 => br (r1 = r2)
    (LX G d sb sl xs nc ns 18 [some (.ref 240), some (.ref 0), some (.ref 56), some (.int (x3 + nI 4))] [] N2)
    (([.int (nI 0)] : List Value) = [.int 1])))))))) :
  LX G d sb sl xs nc ns 763 [some (.ref 240), some (.ref 0), some (.ref 56), some (.int x3)] [] M := wpL_ok lawcuts tk_law 60 _ _ _ _ h
set_option maxRecDepth 100000 in
theorem gl_786 {G : GG} {d sb sl : Nat} {xs : Nat → Int32} {nc ns : Nat} {M : PM} {x3 : Int32} (h : vp_in (x3 + (nI 1)) sl ∧ (vp_in (x3 + (nI 2)) sl ∧ (PC G d m_X8_rides [.ref 0, .int (xs (x3 + (nI 1)).toNatClampNeg), .int (xs (x3 + (nI 2)).toNatClampNeg)] M (fun v N1 => gI v (fun r1 => vp_in (x3 + (nI 1)) sl ∧ (vp_in (x3 + (nI 2)) sl ∧ (PC G d m_X9_rides [.ref 56, .int (xs (x3 + (nI 1)).toNatClampNeg), .int (xs (x3 + (nI 2)).toNatClampNeg)] N1 (fun v N2 => gI v (fun r2 => br (r1 = r2)
    (LX G d sb sl xs nc ns 18 [some (.ref 240), some (.ref 0), some (.ref 56), some (.int (x3 + nI 4))] [] N2)
    (([.int (nI 0)] : List Value) = [.int 1])))))))))) :
  LX G d sb sl xs nc ns 786 [some (.ref 240), some (.ref 0), some (.ref 56), some (.int x3)] [] M := wpL_ok lawcuts tk_law 60 _ _ _ _ h
set_option maxRecDepth 100000 in
theorem gl_819 {G : GG} {d sb sl : Nat} {xs : Nat → Int32} {nc ns : Nat} {M : PM} {x3 : Int32} (h : PC G d m_X8_forever [.ref 0] M (fun v N1 => gI v (fun r1 => PC G d m_X9_forever [.ref 56] N1 (fun v N2 => gI v (fun r2 => br (r1 = r2)
    (LX G d sb sl xs nc ns 18 [some (.ref 240), some (.ref 0), some (.ref 56), some (.int (x3 + nI 4))] [] N2)
    (([.int (nI 0)] : List Value) = [.int 1])))))) :
  LX G d sb sl xs nc ns 819 [some (.ref 240), some (.ref 0), some (.ref 56), some (.int x3)] [] M := wpL_ok lawcuts tk_law 60 _ _ _ _ h
set_option maxRecDepth 100000 in
theorem gl_832 {G : GG} {d sb sl : Nat} {xs : Nat → Int32} {nc ns : Nat} {M : PM} {x3 : Int32} (h : vp_in (x3 + (nI 1)) sl ∧ (vp_in (x3 + (nI 2)) sl ∧ (PC G d m_X8_rate [.ref 0, .int (xs (x3 + (nI 1)).toNatClampNeg), .int (xs (x3 + (nI 2)).toNatClampNeg)] M (fun v N1 => gI v (fun r1 => vp_in (x3 + (nI 1)) sl ∧ (vp_in (x3 + (nI 2)) sl ∧ (PC G d m_X9_rate [.ref 56, .int (xs (x3 + (nI 1)).toNatClampNeg), .int (xs (x3 + (nI 2)).toNatClampNeg)] N1 (fun v N2 => gI v (fun r2 => br (r1 = r2)
    (LX G d sb sl xs nc ns 18 [some (.ref 240), some (.ref 0), some (.ref 56), some (.int (x3 + nI 4))] [] N2)
    (([.int (nI 0)] : List Value) = [.int 1])))))))))) :
  LX G d sb sl xs nc ns 832 [some (.ref 240), some (.ref 0), some (.ref 56), some (.int x3)] [] M := wpL_ok lawcuts tk_law 60 _ _ _ _ h
set_option maxRecDepth 100000 in
theorem gl_865 {G : GG} {d sb sl : Nat} {xs : Nat → Int32} {nc ns : Nat} {M : PM} {x3 : Int32} (h : vp_in (x3 + (nI 1)) sl ∧ (PC G d m_X8_keep [.ref 0, .int (xs (x3 + (nI 1)).toNatClampNeg)] M (fun v N1 => gI v (fun r1 => vp_in (x3 + (nI 1)) sl ∧ (PC G d m_X9_keep [.ref 56, .int (xs (x3 + (nI 1)).toNatClampNeg)] N1 (fun v N2 => gI v (fun r2 => br (r1 = r2)
    (LX G d sb sl xs nc ns 18 [some (.ref 240), some (.ref 0), some (.ref 56), some (.int (x3 + nI 4))] [] N2)
    (([.int (nI 0)] : List Value) = [.int 1])))))))) :
  LX G d sb sl xs nc ns 865 [some (.ref 240), some (.ref 0), some (.ref 56), some (.int x3)] [] M := wpL_ok lawcuts tk_law 60 _ _ _ _ h
set_option maxRecDepth 100000 in
theorem gl_888 {G : GG} {d sb sl : Nat} {xs : Nat → Int32} {nc ns : Nat} {M : PM} {x3 : Int32} (h : vp_in (x3 + (nI 1)) sl ∧ (PC G d m_X8_back [.ref 0, .int (xs (x3 + (nI 1)).toNatClampNeg)] M (fun v N1 => gI v (fun r1 => vp_in (x3 + (nI 1)) sl ∧ (PC G d m_X9_back [.ref 56, .int (xs (x3 + (nI 1)).toNatClampNeg)] N1 (fun v N2 => gI v (fun r2 => br (r1 = r2)
    (LX G d sb sl xs nc ns 18 [some (.ref 240), some (.ref 0), some (.ref 56), some (.int (x3 + nI 4))] [] N2)
    (([.int (nI 0)] : List Value) = [.int 1])))))))) :
  LX G d sb sl xs nc ns 888 [some (.ref 240), some (.ref 0), some (.ref 56), some (.int x3)] [] M := wpL_ok lawcuts tk_law 60 _ _ _ _ h
set_option maxRecDepth 100000 in
theorem gl_911 {G : GG} {d sb sl : Nat} {xs : Nat → Int32} {nc ns : Nat} {M : PM} {x3 : Int32} (h : vp_in (x3 + (nI 1)) sl ∧ (PC G d m_X8_count [.ref 0, .int (xs (x3 + (nI 1)).toNatClampNeg)] M (fun v N1 => gI v (fun r1 => vp_in (x3 + (nI 1)) sl ∧ (PC G d m_X9_count [.ref 56, .int (xs (x3 + (nI 1)).toNatClampNeg)] N1 (fun v N2 => gI v (fun r2 => br (r1 = r2)
    (LX G d sb sl xs nc ns 18 [some (.ref 240), some (.ref 0), some (.ref 56), some (.int (x3 + nI 4))] [] N2)
    (([.int (nI 0)] : List Value) = [.int 1])))))))) :
  LX G d sb sl xs nc ns 911 [some (.ref 240), some (.ref 0), some (.ref 56), some (.int x3)] [] M := wpL_ok lawcuts tk_law 60 _ _ _ _ h
set_option maxRecDepth 100000 in
theorem gl_934 {G : GG} {d sb sl : Nat} {xs : Nat → Int32} {nc ns : Nat} {M : PM} {x3 : Int32} (h : PC G d m_X8_trace [.ref 0] M (fun v N1 => gL v (fun r1 => PC G d m_X9_trace [.ref 56] N1 (fun v N2 => gL v (fun r2 => br ((lg_cmp r1 r2) = 0)
    (LX G d sb sl xs nc ns 18 [some (.ref 240), some (.ref 0), some (.ref 56), some (.int (x3 + nI 4))] [] N2)
    (([.int (nI 0)] : List Value) = [.int 1])))))) :
  LX G d sb sl xs nc ns 934 [some (.ref 240), some (.ref 0), some (.ref 56), some (.int x3)] [] M := wpL_ok lawcuts tk_law 60 _ _ _ _ h
end
section
def m_X0_init : Mth := (0, ⟨"SeesawPark$Contest", "<init>", "()V"⟩, prog_2_method_1_code, 1, none, false, 0)
theorem ic_X0_init : mcode m_X0_init ∈ gw := (gt1 (i := 208) rfl rfl)
theorem ii_X0_init : Cond.instanceMethod m_X0_init.2.1 ∈ gw := (gt1 (i := 207) rfl rfl)
def m_X1_init : Mth := (1, ⟨"SeesawPark$Crowd", "<init>", "()V"⟩, prog_3_method_1_code, 1, none, false, 0)
theorem ic_X1_init : mcode m_X1_init ∈ gw := (gt1 (i := 197) rfl rfl)
theorem ii_X1_init : Cond.instanceMethod m_X1_init.2.1 ∈ gw := (gt1 (i := 196) rfl rfl)
def m_X2_init : Mth := (2, ⟨"SeesawPark$Queue", "<init>", "(LSeesawPark$Roster;)V"⟩, prog_4_method_1_code, 2, none, false, 1)
theorem ic_X2_init : mcode m_X2_init ∈ gw := (gt2 (i := 29) rfl rfl)
theorem ii_X2_init : Cond.instanceMethod m_X2_init.2.1 ∈ gw := (gt2 (i := 28) rfl rfl)
def m_X3_init : Mth := (3, ⟨"SeesawPark$Roster", "<init>", "()V"⟩, prog_5_method_1_code, 1, none, false, 0)
theorem ic_X3_init : mcode m_X3_init ∈ gw := (gt1 (i := 31) rfl rfl)
theorem ii_X3_init : Cond.instanceMethod m_X3_init.2.1 ∈ gw := (gt1 (i := 30) rfl rfl)
def m_X4_init : Mth := (4, ⟨"SeesawPark$Scene", "<init>", "(LSeesawPark$Roster;)V"⟩, prog_6_method_1_code, 2, none, false, 1)
theorem ic_X4_init : mcode m_X4_init ∈ gw := (gt1 (i := 94) rfl rfl)
theorem ii_X4_init : Cond.instanceMethod m_X4_init.2.1 ∈ gw := (gt1 (i := 93) rfl rfl)
def m_X5_init : Mth := (5, ⟨"SeesawPark$Seating", "<init>", "()V"⟩, prog_7_method_1_code, 1, none, false, 0)
theorem ic_X5_init : mcode m_X5_init ∈ gw := (gt1 (i := 160) rfl rfl)
theorem ii_X5_init : Cond.instanceMethod m_X5_init.2.1 ∈ gw := (gt1 (i := 159) rfl rfl)
def m_X6_init : Mth := (6, ⟨"SeesawPark$Told", "<init>", "()V"⟩, prog_8_method_1_code, 1, none, false, 0)
theorem ic_X6_init : mcode m_X6_init ∈ gw := (gt1 (i := 127) rfl rfl)
theorem ii_X6_init : Cond.instanceMethod m_X6_init.2.1 ∈ gw := (gt1 (i := 126) rfl rfl)
def m_X7_init : Mth := (7, ⟨"SeesawPark$Weighing", "<init>", "()V"⟩, prog_9_method_1_code, 1, none, false, 0)
theorem ic_X7_init : mcode m_X7_init ∈ gw := (gt1 (i := 230) rfl rfl)
theorem ii_X7_init : Cond.instanceMethod m_X7_init.2.1 ∈ gw := (gt1 (i := 229) rfl rfl)
def m_X8_init : Mth := (8, ⟨"SeesawPark", "<init>", "()V"⟩, prog_1_method_1_code, 1, none, false, 0)
theorem ic_X8_init : mcode m_X8_init ∈ gw := (gt1 (i := 23) rfl rfl)
theorem ii_X8_init : Cond.instanceMethod m_X8_init.2.1 ∈ gw := (gt1 (i := 22) rfl rfl)
def m_X9_init : Mth := (9, ⟨"SeesawParkModel", "<init>", "()V"⟩, prog_11_method_1_code, 1, none, false, 0)
theorem ic_X9_init : mcode m_X9_init ∈ gw := (gt4 (i := 162) rfl rfl)
theorem ii_X9_init : Cond.instanceMethod m_X9_init.2.1 ∈ gw := (gt4 (i := 161) rfl rfl)
theorem oi_c : Cond.code Lib.objectInit ⟨#[0xb1]⟩ 1 none ∈ gw := (gt1 (i := 26) rfl rfl)
theorem oi_i : Cond.instanceMethod Lib.objectInit ∈ gw := (gt1 (i := 25) rfl rfl)
theorem ar_0 : Cond.arrayClass .int ∈ gw := (gt1 (i := 89) rfl rfl)
theorem ar_1 : Cond.arrayClass .boolean ∈ gw := (gt5 (i := 40) rfl rfl)
theorem ar_2 : Cond.arrayClass .long ∈ gw := (gt1 (i := 203) rfl rfl)
theorem ol_8 : Cond.methodLink "SeesawPark" 3 Lib.objectInit ∈ gw := (gt1 (i := 24) rfl rfl)
theorem ol_3 : Cond.methodLink "SeesawPark$Roster" 3 Lib.objectInit ∈ gw := (gt1 (i := 32) rfl rfl)
theorem ol_4 : Cond.methodLink "SeesawPark$Scene" 3 Lib.objectInit ∈ gw := (gt1 (i := 95) rfl rfl)
theorem ol_6 : Cond.methodLink "SeesawPark$Told" 3 Lib.objectInit ∈ gw := (gt1 (i := 128) rfl rfl)
theorem ol_5 : Cond.methodLink "SeesawPark$Seating" 3 Lib.objectInit ∈ gw := (gt1 (i := 161) rfl rfl)
theorem ol_1 : Cond.methodLink "SeesawPark$Crowd" 5 Lib.objectInit ∈ gw := (gt1 (i := 198) rfl rfl)
theorem ol_0 : Cond.methodLink "SeesawPark$Contest" 3 Lib.objectInit ∈ gw := (gt1 (i := 209) rfl rfl)
theorem ol_7 : Cond.methodLink "SeesawPark$Weighing" 1 Lib.objectInit ∈ gw := (gt1 (i := 231) rfl rfl)
theorem ol_2 : Cond.methodLink "SeesawPark$Queue" 3 Lib.objectInit ∈ gw := (gt2 (i := 30) rfl rfl)
theorem ol_9 : Cond.methodLink "SeesawParkModel" 1 Lib.objectInit ∈ gw := (gt4 (i := 163) rfl rfl)
theorem pl_L_9 : Cond.methodLink "SeesawParkLaw" 9 m_X8_init.2.1 ∈ gw := (gt1 (i := 21) rfl rfl)
theorem pl_8_18 : Cond.methodLink "SeesawPark" 18 m_X4_init.2.1 ∈ gw := (gt1 (i := 92) rfl rfl)
theorem pl_8_61 : Cond.methodLink "SeesawPark" 61 m_X7_init.2.1 ∈ gw := (gt1 (i := 228) rfl rfl)
theorem pl_8_68 : Cond.methodLink "SeesawPark" 68 m_X2_init.2.1 ∈ gw := (gt2 (i := 27) rfl rfl)
theorem pl_L_12 : Cond.methodLink "SeesawParkLaw" 12 m_X9_init.2.1 ∈ gw := (gt4 (i := 160) rfl rfl)
theorem cl_L_7 : Cond.classLink "SeesawParkLaw" 7 "SeesawPark" ∈ gw := (gt1 (i := 19) rfl rfl)
theorem cl_8_9 : Cond.classLink "SeesawPark" 9 "SeesawPark$Roster" ∈ gw := (gt1 (i := 27) rfl rfl)
theorem cl_8_16 : Cond.classLink "SeesawPark" 16 "SeesawPark$Scene" ∈ gw := (gt1 (i := 90) rfl rfl)
theorem cl_8_31 : Cond.classLink "SeesawPark" 31 "SeesawPark$Told" ∈ gw := (gt1 (i := 123) rfl rfl)
theorem cl_6_9 : Cond.classLink "SeesawPark$Told" 9 "SeesawPark$Roster" ∈ gw := (gt1 (i := 129) rfl rfl)
theorem cl_8_38 : Cond.classLink "SeesawPark" 38 "SeesawPark$Seating" ∈ gw := (gt1 (i := 156) rfl rfl)
theorem cl_8_45 : Cond.classLink "SeesawPark" 45 "SeesawPark$Crowd" ∈ gw := (gt1 (i := 193) rfl rfl)
theorem cl_8_52 : Cond.classLink "SeesawPark" 52 "SeesawPark$Contest" ∈ gw := (gt1 (i := 204) rfl rfl)
theorem cl_8_59 : Cond.classLink "SeesawPark" 59 "SeesawPark$Weighing" ∈ gw := (gt1 (i := 226) rfl rfl)
theorem cl_8_66 : Cond.classLink "SeesawPark" 66 "SeesawPark$Queue" ∈ gw := (gt2 (i := 25) rfl rfl)
theorem cl_L_10 : Cond.classLink "SeesawParkLaw" 10 "SeesawParkModel" ∈ gw := (gt4 (i := 158) rfl rfl)
theorem in_8 : Cond.instantiable "SeesawPark" 11 ∈ gw := (gt1 (i := 20) rfl rfl)
theorem in_3 : Cond.instantiable "SeesawPark$Roster" 8 ∈ gw := (gt1 (i := 28) rfl rfl)
theorem in_4 : Cond.instantiable "SeesawPark$Scene" 7 ∈ gw := (gt1 (i := 91) rfl rfl)
theorem in_6 : Cond.instantiable "SeesawPark$Told" 7 ∈ gw := (gt1 (i := 124) rfl rfl)
theorem in_5 : Cond.instantiable "SeesawPark$Seating" 10 ∈ gw := (gt1 (i := 157) rfl rfl)
theorem in_1 : Cond.instantiable "SeesawPark$Crowd" 1 ∈ gw := (gt1 (i := 194) rfl rfl)
theorem in_0 : Cond.instantiable "SeesawPark$Contest" 5 ∈ gw := (gt1 (i := 205) rfl rfl)
theorem in_7 : Cond.instantiable "SeesawPark$Weighing" 10 ∈ gw := (gt1 (i := 227) rfl rfl)
theorem in_2 : Cond.instantiable "SeesawPark$Queue" 6 ∈ gw := (gt2 (i := 26) rfl rfl)
theorem in_9 : Cond.instantiable "SeesawParkModel" 36 ∈ gw := (gt4 (i := 159) rfl rfl)
def nestl : List (String × Nat × MethodName) := [("SeesawPark", 11, m_X3_init.2.1), ("SeesawPark", 33, m_X6_init.2.1), ("SeesawPark$Told", 11, m_X3_init.2.1), ("SeesawPark", 40, m_X5_init.2.1), ("SeesawPark", 47, m_X1_init.2.1), ("SeesawPark", 54, m_X0_init.2.1)]
abbrev PE : Type := (Nat × Nat) ⊕ (Nat × List Value)
abbrev ZZ : Type := List PE × Nat × Nat
abbrev KC : Type := Nat → List (Option Value) → List Value → ZZ → Prop
def pec (ad : Nat → Nat) (cA : Nat → ClassId) : PE → va_E
  | .inl (t, n) => .inl (cA t, n, if t = 2 then .inr (.inl (fun _ => 0)) else .inl (fun _ => 0))
  | .inr (ci, fs) => .inr (ci, fs.map (cv ad))
def cws (ad : Nat → Nat) (cA : Nat → ClassId) (ws : List PE) : va_W := ws.zipIdx.map (fun p => (ad p.2, pec ad cA p.1))
def CW (G : GG) (h0 : Nat) (ws : List PE) (H : Heap) : Prop := va_P G.2.1 cls (cws G.2.2.2 G.2.2.1 ws) H ∧ H.size = h0 + ws.length ∧ ws.length ≤ 75
def NF (G : GG) (h0 : Nat) (s : State) : Prop := (∀ i, i < 75 → G.2.2.2 i = h0 + i) ∧ ∀ q ∈ nestl, va_Nw (.methodLinkNest q.1 q.2.1 q.2.2 "SeesawPark") s
def WKC (G : GG) (h0 : Nat) (s : State) (meth : Method) : Prop := WK G s ∧ NF G h0 s ∧ meth.name = "<init>"
theorem NF.move {G : GG} {h0 : Nat} {s U : State} (h : NF G h0 s) (hW : s.WarmedH U.vm) : NF G h0 U := ⟨h.1, fun q hq => (h.2 q hq).warmM hW⟩
theorem NF.blind {G : GG} {h0 : Nat} {U : State} {g : JFrame} {mk : MethodId} {a : Array Value} (h : NF G h0 U) : NF G h0 (U.calling g mk a) := ⟨h.1, fun q hq => va_Nw.same rfl (u := U) rfl (h.2 q hq)⟩
def rmc (d mc ms : Nat) : Room := { frames := d, cells := mc, slots := ms, locals := 64 * d }
def Qcc (G : GG) (Q : Heap → Prop) : Array Value → State → Outcome → State → Prop := fun _ st o t => (o = .returned none ∧ Q t.heap) ∧ va_F (AA G.2.2.2) st t
def mokI (μ : Mth) : Prop := mcode μ ∈ gw ∧ Cond.initialized μ.2.1.cls ∈ gw ∧ nmo μ.1 = μ.2.1.cls ∧ (μ.2.1.cls ≠ "java/lang/invoke/MethodHandle" ∧ μ.2.1.cls ≠ "java/lang/invoke/VarHandle" ∧ (parseMethodDescriptor μ.2.1.desc).map (fun d => d.parameters.length) = some μ.2.2.2.2.2.2) ∧ μ.2.2.2.1 ≤ 30 ∧ plainName μ.2.1.cls = true ∧ Cond.instanceMethod μ.2.1 ∈ gw ∧ μ.2.1.name = "<init>" ∧ μ.2.2.2.2.1 = none
def PCc (G : GG) (h0 d : Nat) (μ : Mth) (mc ms : Nat) (args : List Value) (ws : List PE) (Q : Heap → Prop) : Prop :=
  mokI μ ∧ Met G.1 μ.2.1 (mcode μ :: gw) (rmc d mc ms) (va_Pc (args.map (cv G.2.2.2)) (fun U => WK G U ∧ NF G h0 U ∧ CW G h0 ws U.heap)) (Qcc G Q) mc ms (AA G.2.2.2)
def PY (G : GG) (h0 d : Nat) (μ : Mth) (mc ms : Nat) (Q : Heap → Prop) (pc : Nat) (L : List (Option Value)) (st : List Value) (M : ZZ) : Prop :=
  ∀ (p : Program) (e : Env) (s : State) (m : MethodId) (args : Array Value) (below : List Frame) (meth : Method) (c : Code) (H : Heap) (locs : List Loc) (ls : Array Slot),
    p.tables.exec = Jvm.exec → c.code = μ.2.2.1 → c.maxLocals = μ.2.2.2.1 → meth.sig.returnType = μ.2.2.2.2.1 → meth.locks = false → s.vm.findClass (nmo μ.1) = some m.cls → (∀ w ∈ gw, w.before args s = true) → WKC G h0 s meth → CW G h0 M.1 H → va_S (AA G.2.2.2) s.heap H locs → lvH G.2.2.2 ls μ.2.2.2.1 L →
    W p G.1 e (rmc (d + 1) mc ms) s m args below meth c H locs M.2.1 M.2.2 (MQ below (Qcc G Q) args s mc ms (AA G.2.2.2)) (F0 m pc ls (st.map (cv G.2.2.2)))
def HY (G : GG) (h0 d : Nat) (μ : Mth) (mc ms : Nat) (Q : Heap → Prop) (K : KC) : Prop := ∀ pc L st M, K pc L st M → PY G h0 d μ mc ms Q pc L st M
theorem cws_get {ad : Nat → Nat} {cA : Nat → ClassId} {ws : List PE} {i : Nat} {e : PE} (h : ws[i]? = some e) : (cws ad cA ws)[i]? = some (ad i, pec ad cA e) := by
  simp [cws, List.getElem?_map, List.getElem?_zipIdx, h]
theorem cws_some {ad : Nat → Nat} {cA : Nat → ClassId} {ws : List PE} {k : Nat} {q : Nat × va_E} (h : (cws ad cA ws)[k]? = some q) : ∃ e, ws[k]? = some e ∧ q = (ad k, pec ad cA e) := by
  cases hs : ws[k]? with
  | none => simp [cws, List.getElem?_map, List.getElem?_zipIdx, hs] at h
  | some sh => rw [cws_get hs] at h; exact ⟨sh, rfl, (Option.some.inj h).symm⟩
theorem cws_len {ad : Nat → Nat} {cA : Nat → ClassId} {ws : List PE} : (cws ad cA ws).length = ws.length := by simp [cws]
theorem cws_push {ad : Nat → Nat} {cA : Nat → ClassId} {ws : List PE} {e : PE} : cws ad cA (ws ++ [e]) = cws ad cA ws ++ [(ad ws.length, pec ad cA e)] := by
  simp [cws, List.zipIdx_append]
theorem cws_set {ad : Nat → Nat} {cA : Nat → ClassId} {ws : List PE} {i : Nat} {e : PE} : (cws ad cA ws).set i (ad i, pec ad cA e) = cws ad cA (ws.set i e) := by
  apply List.ext_getElem?
  intro j
  rw [List.getElem?_set]
  by_cases hj : i = j
  · subst hj
    rw [if_pos rfl, cws_len]
    by_cases hi : i < ws.length
    · rw [if_pos hi, cws_get (e := e) (by rw [List.getElem?_set]; simp [hi])]
    · rw [if_neg hi]
      rw [List.getElem?_eq_none_iff.mpr]
      rw [cws_len, List.length_set]; omega
  · rw [if_neg hj]
    cases hs : ws[j]? with
    | none =>
      have : ws.length ≤ j := List.getElem?_eq_none_iff.mp hs
      rw [List.getElem?_eq_none_iff.mpr (by rw [cws_len]; exact this), List.getElem?_eq_none_iff.mpr (by rw [cws_len, List.length_set]; exact this)]
    | some sj => rw [cws_get hs, cws_get (by rw [List.getElem?_set, if_neg hj]; exact hs)]
theorem cws_D {G : GG} {h0 : Nat} {s : State} {ws : List PE} (hn : NF G h0 s) (hl : ws.length ≤ 75) : va_D (AA G.2.2.2) (cws G.2.2.2 G.2.2.1 ws) := by
  have lt : ∀ {i : Nat} {e : PE}, ws[i]? = some e → i < 75 := fun h => Nat.lt_of_lt_of_le (List.getElem?_eq_some_iff.mp h).1 hl
  refine ⟨fun i j p q hp hq e => ?_, fun k q hk => ?_⟩
  · obtain ⟨s1, a1, rfl⟩ := cws_some hp
    obtain ⟨s2, a2, rfl⟩ := cws_some hq
    have e : G.2.2.2 i = G.2.2.2 j := e
    rw [hn.1 i (lt a1), hn.1 j (lt a2)] at e
    omega
  · obtain ⟨s1, a1, rfl⟩ := cws_some hk
    exact ⟨k, lt a1, rfl⟩
theorem PCc.of {G : GG} {h0 d : Nat} {μ : Mth} {mc ms : Nat} {av : List Value} {ws : List PE} {Q : Heap → Prop} (hm : mokI μ) (hlen : (entL av).length ≤ μ.2.2.2.1) (h : PY G h0 d μ mc ms Q 0 (entL av ++ List.replicate (μ.2.2.2.1 - (entL av).length) none) [] (ws, 0, 0)) : PCc G h0 (d + 1) μ mc ms av ws Q := by
  refine ⟨hm, Met.ofW (cc := μ.2.2.1) (maxL := μ.2.2.2.1) (ret := μ.2.2.2.2.1) (ws' := gw) hm.2.2.2.2.2.1 rfl ?_⟩
  intro p e s m args below meth c s₁ B hml hv
  obtain ⟨rfl, hWK, hN, hP⟩ := hv
  have hts := atoms_spec (ws := mcode μ :: gw) B.pre
  have hl := lv_entry (av.map (cv G.2.2.2)) (n := μ.2.2.2.1) (by rw [entL_len]; exact hlen)
  have hin : meth.name = "<init>" := by rw [(name_of_methodNamed B.named B.method).1]; exact hm.2.2.2.2.2.2.2.1
  rw [lg_entry_eq]
  refine h p e s m _ below meth c s.heap [] _ B.exec B.bytes hml B.returns B.notSynchronized ?_ (fun w hw => hts w (List.mem_cons_of_mem _ hw)) ⟨hWK, hN, hin⟩ hP va_S.rf ⟨hl.1, hl.2.1, fun i v hv => ?_⟩
  · rw [hm.2.2.1]; exact findClass_of_methodNamed B.named
  · have h1 := entL_args G.2.2.2 av 0 i v (lg_pad hv)
    rw [Nat.zero_add] at h1
    exact hl.2.2 _ h1
section Z1
variable {G : GG} {h0 d : Nat} {μ : Mth} {mc ms : Nat} {Q : Heap → Prop} {pc : Nat} {L : List (Option Value)} {st : List Value} {M : ZZ}
theorem z_iconst {K : KC} (hK : HY G h0 d μ mc ms Q K) {n : Int} {kv : Int32} (hv : Int32.ofInt n = kv) (hd : decode μ.2.2.1 pc = .ok (.iconst n, 1)) (h : K (pc + 1) L (.int kv :: st) M) : PY G h0 d μ mc ms Q pc L st M := by
  intro p e s m args below meth c H locs ls hx hb hml hr hk hown hts hW hP hS hl
  exact lv_iconst hx hb hd hv (hK _ _ _ _ h p e s m args below meth c H locs ls hx hb hml hr hk hown hts hW hP hS hl)
theorem z_bipush {K : KC} (hK : HY G h0 d μ mc ms Q K) {n : Int} {kv : Int32} (hv : (Int8.ofInt n).toInt32 = kv) (hd : decode μ.2.2.1 pc = .ok (.bipush n, 2)) (h : K (pc + 2) L (.int kv :: st) M) : PY G h0 d μ mc ms Q pc L st M := by
  intro p e s m args below meth c H locs ls hx hb hml hr hk hown hts hW hP hS hl
  exact lv_bipush hx hb hd hv (hK _ _ _ _ h p e s m args below meth c H locs ls hx hb hml hr hk hown hts hW hP hS hl)
theorem z_sipush {K : KC} (hK : HY G h0 d μ mc ms Q K) {n : Int} {kv : Int32} (hv : (Int16.ofInt n).toInt32 = kv) (hd : decode μ.2.2.1 pc = .ok (.sipush n, 3)) (h : K (pc + 3) L (.int kv :: st) M) : PY G h0 d μ mc ms Q pc L st M := by
  intro p e s m args below meth c H locs ls hx hb hml hr hk hown hts hW hP hS hl
  exact lv_sipush hx hb hd hv (hK _ _ _ _ h p e s m args below meth c H locs ls hx hb hml hr hk hown hts hW hP hS hl)
theorem z_lconst {K : KC} (hK : HY G h0 d μ mc ms Q K) {k : Fin 2} (hd : decode μ.2.2.1 pc = .ok (.lconst k, 1)) (h : K (pc + 1) L (.long (Int64.ofNat (k : Nat)) :: st) M) : PY G h0 d μ mc ms Q pc L st M := by
  intro p e s m args below meth c H locs ls hx hb hml hr hk hown hts hW hP hS hl
  exact lv_lconst hx hb hd rfl (hK _ _ _ _ h p e s m args below meth c H locs ls hx hb hml hr hk hown hts hW hP hS hl)
theorem z_aload_n {K : KC} (hK : HY G h0 d μ mc ms Q K) {k : Fin 4} (hd : decode μ.2.2.1 pc = .ok (.aload_n k, 1)) (h : gR (lg L (k : Nat)) (fun x => K (pc + 1) L (.ref x :: st) M)) : PY G h0 d μ mc ms Q pc L st M := by
  intro p e s m args below meth c H locs ls hx hb hml hr hk hown hts hW hP hS hl
  obtain ⟨x, e1, h1⟩ := gR_inv h
  exact lv_aload_n hx hb hd rfl (hl.2.2 _ _ e1) (hK _ _ _ _ h1 p e s m args below meth c H locs ls hx hb hml hr hk hown hts hW hP hS hl)
theorem z_dup {K : KC} (hK : HY G h0 d μ mc ms Q K) (hd : decode μ.2.2.1 pc = .ok (.dup, 1)) (h : dp1 st (fun v r => K (pc + 1) L (v :: v :: r) M)) : PY G h0 d μ mc ms Q pc L st M := by
  intro p e s m args below meth c H locs ls hx hb hml hr hk hown hts hW hP hS hl
  obtain ⟨v, r, rfl, hc, h1⟩ := dp1_inv h
  exact lv_dup hx hb hd (by rw [cv_cat]; exact hc) (hK _ _ _ _ h1 p e s m args below meth c H locs ls hx hb hml hr hk hown hts hW hP hS hl)
theorem z_return (hd : decode μ.2.2.1 pc = .ok (.return_, 1)) (hn : μ.2.2.2.2.1 = none) (h : (∀ H, CW G h0 M.1 H → Q H) ∧ M.2.1 ≤ mc ∧ M.2.2 ≤ ms) (hst : st = []) : PY G h0 d μ mc ms Q pc L st M := by
  intro p e s m args below meth c H locs ls hx hb hml hr hk hown hts hW hP hS hl
  subst hst
  rw [hn] at hr
  refine W.widen (k := mc) (n := ms) h.2.1 h.2.2 ?_
  exact W.vret hx hb hr (fun t ht hw => ⟨⟨rfl, by rw [ht]; exact h.1 H hP⟩, hS.F ht⟩) hS.2.2 hd (hlocks := hk)
def dvl (ci : Nat) : List Value := (List.range (fcl ci).2.2).map (fun k => defaultValue (kty ci k))
theorem dv_cv (ad : Nat → Nat) (ty : FieldType) : cv ad (defaultValue ty) = defaultValue ty := by cases ty <;> rfl
theorem z_new {K : KC} (hK : HY G h0 d μ mc ms Q K) {idx ci : Nat} (hci : ci < 10) (hcl : Cond.classLink (nmo μ.1) idx (fcl ci).1 ∈ gw) (hin : Cond.instantiable (fcl ci).1 (fcl ci).2.2 ∈ gw) (hini : Cond.initialized (fcl ci).1 ∈ gw) (hd : decode μ.2.2.1 pc = .ok (.new idx, 3)) (hlt : M.1.length < 75) (hcc : M.2.1 + 1 ≤ mc) (hss : M.2.2 + (fcl ci).2.2 ≤ ms) (h : K (pc + 3) L (.ref M.1.length :: st) (M.1 ++ [.inr (ci, dvl ci)], M.2.1 + 1, M.2.2 + (fcl ci).2.2)) : PY G h0 d μ mc ms Q pc L st M := by
  intro p e s m args below meth c H locs ls hx hb hml hr hk hown hts hW hP hS hl
  have hKn := hW.1.1.1 ci _ (fcl_get hci)
  refine W.newcK (n := (fcl ci).2.2) hx hb hown (hts _ hcl) (hts _ hin) (hts _ hini) rfl hd hcc hss hKn.2.1 hP.2.1 fun H1 kC hkC e1 z1 o1 => ?_
  have hk2 : ∀ (k : Nat) (x : Nat × va_E), (cws G.2.2.2 G.2.2.1 M.1)[k]? = some x → H1[x.1]? = H[x.1]? := fun k x hq => o1 x.1 (by have := (hP.1 k x hq).lt; rw [hP.2.1] at this; exact this)
  have ha : G.2.2.2 M.1.length = h0 + M.1.length := hW.2.1.1 _ hlt
  have hP1 : CW G h0 (M.1 ++ [.inr (ci, dvl ci)]) H1 := by
    refine ⟨?_, by rw [z1, List.length_append]; simp; omega, by rw [List.length_append]; simp; omega⟩
    rw [cws_push]
    refine (hP.1.kept hk2).app (fun k x hq => ?_)
    have hz : k < 1 := (List.getElem?_eq_some_iff.mp hq).1
    rw [show k = 0 by omega] at hq
    cases hq
    rw [ha]
    refine ⟨_, fcl_get hci, (u_born (kty ci) hts (lay_ok ci hci) hKn hkC e1 (kty_ok ci hci)).to (fun j hj => ?_)⟩
    have hj2 : (dvl ci)[j]? = some (defaultValue (kty ci j)) := by simp [dvl, List.getElem?_map, List.getElem?_range hj]
    simp [vp_V, List.getElem?_map, hj2, dv_cv]
  have hS1 : va_S (AA G.2.2.2) s.heap H1 locs := ⟨Nat.le_trans hS.1 (by rw [z1, hP.2.1]; omega), fun x h1 h2 => (o1 x (by have := Nat.lt_of_lt_of_le h1 hS.1; rw [hP.2.1] at this; exact this)).trans (hS.2.1 x h1 h2), hS.2.2⟩
  have h9 := hK _ _ _ _ h p e s m args below meth c H1 locs ls hx hb hml hr hk hown hts hW hP1 hS1 hl
  rw [List.map_cons] at h9
  show W p G.1 e _ s m args below meth c H1 locs _ _ _ (F0 m (pc + 3) ls (.ref (h0 + M.1.length) :: st.map (cv G.2.2.2)))
  rw [← ha]
  exact h9
def aty (t : Nat) : FieldType := if t = 0 then .int else if t = 1 then .boolean else .long
def aat (t : Nat) : ArrayType := if t = 0 then .int else if t = 1 then .boolean else .long
theorem z_newarray {K : KC} (hK : HY G h0 d μ mc ms Q K) {t n : Nat} (ht : t ≤ 2) (hn : n ≤ 100000) (hd : decode μ.2.2.1 pc = .ok (.newarray (aat t), 2)) (hlt : M.1.length < 75) (hcc : M.2.1 + 1 ≤ mc) (hss : M.2.2 + n ≤ ms) (h : K (pc + 2) L (.ref M.1.length :: st) (M.1 ++ [.inl (t, n)], M.2.1 + 1, M.2.2 + n)) : PY G h0 d μ mc ms Q pc L (.int (nI n) :: st) M := by
  intro p e s m args below meth c H locs ls hx hb hml hr hk hown hts hW hP hS hl
  have hty : newarray.typeOf (aat t) = aty t := by
    match t, ht with
    | 0, _ => rfl
    | 1, _ => rfl
    | 2, _ => rfl
    | k + 3, h => omega
  have hw : Cond.arrayClass (aty t) ∈ gw := by
    match t, ht with
    | 0, _ => exact ar_0
    | 1, _ => exact ar_1
    | 2, _ => exact ar_2
    | k + 3, h => omega
  have hbt : n * componentBytes (newarray.typeOf (aat t)) ≤ 536870912 := by
    rw [hty]
    match t, ht with
    | 0, _ => have : componentBytes (aty 0) = 4 := rfl; rw [this]; omega
    | 1, _ => have : componentBytes (aty 1) = 1 := rfl; rw [this]; omega
    | 2, _ => have : componentBytes (aty 2) = 8 := rfl; rw [this]; omega
    | k + 3, h => omega
  refine va_newaK hx hb (by rw [hty]; exact hts _ hw) rfl hd rfl (nI_pos (by omega)) (nI_clamp (by omega)) hbt hcc hss hP.2.1 fun H1 cA e1 z1 o1 hAr hNm => ?_
  have hcA : cA = G.2.2.1 t := by
    have h7 := (hW.1.1.2 t _ (tysl_get G.2.2.1 ht)).2
    have h8 : s.vm.findClass ("[" ++ (aty t).toString) = some (G.2.2.1 t) := by
      match t, ht, h7 with
      | 0, _, h7 => exact h7
      | 1, _, h7 => exact h7
      | 2, _, h7 => exact h7
      | k + 3, h, _ => omega
    rw [hty] at hNm
    exact Option.some.inj (hNm.symm.trans h8)
  subst hcA
  have hk2 : ∀ (k : Nat) (x : Nat × va_E), (cws G.2.2.2 G.2.2.1 M.1)[k]? = some x → H1[x.1]? = H[x.1]? := fun k x hq => o1 x.1 (by have := (hP.1 k x hq).lt; rw [hP.2.1] at this; exact this)
  have ha : G.2.2.2 M.1.length = h0 + M.1.length := hW.2.1.1 _ hlt
  have hP1 : CW G h0 (M.1 ++ [.inl (t, n)]) H1 := by
    refine ⟨?_, by rw [z1, List.length_append]; simp; omega, by rw [List.length_append]; simp; omega⟩
    rw [cws_push]
    refine (hP.1.kept hk2).app (fun k x hq => ?_)
    have hz : k < 1 := (List.getElem?_eq_some_iff.mp hq).1
    rw [show k = 0 by omega] at hq
    cases hq
    rw [ha]
    show H1[h0 + M.1.length]? = some (vp_cell _ _)
    rw [e1, hty]
    match t, ht with
    | 0, _ => rfl
    | 1, _ => rfl
    | 2, _ => rfl
    | k + 3, h => omega
  have hS1 : va_S (AA G.2.2.2) s.heap H1 locs := ⟨Nat.le_trans hS.1 (by rw [z1, hP.2.1]; omega), fun x h1 h2 => (o1 x (by have := Nat.lt_of_lt_of_le h1 hS.1; rw [hP.2.1] at this; exact this)).trans (hS.2.1 x h1 h2), hS.2.2⟩
  have h9 := hK _ _ _ _ h p e s m args below meth c H1 locs ls hx hb hml hr hk hown hts hW hP1 hS1 hl
  rw [List.map_cons] at h9
  show W p G.1 e _ s m args below meth c H1 locs _ _ _ (F0 m (pc + 2) ls (.ref (h0 + M.1.length) :: st.map (cv G.2.2.2)))
  rw [← ha]
  exact h9
def kvok (ty : FieldType) (v : Value) : Bool := match ty, v with
  | .int, .int _ => true
  | .long, .long _ => true
  | .object _, .ref _ => true
  | .array _, .ref _ => true
  | _, _ => false
theorem kvok_fit {ty : FieldType} {v : Value} (ad : Nat → Nat) (h : kvok ty v = true) : narrow ty (cv ad v) = cv ad v ∧ fits ty (cv ad v) = true := by
  unfold kvok at h
  split at h
  · exact ⟨rfl, rfl⟩
  · exact ⟨rfl, rfl⟩
  · exact ⟨rfl, rfl⟩
  · exact ⟨rfl, rfl⟩
  · cases h
theorem z_putfield {K : KC} (hK : HY G h0 d μ mc ms Q K) {idx a ci k : Nat} {v : Value} {fs : List Value} (hd : decode μ.2.2.1 pc = .ok (.putfield idx, 3)) (hl0 : lkp (fll.getD μ.1 []) idx = some (ci, k)) (hs : M.1[a]? = some (.inr (ci, fs))) (hv : kvok (kty ci k) v = true) (hdc : ((fcl ci).2.1 k).1 = nmo μ.1) (hkl : k < fs.length) (h : K (pc + 3) L st (M.1.set a (.inr (ci, fs.set k v)), M.2.1, M.2.2)) : PY G h0 d μ mc ms Q pc L (v :: .ref a :: st) M := by
  intro p e s m args below meth c H locs ls hx hb hml hr hk hown hts hW hP hS hl
  have hfl : flok μ.1 (idx, ci, k) := by
    have hm := lkp_mem hl0
    cases ho : fll[μ.1]? with
    | none => rw [List.getD_eq_getElem?_getD, ho] at hm; cases hm
    | some row => rw [List.getD_eq_getElem?_getD, ho] at hm; exact fll_ok μ.1 row ho _ hm
  have hnf := kvok_fit G.2.2.2 hv
  have hfin : ∀ (H1 : Heap) (locs1 : List Loc), va_P G.2.1 cls ((cws G.2.2.2 G.2.2.1 M.1).set a (G.2.2.2 a, .inr (ci, (fs.map (cv G.2.2.2)).set k (cv G.2.2.2 v)))) H1 → va_D (AA G.2.2.2) ((cws G.2.2.2 G.2.2.1 M.1).set a (G.2.2.2 a, .inr (ci, (fs.map (cv G.2.2.2)).set k (cv G.2.2.2 v)))) → va_S (AA G.2.2.2) s.heap H1 locs1 → H1.size = H.size → W p G.1 e (rmc (d + 1) mc ms) s m args below meth c H1 locs1 M.2.1 M.2.2 (MQ below (Qcc G Q) args s mc ms (AA G.2.2.2)) (F0 m (pc + 3) ls (st.map (cv G.2.2.2))) := by
    intro H1 locs1 hP1 hD1 hS1 hz
    have e1 : ((cws G.2.2.2 G.2.2.1 M.1).set a (G.2.2.2 a, .inr (ci, (fs.map (cv G.2.2.2)).set k (cv G.2.2.2 v)))) = cws G.2.2.2 G.2.2.1 (M.1.set a (.inr (ci, fs.set k v))) := by
      rw [← cws_set]; simp only [pec, List.map_set]
    rw [e1] at hP1
    exact hK _ _ _ _ h p e s m args below meth c H1 locs1 ls hx hb hml hr hk hown hts hW ⟨hP1, by rw [hz, hP.2.1, List.length_set], by rw [List.length_set]; exact hP.2.2⟩ hS1 hl
  have hD := cws_D hW.2.1 hP.2.2
  have hcl := fcl_get hfl.2.1
  have hap := va_apart (own := nmo μ.1) (ci := ci) hts (lay_ok ci hfl.2.1) (kty ci) (kty_ok ci hfl.2.1) (kty_nm ci hfl.2.1) hW.1.1 hcl
  obtain ⟨r, h1, cell, q1, q2, q3, q4⟩ := hP.1 a _ (cws_get hs)
  have hr1 : r = ((fcl ci).1, (fcl ci).2.1, (fcl ci).2.2) := Option.some.inj (h1.symm.trans hcl)
  subst hr1
  obtain ⟨hSl, hfc, kC, hkC, hkind⟩ := hW.1.1.1 ci _ hcl
  obtain ⟨cf, kf, fi, f, hi, hsl⟩ := hSl k hfl.2.2
  have hlink := hts _ hfl.1
  have hd0 := kty_ok ci hfl.2.1 k hfl.2.2
  have hlay := hts _ (lay_ok ci hfl.2.1 _ (u_in_lay (C := (fcl ci).1) (T := (fcl ci).2.1) hfl.2.2))
  have hst := (u_facts hfc hkC (u_lays hts (lay_ok ci hfl.2.1) hfl.2.2) hi).1
  unfold u_lay at hlay
  have hlm : k < (fs.map (cv G.2.2.2)).length := by rw [List.length_map]; exact hkl
  cases hf : ((fcl ci).2.1 k).2.2.2 with
  | false =>
    rw [if_neg (by rw [hf]; decide)] at hlay
    have h6 := u_store hfc hkC hkind hlay hi hd0 hnf.1 hnf.2
    refine W.putK hx hb (f := f) ⟨hown, hlink, ⟨_, _, _, hi⟩, hst⟩ (by rw [q2]; exact h6) q1 q3 (by rw [hsl]; exact k2_hasslot (q4 k hfl.2.2)) rfl rfl hd fun H' e1 e2 e3 => ?_
    rw [hsl] at e1 ⊢
    exact hfin H' _ (hP.1.set hD (cws_get hs) ⟨_, hcl, t_OB.to (V := updV (vp_V (fs.map (cv G.2.2.2))) k (cv G.2.2.2 v)) ⟨_, e1, q2, q3, t_set q4 hap hfl.2.2 _⟩ (fun j _ => vp_updV_set hlm _ j)⟩ e3) (hD.set (cws_get hs)) (hS.put e2 e3 (hD.2 a _ (cws_get hs))) e2
  | true =>
    rw [if_pos hf] at hlay
    have hcf : m.cls = cf := by
      obtain ⟨_, _, c', _, _, _, -, -, hf', -, -, -, hown2, -⟩ := Cond.laysFinal_spec hlay
      have e1 : c' = cf := by have := hi.symm.trans hf'; simp at this; exact this.1.symm
      rw [hdc] at hown2
      rw [← e1]; exact Option.some.inj (hown.symm.trans hown2)
    have h6 := u_fits hfc hkC hkind (Or.inr hlay) hi hd0 hnf.1 hnf.2
    refine W.putFinK hx hb hown hlink hi hst hcf hW.2.2 (by rw [q2]; exact h6) q1 q3 (by rw [hsl]; exact k2_hasslot (q4 k hfl.2.2)) rfl rfl hd fun H' e1 e2 e3 => ?_
    rw [hsl] at e1 ⊢
    exact hfin H' _ (hP.1.set hD (cws_get hs) ⟨_, hcl, t_OB.to (V := updV (vp_V (fs.map (cv G.2.2.2))) k (cv G.2.2.2 v)) ⟨_, e1, q2, q3, t_set q4 hap hfl.2.2 _⟩ (fun j _ => vp_updV_set hlm _ j)⟩ e3) (hD.set (cws_get hs)) (hS.put e2 e3 (hD.2 a _ (cws_get hs))) e2
theorem z_objinit {K : KC} (hK : HY G h0 d μ mc ms Q K) {idx a : Nat} (hlk : Cond.methodLink (nmo μ.1) idx Lib.objectInit ∈ gw) (hd : decode μ.2.2.1 pc = .ok (.invokespecial idx, 3)) (hc : csum st ≤ 8) (h : K (pc + 3) L st M) : PY G h0 d μ mc ms Q pc L (.ref a :: st) M := by
  intro p e s m args below meth c H locs ls hx hb hml hr hk hown hts hW hP hS hl
  refine W.objInit hx hb hown (hts _ hlk) (hts _ oi_i) (hts _ oi_c) rfl (by rw [hml]; exact hl.1) rfl hd (by show 1 ≤ d + 1; omega) (by show 2 * 0 + _ + 12 ≤ 64 * (d + 1); rw [csum_cv]; omega) ?_
  exact hK _ _ _ _ h p e s m args below meth c H locs ls hx hb hml hr hk hown hts hW hP hS hl
theorem z_back {p : Program} {e : Env} {s : State} {m : MethodId} {args : Array Value} {below : List Frame} {meth : Method} {c : Code} {H : Heap} {locs : List Loc} {ls : Array Slot} {a : Array Value} {st0 rest : List Value} {R : Room} {Q0 : State → Prop} {P2 : Heap → Prop} {c0 s0 mc2 ms2 : Nat}
    (hr : va_Run p G.1 e R s m args below meth c H locs c0 s0 mc2 ms2 (F0 m pc ls st0) rest (Qcc G P2 a) (AA G.2.2.2)) (hS : va_S (AA G.2.2.2) s.heap H locs)
    (kk : ∀ (H1 : Heap) (locs1 : List Loc), P2 H1 → va_S (AA G.2.2.2) s.heap H1 locs1 → W p G.1 e R s m args below meth c H1 locs1 (c0 + mc2) (s0 + ms2) Q0 (F0 m (pc + 3) ls rest)) :
    W p G.1 e R s m args below meth c H locs c0 s0 Q0 (F0 m pc ls st0) := by
  intro T hT X
  obtain ⟨v, st₀, t, T', L, h0', X', hL, e1, e2, ⟨⟨hv, hP2⟩, hz, hk⟩, stp⟩ := hr T hT X
  rw [h0'] at hz hk
  cases hv
  rw [← e1] at hP2 hz hk
  obtain ⟨t2, a1, b1⟩ := kk T'.heap (locs ++ L) hP2 ⟨Nat.le_trans hS.1 hz, fun q h1 h2 => by rw [hk q (Nat.lt_of_lt_of_le h1 hS.1) h2]; exact hS.2.1 q h1 h2, fun q hq => by
      rcases List.mem_append.mp hq with h | h
      · exact hS.2.2 q h
      · exact hL q h⟩ T' rfl X'
  exact ⟨t2, stp t2 a1, b1⟩
theorem z_pre {s : State} {ws : List PE} {H : Heap} {locs : List Loc} {av : List Value} (hW : WK G s) (hN : NF G h0 s) (hP : CW G h0 ws H) (hS : va_S (AA G.2.2.2) s.heap H locs) :
    FrameBlind (va_Pc (av.map (cv G.2.2.2)) (fun U => WK G U ∧ NF G h0 U ∧ CW G h0 ws U.heap)) ∧ ∀ U : State, U.heap = H → s.WarmedH U.vm → va_Pc (av.map (cv G.2.2.2)) (fun U => WK G U ∧ NF G h0 U ∧ CW G h0 ws U.heap) (av.map (cv G.2.2.2)).toArray U := by
  refine ⟨fun a U g mk h => ⟨h.1, h.2.1.blind, h.2.2.1.blind, h.2.2.2⟩, fun U hU hw => ⟨rfl, hW.move hw (fun a h1 h2 => by rw [hU]; exact hS.2.1 a h1 h2), hN.move hw, by rw [hU]; exact hP⟩⟩
theorem gw_inI {μ2 : Mth} (hm : mokI μ2) : GoodIn gw (mcode μ2 :: gw) := by
  intro w hw
  rcases List.mem_cons.mp hw with rfl | hw
  · exact ⟨hm.1, gw_good hm.1⟩
  · exact ⟨hw, gw_good hw⟩
/-- a constructor calls a constructor: the link is plain or a nest mate's -/
theorem z_init {K : KC} (hK : HY G h0 d μ mc ms Q K) {idx a : Nat} {μ2 : Mth} {mc2 ms2 : Nat} {av : List Value} {ws1 : List PE} (hlk : Cond.methodLink (nmo μ.1) idx μ2.2.1 ∈ gw ∨ (nmo μ.1, idx, μ2.2.1) ∈ nestl) (hd : decode μ.2.2.1 pc = .ok (.invokespecial idx, 3)) (hn : av.length = μ2.2.2.2.2.2.2) (hc : csum st ≤ 8) (hcc : M.2.1 + mc2 ≤ mc) (hss : M.2.2 + ms2 ≤ ms) (hM : PCc G h0 d μ2 mc2 ms2 (.ref a :: av) M.1 (fun H => CW G h0 ws1 H)) (h : K (pc + 3) L st (ws1, M.2.1 + mc2, M.2.2 + ms2)) : PY G h0 d μ mc ms Q pc L (av.reverse ++ .ref a :: st) M := by
  intro p e s m args below meth c H locs ls hx hb hml hr hk hown hts hW hP hS hl
  obtain ⟨hm, hM⟩ := hM
  have hpre := z_pre (av := .ref a :: av) hW.1 hW.2.1 hP hS
  have hR : (rmc d mc2 ms2).frames + 1 ≤ (rmc (d + 1) mc ms).frames ∧ 8 + (μ2.2.2.2.1 + 11) + (rmc d mc2 ms2).locals ≤ (rmc (d + 1) mc ms).locals := ⟨Nat.le_refl _, by have := hm.2.2.2.2.1; show 8 + (μ2.2.2.2.1 + 11) + 64 * d ≤ 64 * (d + 1); omega⟩
  have hstk : (av.reverse ++ .ref a :: st).map (cv G.2.2.2) = (av.map (cv G.2.2.2)).reverse ++ .ref (G.2.2.2 a) :: st.map (cv G.2.2.2) := by rw [List.map_append, List.map_reverse]; rfl
  have hrest : 2 * (F0 m pc ls ((av.reverse ++ .ref a :: st).map (cv G.2.2.2))).monitorRoom + ((st.map (cv G.2.2.2)).map fun v => v.category).sum ≤ 8 := by
    show 2 * 0 + _ ≤ 8
    rw [csum_cv]; omega
  have fin : ∀ (H1 : Heap) (locs1 : List Loc), CW G h0 ws1 H1 → va_S (AA G.2.2.2) s.heap H1 locs1 → W p G.1 e (rmc (d + 1) mc ms) s m args below meth c H1 locs1 (M.2.1 + mc2) (M.2.2 + ms2) (MQ below (Qcc G Q) args s mc ms (AA G.2.2.2)) (F0 m (pc + 3) ls (st.map (cv G.2.2.2))) := fun H1 locs1 hP1 hS1 => hK _ _ _ _ h p e s m args below meth c H1 locs1 ls hx hb hml hr hk hown hts hW hP1 hS1 hl
  have hret := hm.2.2.2.2.2.2.2.2
  rcases hlk with hlk | hlk
  · have cb : CallB (rmc (d + 1) mc ms) s args (nmo μ.1) idx μ2.2.1 μ2.2.2.1 μ2.2.2.2.1 none (mcode μ2 :: gw) (rmc d mc2 ms2) mc2 ms2 μ2.2.2.2.2.2.2 :=
      callB_of μ2.2.2.2.2.2.2 hts (gw_inI hm) (by unfold mcode; rw [hret]) rfl rfl (hts _ hm.2.1) (hts _ hlk) hm.2.2.2.1 hR
    exact z_back (va_runI (As := av.map (cv G.2.2.2)) (rest := st.map (cv G.2.2.2)) (b := G.2.2.2 a) (bytes := μ2.2.2.1) (maxL := μ2.2.2.2.1) (n := μ2.2.2.2.2.2.2) (own := nmo μ.1) ⟨hx, hb, hml, hown, hts⟩ hM ⟨cb, hm.2.2.2.2.2.2.2.1, hts _ hm.2.2.2.2.2.2.1⟩ hpre rfl (by rw [List.length_map]; exact hn) hl.1 hstk hrest hd ⟨hcc, hss⟩) hS fin
  · have cw := va_cnB (R := rmc (d + 1) mc ms) (own := nmo μ.1) (host := "SeesawPark") (index := idx) (maxL := μ2.2.2.2.1) (mc := mc2) (ms := ms2) (y := μ2.2.1) (bytes := μ2.2.2.1) (ret := none) (ws := mcode μ2 :: gw) (rm := rmc d mc2 ms2) μ2.2.2.2.2.2.2 hts (gw_inI hm) (by unfold mcode; rw [hret]) rfl rfl (hW.2.1.2 _ hlk) (hts _ hm.2.1) hm.2.2.2.1 hR
    exact z_back (va_runIN (As := av.map (cv G.2.2.2)) (rest := st.map (cv G.2.2.2)) (b := G.2.2.2 a) (bytes := μ2.2.2.1) (maxL := μ2.2.2.2.1) (n := μ2.2.2.2.2.2.2) (own := nmo μ.1) ⟨hx, hb, hml, hown, hts⟩ hM ⟨cw, hm.2.2.2.2.2.2.2.1, hts _ hm.2.2.2.2.2.2.1⟩ hpre rfl (by rw [List.length_map]; exact hn) hl.1 hstk hrest hd ⟨hcc, hss⟩) hS fin
end Z1
end
