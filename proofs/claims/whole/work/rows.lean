section
-- ===== PART A: goes FIRST, ahead of the names: the tables' words, and 'selects' of the private methods out of them =====
/-- a private method of a class that the tables say can be made, by its rows of tables_1 -/
def lw_okq (q : MethodName × Nat) : Prop := (q.1.cls ≠ "java/lang/invoke/MethodHandle" ∧ q.1.cls ≠ "java/lang/invoke/VarHandle") ∧ Cond.instantiable q.1.cls q.2 ∈ tables_1 ∧ Cond.privateMethod q.1 ∈ tables_1 ∧ Cond.instanceMethod q.1 ∈ tables_1
theorem lw_p0 : lw_okq (⟨"LaneFour", "found", "(I)I"⟩, 10) := ⟨⟨by decide +kernel, by decide +kernel⟩, List.mem_of_getElem? (i := 17) (by decide +kernel), List.mem_of_getElem? (i := 414) (by decide +kernel), List.mem_of_getElem? (i := 415) (by decide +kernel)⟩
theorem lw_p1 : lw_okq (⟨"LaneFour$Levels", "joinFirstFall", "()Z"⟩, 7) := ⟨⟨by decide +kernel, by decide +kernel⟩, List.mem_of_getElem? (i := 82) (by decide +kernel), List.mem_of_getElem? (i := 501) (by decide +kernel), List.mem_of_getElem? (i := 502) (by decide +kernel)⟩
theorem lw_p2 : lw_okq (⟨"LaneFour$Levels", "join", "(II)V"⟩, 7) := ⟨⟨by decide +kernel, by decide +kernel⟩, List.mem_of_getElem? (i := 82) (by decide +kernel), List.mem_of_getElem? (i := 505) (by decide +kernel), List.mem_of_getElem? (i := 506) (by decide +kernel)⟩
theorem lw_p3 : lw_okq (⟨"LaneFour", "ofLane", "(III)J"⟩, 10) := ⟨⟨by decide +kernel, by decide +kernel⟩, List.mem_of_getElem? (i := 17) (by decide +kernel), List.mem_of_getElem? (i := 510) (by decide +kernel), List.mem_of_getElem? (i := 511) (by decide +kernel)⟩
theorem lw_p4 : lw_okq (⟨"LaneFour$Water", "leanOfPair", "(II)I"⟩, 10) := ⟨⟨by decide +kernel, by decide +kernel⟩, List.mem_of_getElem? (i := 175) (by decide +kernel), List.mem_of_getElem? (i := 530) (by decide +kernel), List.mem_of_getElem? (i := 531) (by decide +kernel)⟩
theorem lw_p5 : lw_okq (⟨"LaneFour$Water", "findRan", "()V"⟩, 10) := ⟨⟨by decide +kernel, by decide +kernel⟩, List.mem_of_getElem? (i := 175) (by decide +kernel), List.mem_of_getElem? (i := 537) (by decide +kernel), List.mem_of_getElem? (i := 538) (by decide +kernel)⟩
theorem lw_p6 : lw_okq (⟨"LaneFour$Water", "shareOfOrders", "(I)I"⟩, 10) := ⟨⟨by decide +kernel, by decide +kernel⟩, List.mem_of_getElem? (i := 175) (by decide +kernel), List.mem_of_getElem? (i := 553) (by decide +kernel), List.mem_of_getElem? (i := 554) (by decide +kernel)⟩
theorem lw_p7 : lw_okq (⟨"LaneFour$Water", "swap", "(II)J"⟩, 10) := ⟨⟨by decide +kernel, by decide +kernel⟩, List.mem_of_getElem? (i := 175) (by decide +kernel), List.mem_of_getElem? (i := 557) (by decide +kernel), List.mem_of_getElem? (i := 558) (by decide +kernel)⟩
theorem lw_p8 : lw_okq (⟨"LaneFour$Singles", "addPairsOf", "(I)V"⟩, 8) := ⟨⟨by decide +kernel, by decide +kernel⟩, List.mem_of_getElem? (i := 219) (by decide +kernel), List.mem_of_getElem? (i := 594) (by decide +kernel), List.mem_of_getElem? (i := 595) (by decide +kernel)⟩
theorem lw_p9 : lw_okq (⟨"LaneFour$Singles", "pairsIfFirst", "(II)I"⟩, 8) := ⟨⟨by decide +kernel, by decide +kernel⟩, List.mem_of_getElem? (i := 219) (by decide +kernel), List.mem_of_getElem? (i := 607) (by decide +kernel), List.mem_of_getElem? (i := 608) (by decide +kernel)⟩
theorem lw_p10 : lw_okq (⟨"LaneFour$Singles", "leastFirst", "(I)I"⟩, 8) := ⟨⟨by decide +kernel, by decide +kernel⟩, List.mem_of_getElem? (i := 219) (by decide +kernel), List.mem_of_getElem? (i := 612) (by decide +kernel), List.mem_of_getElem? (i := 613) (by decide +kernel)⟩
theorem lw_p11 : lw_okq (⟨"LaneFour$Singles", "slowness", "(II)J"⟩, 8) := ⟨⟨by decide +kernel, by decide +kernel⟩, List.mem_of_getElem? (i := 219) (by decide +kernel), List.mem_of_getElem? (i := 635) (by decide +kernel), List.mem_of_getElem? (i := 636) (by decide +kernel)⟩
theorem lw_p12 : lw_okq (⟨"LaneFour$Singles", "hasMedal", "(II)Z"⟩, 8) := ⟨⟨by decide +kernel, by decide +kernel⟩, List.mem_of_getElem? (i := 219) (by decide +kernel), List.mem_of_getElem? (i := 647) (by decide +kernel), List.mem_of_getElem? (i := 648) (by decide +kernel)⟩
theorem lw_p13 : lw_okq (⟨"LaneFour$World", "clearValues", "()V"⟩, 4) := ⟨⟨by decide +kernel, by decide +kernel⟩, List.mem_of_getElem? (i := 154) (by decide +kernel), List.mem_of_getElem? (i := 689) (by decide +kernel), List.mem_of_getElem? (i := 690) (by decide +kernel)⟩
theorem lw_p14 : lw_okq (⟨"LaneFour$World", "next", "(II)I"⟩, 4) := ⟨⟨by decide +kernel, by decide +kernel⟩, List.mem_of_getElem? (i := 154) (by decide +kernel), List.mem_of_getElem? (i := 693) (by decide +kernel), List.mem_of_getElem? (i := 694) (by decide +kernel)⟩
theorem lw_p15 : lw_okq (⟨"LaneFour$World", "open", "(I)I"⟩, 4) := ⟨⟨by decide +kernel, by decide +kernel⟩, List.mem_of_getElem? (i := 154) (by decide +kernel), List.mem_of_getElem? (i := 697) (by decide +kernel), List.mem_of_getElem? (i := 698) (by decide +kernel)⟩
def lw_privs_1 : List (MethodName × Nat) := [(⟨"LaneFour", "found", "(I)I"⟩, 10), (⟨"LaneFour$Levels", "joinFirstFall", "()Z"⟩, 7), (⟨"LaneFour$Levels", "join", "(II)V"⟩, 7), (⟨"LaneFour", "ofLane", "(III)J"⟩, 10), (⟨"LaneFour$Water", "leanOfPair", "(II)I"⟩, 10), (⟨"LaneFour$Water", "findRan", "()V"⟩, 10), (⟨"LaneFour$Water", "shareOfOrders", "(I)I"⟩, 10), (⟨"LaneFour$Water", "swap", "(II)J"⟩, 10), (⟨"LaneFour$Singles", "addPairsOf", "(I)V"⟩, 8), (⟨"LaneFour$Singles", "pairsIfFirst", "(II)I"⟩, 8), (⟨"LaneFour$Singles", "leastFirst", "(I)I"⟩, 8), (⟨"LaneFour$Singles", "slowness", "(II)J"⟩, 8), (⟨"LaneFour$Singles", "hasMedal", "(II)Z"⟩, 8), (⟨"LaneFour$World", "clearValues", "()V"⟩, 4), (⟨"LaneFour$World", "next", "(II)I"⟩, 4), (⟨"LaneFour$World", "open", "(I)I"⟩, 4)]
theorem lw_r1 : ∀ q ∈ lw_privs_1, lw_okq q := List.forall_mem_cons.mpr ⟨lw_p0, List.forall_mem_cons.mpr ⟨lw_p1, List.forall_mem_cons.mpr ⟨lw_p2, List.forall_mem_cons.mpr ⟨lw_p3, List.forall_mem_cons.mpr ⟨lw_p4, List.forall_mem_cons.mpr ⟨lw_p5, List.forall_mem_cons.mpr ⟨lw_p6, List.forall_mem_cons.mpr ⟨lw_p7, List.forall_mem_cons.mpr ⟨lw_p8, List.forall_mem_cons.mpr ⟨lw_p9, List.forall_mem_cons.mpr ⟨lw_p10, List.forall_mem_cons.mpr ⟨lw_p11, List.forall_mem_cons.mpr ⟨lw_p12, List.forall_mem_cons.mpr ⟨lw_p13, List.forall_mem_cons.mpr ⟨lw_p14, List.forall_mem_cons.mpr ⟨lw_p15, fun _ h => absurd h List.not_mem_nil⟩⟩⟩⟩⟩⟩⟩⟩⟩⟩⟩⟩⟩⟩⟩⟩
theorem lw_p16 : lw_okq (⟨"LaneFour$World", "choose", "(I)I"⟩, 4) := ⟨⟨by decide +kernel, by decide +kernel⟩, List.mem_of_getElem? (i := 154) (by decide +kernel), List.mem_of_getElem? (i := 701) (by decide +kernel), List.mem_of_getElem? (i := 702) (by decide +kernel)⟩
theorem lw_p17 : lw_okq (⟨"LaneFour$World", "turn", "()I"⟩, 4) := ⟨⟨by decide +kernel, by decide +kernel⟩, List.mem_of_getElem? (i := 154) (by decide +kernel), List.mem_of_getElem? (i := 706) (by decide +kernel), List.mem_of_getElem? (i := 707) (by decide +kernel)⟩
theorem lw_p18 : lw_okq (⟨"LaneFour$World", "begin", "(I)I"⟩, 4) := ⟨⟨by decide +kernel, by decide +kernel⟩, List.mem_of_getElem? (i := 154) (by decide +kernel), List.mem_of_getElem? (i := 710) (by decide +kernel), List.mem_of_getElem? (i := 711) (by decide +kernel)⟩
theorem lw_p19 : lw_okq (⟨"LaneFour$World", "end", "(I)I"⟩, 4) := ⟨⟨by decide +kernel, by decide +kernel⟩, List.mem_of_getElem? (i := 154) (by decide +kernel), List.mem_of_getElem? (i := 718) (by decide +kernel), List.mem_of_getElem? (i := 719) (by decide +kernel)⟩
theorem lw_p20 : lw_okq (⟨"LaneFour", "givenOf", "(I)I"⟩, 10) := ⟨⟨by decide +kernel, by decide +kernel⟩, List.mem_of_getElem? (i := 17) (by decide +kernel), List.mem_of_getElem? (i := 729) (by decide +kernel), List.mem_of_getElem? (i := 730) (by decide +kernel)⟩
theorem lw_p21 : lw_okq (⟨"LaneFour$Meet", "tenthsIn", "(I)I"⟩, 9) := ⟨⟨by decide +kernel, by decide +kernel⟩, List.mem_of_getElem? (i := 25) (by decide +kernel), List.mem_of_getElem? (i := 761) (by decide +kernel), List.mem_of_getElem? (i := 762) (by decide +kernel)⟩
theorem lw_p22 : lw_okq (⟨"LaneFour$Maker", "rankAmong", "(III)I"⟩, 4) := ⟨⟨by decide +kernel, by decide +kernel⟩, List.mem_of_getElem? (i := 256) (by decide +kernel), List.mem_of_getElem? (i := 787) (by decide +kernel), List.mem_of_getElem? (i := 788) (by decide +kernel)⟩
theorem lw_p23 : lw_okq (⟨"LaneFour$Maker", "makeTimes", "(III)V"⟩, 4) := ⟨⟨by decide +kernel, by decide +kernel⟩, List.mem_of_getElem? (i := 256) (by decide +kernel), List.mem_of_getElem? (i := 796) (by decide +kernel), List.mem_of_getElem? (i := 797) (by decide +kernel)⟩
theorem lw_p24 : lw_okq (⟨"LaneFour$Maker", "lot", "(I)I"⟩, 4) := ⟨⟨by decide +kernel, by decide +kernel⟩, List.mem_of_getElem? (i := 256) (by decide +kernel), List.mem_of_getElem? (i := 801) (by decide +kernel), List.mem_of_getElem? (i := 802) (by decide +kernel)⟩
theorem lw_p25 : lw_okq (⟨"LaneFour", "mixLanes", "(J)J"⟩, 10) := ⟨⟨by decide +kernel, by decide +kernel⟩, List.mem_of_getElem? (i := 17) (by decide +kernel), List.mem_of_getElem? (i := 885) (by decide +kernel), List.mem_of_getElem? (i := 886) (by decide +kernel)⟩
theorem lw_p26 : lw_okq (⟨"LaneFour", "mixDays", "(J)J"⟩, 10) := ⟨⟨by decide +kernel, by decide +kernel⟩, List.mem_of_getElem? (i := 17) (by decide +kernel), List.mem_of_getElem? (i := 889) (by decide +kernel), List.mem_of_getElem? (i := 890) (by decide +kernel)⟩
theorem lw_p27 : lw_okq (⟨"LaneFour", "mixOrder", "(J)J"⟩, 10) := ⟨⟨by decide +kernel, by decide +kernel⟩, List.mem_of_getElem? (i := 17) (by decide +kernel), List.mem_of_getElem? (i := 893) (by decide +kernel), List.mem_of_getElem? (i := 894) (by decide +kernel)⟩
theorem lw_p28 : lw_okq (⟨"LaneFour", "mixRaces", "(J)J"⟩, 10) := ⟨⟨by decide +kernel, by decide +kernel⟩, List.mem_of_getElem? (i := 17) (by decide +kernel), List.mem_of_getElem? (i := 897) (by decide +kernel), List.mem_of_getElem? (i := 898) (by decide +kernel)⟩
theorem lw_p29 : lw_okq (⟨"LaneFour", "mixSwims", "(J)J"⟩, 10) := ⟨⟨by decide +kernel, by decide +kernel⟩, List.mem_of_getElem? (i := 17) (by decide +kernel), List.mem_of_getElem? (i := 901) (by decide +kernel), List.mem_of_getElem? (i := 902) (by decide +kernel)⟩
theorem lw_p30 : lw_okq (⟨"LaneFourModel", "raceMore", "(II)I"⟩, 34) := ⟨⟨by decide +kernel, by decide +kernel⟩, List.mem_of_getElem? (i := 905) (by decide +kernel), List.mem_of_getElem? (i := 1021) (by decide +kernel), List.mem_of_getElem? (i := 1022) (by decide +kernel)⟩
theorem lw_p31 : lw_okq (⟨"LaneFourModel", "isRace", "(I)Z"⟩, 34) := ⟨⟨by decide +kernel, by decide +kernel⟩, List.mem_of_getElem? (i := 905) (by decide +kernel), List.mem_of_getElem? (i := 1029) (by decide +kernel), List.mem_of_getElem? (i := 1030) (by decide +kernel)⟩
def lw_privs_2 : List (MethodName × Nat) := [(⟨"LaneFour$World", "choose", "(I)I"⟩, 4), (⟨"LaneFour$World", "turn", "()I"⟩, 4), (⟨"LaneFour$World", "begin", "(I)I"⟩, 4), (⟨"LaneFour$World", "end", "(I)I"⟩, 4), (⟨"LaneFour", "givenOf", "(I)I"⟩, 10), (⟨"LaneFour$Meet", "tenthsIn", "(I)I"⟩, 9), (⟨"LaneFour$Maker", "rankAmong", "(III)I"⟩, 4), (⟨"LaneFour$Maker", "makeTimes", "(III)V"⟩, 4), (⟨"LaneFour$Maker", "lot", "(I)I"⟩, 4), (⟨"LaneFour", "mixLanes", "(J)J"⟩, 10), (⟨"LaneFour", "mixDays", "(J)J"⟩, 10), (⟨"LaneFour", "mixOrder", "(J)J"⟩, 10), (⟨"LaneFour", "mixRaces", "(J)J"⟩, 10), (⟨"LaneFour", "mixSwims", "(J)J"⟩, 10), (⟨"LaneFourModel", "raceMore", "(II)I"⟩, 34), (⟨"LaneFourModel", "isRace", "(I)Z"⟩, 34)]
theorem lw_r2 : ∀ q ∈ lw_privs_2, lw_okq q := List.forall_mem_cons.mpr ⟨lw_p16, List.forall_mem_cons.mpr ⟨lw_p17, List.forall_mem_cons.mpr ⟨lw_p18, List.forall_mem_cons.mpr ⟨lw_p19, List.forall_mem_cons.mpr ⟨lw_p20, List.forall_mem_cons.mpr ⟨lw_p21, List.forall_mem_cons.mpr ⟨lw_p22, List.forall_mem_cons.mpr ⟨lw_p23, List.forall_mem_cons.mpr ⟨lw_p24, List.forall_mem_cons.mpr ⟨lw_p25, List.forall_mem_cons.mpr ⟨lw_p26, List.forall_mem_cons.mpr ⟨lw_p27, List.forall_mem_cons.mpr ⟨lw_p28, List.forall_mem_cons.mpr ⟨lw_p29, List.forall_mem_cons.mpr ⟨lw_p30, List.forall_mem_cons.mpr ⟨lw_p31, fun _ h => absurd h List.not_mem_nil⟩⟩⟩⟩⟩⟩⟩⟩⟩⟩⟩⟩⟩⟩⟩⟩
theorem lw_p32 : lw_okq (⟨"LaneFourModel", "swimMore", "(III)I"⟩, 34) := ⟨⟨by decide +kernel, by decide +kernel⟩, List.mem_of_getElem? (i := 905) (by decide +kernel), List.mem_of_getElem? (i := 1039) (by decide +kernel), List.mem_of_getElem? (i := 1040) (by decide +kernel)⟩
theorem lw_p33 : lw_okq (⟨"LaneFourModel", "isSwim", "(I)Z"⟩, 34) := ⟨⟨by decide +kernel, by decide +kernel⟩, List.mem_of_getElem? (i := 905) (by decide +kernel), List.mem_of_getElem? (i := 1047) (by decide +kernel), List.mem_of_getElem? (i := 1048) (by decide +kernel)⟩
theorem lw_p34 : lw_okq (⟨"LaneFourModel", "meets", "(I)I"⟩, 34) := ⟨⟨by decide +kernel, by decide +kernel⟩, List.mem_of_getElem? (i := 905) (by decide +kernel), List.mem_of_getElem? (i := 1061) (by decide +kernel), List.mem_of_getElem? (i := 1062) (by decide +kernel)⟩
theorem lw_p35 : lw_okq (⟨"LaneFourModel", "feltOf", "(I)I"⟩, 34) := ⟨⟨by decide +kernel, by decide +kernel⟩, List.mem_of_getElem? (i := 905) (by decide +kernel), List.mem_of_getElem? (i := 1073) (by decide +kernel), List.mem_of_getElem? (i := 1074) (by decide +kernel)⟩
theorem lw_p36 : lw_okq (⟨"LaneFourModel", "totalOf", "(I)I"⟩, 34) := ⟨⟨by decide +kernel, by decide +kernel⟩, List.mem_of_getElem? (i := 905) (by decide +kernel), List.mem_of_getElem? (i := 1077) (by decide +kernel), List.mem_of_getElem? (i := 1078) (by decide +kernel)⟩
theorem lw_p37 : lw_okq (⟨"LaneFourModel", "hasDiff", "(I)Z"⟩, 34) := ⟨⟨by decide +kernel, by decide +kernel⟩, List.mem_of_getElem? (i := 905) (by decide +kernel), List.mem_of_getElem? (i := 1089) (by decide +kernel), List.mem_of_getElem? (i := 1090) (by decide +kernel)⟩
theorem lw_p38 : lw_okq (⟨"LaneFourModel", "feltOn", "(II)I"⟩, 34) := ⟨⟨by decide +kernel, by decide +kernel⟩, List.mem_of_getElem? (i := 905) (by decide +kernel), List.mem_of_getElem? (i := 1093) (by decide +kernel), List.mem_of_getElem? (i := 1094) (by decide +kernel)⟩
theorem lw_p39 : lw_okq (⟨"LaneFourModel", "twiceDiff", "(I)I"⟩, 34) := ⟨⟨by decide +kernel, by decide +kernel⟩, List.mem_of_getElem? (i := 905) (by decide +kernel), List.mem_of_getElem? (i := 1097) (by decide +kernel), List.mem_of_getElem? (i := 1098) (by decide +kernel)⟩
theorem lw_p40 : lw_okq (⟨"LaneFourModel", "twiceMean", "(II)I"⟩, 34) := ⟨⟨by decide +kernel, by decide +kernel⟩, List.mem_of_getElem? (i := 905) (by decide +kernel), List.mem_of_getElem? (i := 1101) (by decide +kernel), List.mem_of_getElem? (i := 1102) (by decide +kernel)⟩
theorem lw_p41 : lw_okq (⟨"LaneFourModel", "laneNow", "(III)J"⟩, 34) := ⟨⟨by decide +kernel, by decide +kernel⟩, List.mem_of_getElem? (i := 905) (by decide +kernel), List.mem_of_getElem? (i := 1116) (by decide +kernel), List.mem_of_getElem? (i := 1117) (by decide +kernel)⟩
theorem lw_p42 : lw_okq (⟨"LaneFourModel", "laysShape", "()V"⟩, 34) := ⟨⟨by decide +kernel, by decide +kernel⟩, List.mem_of_getElem? (i := 905) (by decide +kernel), List.mem_of_getElem? (i := 1120) (by decide +kernel), List.mem_of_getElem? (i := 1121) (by decide +kernel)⟩
theorem lw_p43 : lw_okq (⟨"LaneFourModel", "laysLanes", "()V"⟩, 34) := ⟨⟨by decide +kernel, by decide +kernel⟩, List.mem_of_getElem? (i := 905) (by decide +kernel), List.mem_of_getElem? (i := 1124) (by decide +kernel), List.mem_of_getElem? (i := 1125) (by decide +kernel)⟩
theorem lw_p44 : lw_okq (⟨"LaneFourModel", "joins", "(II)V"⟩, 34) := ⟨⟨by decide +kernel, by decide +kernel⟩, List.mem_of_getElem? (i := 905) (by decide +kernel), List.mem_of_getElem? (i := 1128) (by decide +kernel), List.mem_of_getElem? (i := 1129) (by decide +kernel)⟩
theorem lw_p45 : lw_okq (⟨"LaneFourModel", "laysLane", "(II)V"⟩, 34) := ⟨⟨by decide +kernel, by decide +kernel⟩, List.mem_of_getElem? (i := 905) (by decide +kernel), List.mem_of_getElem? (i := 1132) (by decide +kernel), List.mem_of_getElem? (i := 1133) (by decide +kernel)⟩
theorem lw_p46 : lw_okq (⟨"LaneFourModel", "lays", "(JJ)V"⟩, 34) := ⟨⟨by decide +kernel, by decide +kernel⟩, List.mem_of_getElem? (i := 905) (by decide +kernel), List.mem_of_getElem? (i := 1136) (by decide +kernel), List.mem_of_getElem? (i := 1137) (by decide +kernel)⟩
theorem lw_p47 : lw_okq (⟨"LaneFourModel", "adds", "(JJ)V"⟩, 34) := ⟨⟨by decide +kernel, by decide +kernel⟩, List.mem_of_getElem? (i := 905) (by decide +kernel), List.mem_of_getElem? (i := 1140) (by decide +kernel), List.mem_of_getElem? (i := 1141) (by decide +kernel)⟩
def lw_privs_3 : List (MethodName × Nat) := [(⟨"LaneFourModel", "swimMore", "(III)I"⟩, 34), (⟨"LaneFourModel", "isSwim", "(I)Z"⟩, 34), (⟨"LaneFourModel", "meets", "(I)I"⟩, 34), (⟨"LaneFourModel", "feltOf", "(I)I"⟩, 34), (⟨"LaneFourModel", "totalOf", "(I)I"⟩, 34), (⟨"LaneFourModel", "hasDiff", "(I)Z"⟩, 34), (⟨"LaneFourModel", "feltOn", "(II)I"⟩, 34), (⟨"LaneFourModel", "twiceDiff", "(I)I"⟩, 34), (⟨"LaneFourModel", "twiceMean", "(II)I"⟩, 34), (⟨"LaneFourModel", "laneNow", "(III)J"⟩, 34), (⟨"LaneFourModel", "laysShape", "()V"⟩, 34), (⟨"LaneFourModel", "laysLanes", "()V"⟩, 34), (⟨"LaneFourModel", "joins", "(II)V"⟩, 34), (⟨"LaneFourModel", "laysLane", "(II)V"⟩, 34), (⟨"LaneFourModel", "lays", "(JJ)V"⟩, 34), (⟨"LaneFourModel", "adds", "(JJ)V"⟩, 34)]
theorem lw_r3 : ∀ q ∈ lw_privs_3, lw_okq q := List.forall_mem_cons.mpr ⟨lw_p32, List.forall_mem_cons.mpr ⟨lw_p33, List.forall_mem_cons.mpr ⟨lw_p34, List.forall_mem_cons.mpr ⟨lw_p35, List.forall_mem_cons.mpr ⟨lw_p36, List.forall_mem_cons.mpr ⟨lw_p37, List.forall_mem_cons.mpr ⟨lw_p38, List.forall_mem_cons.mpr ⟨lw_p39, List.forall_mem_cons.mpr ⟨lw_p40, List.forall_mem_cons.mpr ⟨lw_p41, List.forall_mem_cons.mpr ⟨lw_p42, List.forall_mem_cons.mpr ⟨lw_p43, List.forall_mem_cons.mpr ⟨lw_p44, List.forall_mem_cons.mpr ⟨lw_p45, List.forall_mem_cons.mpr ⟨lw_p46, List.forall_mem_cons.mpr ⟨lw_p47, fun _ h => absurd h List.not_mem_nil⟩⟩⟩⟩⟩⟩⟩⟩⟩⟩⟩⟩⟩⟩⟩⟩
theorem lw_p48 : lw_okq (⟨"LaneFourModel", "lanesMany", "()I"⟩, 34) := ⟨⟨by decide +kernel, by decide +kernel⟩, List.mem_of_getElem? (i := 905) (by decide +kernel), List.mem_of_getElem? (i := 1144) (by decide +kernel), List.mem_of_getElem? (i := 1145) (by decide +kernel)⟩
theorem lw_p49 : lw_okq (⟨"LaneFourModel", "countsNow", "(I)I"⟩, 34) := ⟨⟨by decide +kernel, by decide +kernel⟩, List.mem_of_getElem? (i := 905) (by decide +kernel), List.mem_of_getElem? (i := 1152) (by decide +kernel), List.mem_of_getElem? (i := 1153) (by decide +kernel)⟩
theorem lw_p50 : lw_okq (⟨"LaneFourModel", "leanNow", "(II)I"⟩, 34) := ⟨⟨by decide +kernel, by decide +kernel⟩, List.mem_of_getElem? (i := 905) (by decide +kernel), List.mem_of_getElem? (i := 1160) (by decide +kernel), List.mem_of_getElem? (i := 1161) (by decide +kernel)⟩
theorem lw_p51 : lw_okq (⟨"LaneFourModel", "chanceNow", "()I"⟩, 34) := ⟨⟨by decide +kernel, by decide +kernel⟩, List.mem_of_getElem? (i := 905) (by decide +kernel), List.mem_of_getElem? (i := 1168) (by decide +kernel), List.mem_of_getElem? (i := 1169) (by decide +kernel)⟩
theorem lw_p52 : lw_okq (⟨"LaneFourModel", "turns", "(I)Z"⟩, 34) := ⟨⟨by decide +kernel, by decide +kernel⟩, List.mem_of_getElem? (i := 905) (by decide +kernel), List.mem_of_getElem? (i := 1172) (by decide +kernel), List.mem_of_getElem? (i := 1173) (by decide +kernel)⟩
theorem lw_p53 : lw_okq (⟨"LaneFourModel", "ranNow", "(I)I"⟩, 34) := ⟨⟨by decide +kernel, by decide +kernel⟩, List.mem_of_getElem? (i := 905) (by decide +kernel), List.mem_of_getElem? (i := 1181) (by decide +kernel), List.mem_of_getElem? (i := 1182) (by decide +kernel)⟩
theorem lw_p54 : lw_okq (⟨"LaneFourModel", "laysOwn", "(I)Z"⟩, 34) := ⟨⟨by decide +kernel, by decide +kernel⟩, List.mem_of_getElem? (i := 905) (by decide +kernel), List.mem_of_getElem? (i := 1189) (by decide +kernel), List.mem_of_getElem? (i := 1190) (by decide +kernel)⟩
theorem lw_p55 : lw_okq (⟨"LaneFourModel", "twiceNow", "(II)I"⟩, 34) := ⟨⟨by decide +kernel, by decide +kernel⟩, List.mem_of_getElem? (i := 905) (by decide +kernel), List.mem_of_getElem? (i := 1201) (by decide +kernel), List.mem_of_getElem? (i := 1202) (by decide +kernel)⟩
theorem lw_p56 : lw_okq (⟨"LaneFourModel", "isSingle", "(I)Z"⟩, 34) := ⟨⟨by decide +kernel, by decide +kernel⟩, List.mem_of_getElem? (i := 905) (by decide +kernel), List.mem_of_getElem? (i := 1205) (by decide +kernel), List.mem_of_getElem? (i := 1206) (by decide +kernel)⟩
theorem lw_p57 : lw_okq (⟨"LaneFourModel", "orderNow", "(I)I"⟩, 34) := ⟨⟨by decide +kernel, by decide +kernel⟩, List.mem_of_getElem? (i := 905) (by decide +kernel), List.mem_of_getElem? (i := 1213) (by decide +kernel), List.mem_of_getElem? (i := 1214) (by decide +kernel)⟩
theorem lw_p58 : lw_okq (⟨"LaneFourModel", "orders", "()V"⟩, 34) := ⟨⟨by decide +kernel, by decide +kernel⟩, List.mem_of_getElem? (i := 905) (by decide +kernel), List.mem_of_getElem? (i := 1217) (by decide +kernel), List.mem_of_getElem? (i := 1218) (by decide +kernel)⟩
theorem lw_p59 : lw_okq (⟨"LaneFourModel", "gain", "(II)I"⟩, 34) := ⟨⟨by decide +kernel, by decide +kernel⟩, List.mem_of_getElem? (i := 905) (by decide +kernel), List.mem_of_getElem? (i := 1224) (by decide +kernel), List.mem_of_getElem? (i := 1225) (by decide +kernel)⟩
theorem lw_p60 : lw_okq (⟨"LaneFourModel", "laysRight", "(I)V"⟩, 34) := ⟨⟨by decide +kernel, by decide +kernel⟩, List.mem_of_getElem? (i := 905) (by decide +kernel), List.mem_of_getElem? (i := 1232) (by decide +kernel), List.mem_of_getElem? (i := 1233) (by decide +kernel)⟩
theorem lw_p61 : lw_okq (⟨"LaneFourModel", "placeNow", "(II)I"⟩, 34) := ⟨⟨by decide +kernel, by decide +kernel⟩, List.mem_of_getElem? (i := 905) (by decide +kernel), List.mem_of_getElem? (i := 1241) (by decide +kernel), List.mem_of_getElem? (i := 1242) (by decide +kernel)⟩
theorem lw_p62 : lw_okq (⟨"LaneFourModel", "isRightLess", "(II)Z"⟩, 34) := ⟨⟨by decide +kernel, by decide +kernel⟩, List.mem_of_getElem? (i := 905) (by decide +kernel), List.mem_of_getElem? (i := 1245) (by decide +kernel), List.mem_of_getElem? (i := 1246) (by decide +kernel)⟩
theorem lw_p63 : lw_okq (⟨"LaneFourModel", "medalsNow", "(I)I"⟩, 34) := ⟨⟨by decide +kernel, by decide +kernel⟩, List.mem_of_getElem? (i := 905) (by decide +kernel), List.mem_of_getElem? (i := 1253) (by decide +kernel), List.mem_of_getElem? (i := 1254) (by decide +kernel)⟩
def lw_privs_4 : List (MethodName × Nat) := [(⟨"LaneFourModel", "lanesMany", "()I"⟩, 34), (⟨"LaneFourModel", "countsNow", "(I)I"⟩, 34), (⟨"LaneFourModel", "leanNow", "(II)I"⟩, 34), (⟨"LaneFourModel", "chanceNow", "()I"⟩, 34), (⟨"LaneFourModel", "turns", "(I)Z"⟩, 34), (⟨"LaneFourModel", "ranNow", "(I)I"⟩, 34), (⟨"LaneFourModel", "laysOwn", "(I)Z"⟩, 34), (⟨"LaneFourModel", "twiceNow", "(II)I"⟩, 34), (⟨"LaneFourModel", "isSingle", "(I)Z"⟩, 34), (⟨"LaneFourModel", "orderNow", "(I)I"⟩, 34), (⟨"LaneFourModel", "orders", "()V"⟩, 34), (⟨"LaneFourModel", "gain", "(II)I"⟩, 34), (⟨"LaneFourModel", "laysRight", "(I)V"⟩, 34), (⟨"LaneFourModel", "placeNow", "(II)I"⟩, 34), (⟨"LaneFourModel", "isRightLess", "(II)Z"⟩, 34), (⟨"LaneFourModel", "medalsNow", "(I)I"⟩, 34)]
theorem lw_r4 : ∀ q ∈ lw_privs_4, lw_okq q := List.forall_mem_cons.mpr ⟨lw_p48, List.forall_mem_cons.mpr ⟨lw_p49, List.forall_mem_cons.mpr ⟨lw_p50, List.forall_mem_cons.mpr ⟨lw_p51, List.forall_mem_cons.mpr ⟨lw_p52, List.forall_mem_cons.mpr ⟨lw_p53, List.forall_mem_cons.mpr ⟨lw_p54, List.forall_mem_cons.mpr ⟨lw_p55, List.forall_mem_cons.mpr ⟨lw_p56, List.forall_mem_cons.mpr ⟨lw_p57, List.forall_mem_cons.mpr ⟨lw_p58, List.forall_mem_cons.mpr ⟨lw_p59, List.forall_mem_cons.mpr ⟨lw_p60, List.forall_mem_cons.mpr ⟨lw_p61, List.forall_mem_cons.mpr ⟨lw_p62, List.forall_mem_cons.mpr ⟨lw_p63, fun _ h => absurd h List.not_mem_nil⟩⟩⟩⟩⟩⟩⟩⟩⟩⟩⟩⟩⟩⟩⟩⟩
theorem lw_p64 : lw_okq (⟨"LaneFourModel", "ruleFault", "()I"⟩, 34) := ⟨⟨by decide +kernel, by decide +kernel⟩, List.mem_of_getElem? (i := 905) (by decide +kernel), List.mem_of_getElem? (i := 1272) (by decide +kernel), List.mem_of_getElem? (i := 1273) (by decide +kernel)⟩
theorem lw_p65 : lw_okq (⟨"LaneFourModel", "worldFault", "()I"⟩, 34) := ⟨⟨by decide +kernel, by decide +kernel⟩, List.mem_of_getElem? (i := 905) (by decide +kernel), List.mem_of_getElem? (i := 1276) (by decide +kernel), List.mem_of_getElem? (i := 1277) (by decide +kernel)⟩
theorem lw_p66 : lw_okq (⟨"LaneFourModel", "plain", "()V"⟩, 34) := ⟨⟨by decide +kernel, by decide +kernel⟩, List.mem_of_getElem? (i := 905) (by decide +kernel), List.mem_of_getElem? (i := 1280) (by decide +kernel), List.mem_of_getElem? (i := 1281) (by decide +kernel)⟩
theorem lw_p67 : lw_okq (⟨"LaneFourModel", "part", "()V"⟩, 34) := ⟨⟨by decide +kernel, by decide +kernel⟩, List.mem_of_getElem? (i := 905) (by decide +kernel), List.mem_of_getElem? (i := 1284) (by decide +kernel), List.mem_of_getElem? (i := 1285) (by decide +kernel)⟩
theorem lw_p68 : lw_okq (⟨"LaneFourModel", "byteNow", "()I"⟩, 34) := ⟨⟨by decide +kernel, by decide +kernel⟩, List.mem_of_getElem? (i := 905) (by decide +kernel), List.mem_of_getElem? (i := 1288) (by decide +kernel), List.mem_of_getElem? (i := 1289) (by decide +kernel)⟩
theorem lw_p69 : lw_okq (⟨"LaneFourModel", "expects", "(I)V"⟩, 34) := ⟨⟨by decide +kernel, by decide +kernel⟩, List.mem_of_getElem? (i := 905) (by decide +kernel), List.mem_of_getElem? (i := 1292) (by decide +kernel), List.mem_of_getElem? (i := 1293) (by decide +kernel)⟩
theorem lw_p70 : lw_okq (⟨"LaneFourModel", "number", "(I)I"⟩, 34) := ⟨⟨by decide +kernel, by decide +kernel⟩, List.mem_of_getElem? (i := 905) (by decide +kernel), List.mem_of_getElem? (i := 1296) (by decide +kernel), List.mem_of_getElem? (i := 1297) (by decide +kernel)⟩
theorem lw_p71 : lw_okq (⟨"LaneFourModel", "givenNow", "(I)I"⟩, 34) := ⟨⟨by decide +kernel, by decide +kernel⟩, List.mem_of_getElem? (i := 905) (by decide +kernel), List.mem_of_getElem? (i := 1304) (by decide +kernel), List.mem_of_getElem? (i := 1305) (by decide +kernel)⟩
theorem lw_p72 : lw_okq (⟨"LaneFourModel", "isBetter", "(II)Z"⟩, 34) := ⟨⟨by decide +kernel, by decide +kernel⟩, List.mem_of_getElem? (i := 905) (by decide +kernel), List.mem_of_getElem? (i := 1308) (by decide +kernel), List.mem_of_getElem? (i := 1309) (by decide +kernel)⟩
theorem lw_p73 : lw_okq (⟨"LaneFourModel", "tenthsNow", "(II)I"⟩, 34) := ⟨⟨by decide +kernel, by decide +kernel⟩, List.mem_of_getElem? (i := 905) (by decide +kernel), List.mem_of_getElem? (i := 1316) (by decide +kernel), List.mem_of_getElem? (i := 1317) (by decide +kernel)⟩
theorem lw_p74 : lw_okq (⟨"LaneFourModel", "worldNow", "(I)I"⟩, 34) := ⟨⟨by decide +kernel, by decide +kernel⟩, List.mem_of_getElem? (i := 905) (by decide +kernel), List.mem_of_getElem? (i := 1326) (by decide +kernel), List.mem_of_getElem? (i := 1327) (by decide +kernel)⟩
theorem lw_p75 : lw_okq (⟨"LaneFourModel", "lot", "(I)I"⟩, 34) := ⟨⟨by decide +kernel, by decide +kernel⟩, List.mem_of_getElem? (i := 905) (by decide +kernel), List.mem_of_getElem? (i := 1334) (by decide +kernel), List.mem_of_getElem? (i := 1335) (by decide +kernel)⟩
theorem lw_p76 : lw_okq (⟨"LaneFourModel", "lacks", "(III)I"⟩, 34) := ⟨⟨by decide +kernel, by decide +kernel⟩, List.mem_of_getElem? (i := 905) (by decide +kernel), List.mem_of_getElem? (i := 1351) (by decide +kernel), List.mem_of_getElem? (i := 1352) (by decide +kernel)⟩
theorem lw_p77 : lw_okq (⟨"LaneFourModel", "keep", "(III)V"⟩, 34) := ⟨⟨by decide +kernel, by decide +kernel⟩, List.mem_of_getElem? (i := 905) (by decide +kernel), List.mem_of_getElem? (i := 1355) (by decide +kernel), List.mem_of_getElem? (i := 1356) (by decide +kernel)⟩
theorem lw_p78 : lw_okq (⟨"LaneFourModel", "countNow", "(I)I"⟩, 34) := ⟨⟨by decide +kernel, by decide +kernel⟩, List.mem_of_getElem? (i := 905) (by decide +kernel), List.mem_of_getElem? (i := 1376) (by decide +kernel), List.mem_of_getElem? (i := 1377) (by decide +kernel)⟩
def lw_privs_5 : List (MethodName × Nat) := [(⟨"LaneFourModel", "ruleFault", "()I"⟩, 34), (⟨"LaneFourModel", "worldFault", "()I"⟩, 34), (⟨"LaneFourModel", "plain", "()V"⟩, 34), (⟨"LaneFourModel", "part", "()V"⟩, 34), (⟨"LaneFourModel", "byteNow", "()I"⟩, 34), (⟨"LaneFourModel", "expects", "(I)V"⟩, 34), (⟨"LaneFourModel", "number", "(I)I"⟩, 34), (⟨"LaneFourModel", "givenNow", "(I)I"⟩, 34), (⟨"LaneFourModel", "isBetter", "(II)Z"⟩, 34), (⟨"LaneFourModel", "tenthsNow", "(II)I"⟩, 34), (⟨"LaneFourModel", "worldNow", "(I)I"⟩, 34), (⟨"LaneFourModel", "lot", "(I)I"⟩, 34), (⟨"LaneFourModel", "lacks", "(III)I"⟩, 34), (⟨"LaneFourModel", "keep", "(III)V"⟩, 34), (⟨"LaneFourModel", "countNow", "(I)I"⟩, 34)]
theorem lw_r5 : ∀ q ∈ lw_privs_5, lw_okq q := List.forall_mem_cons.mpr ⟨lw_p64, List.forall_mem_cons.mpr ⟨lw_p65, List.forall_mem_cons.mpr ⟨lw_p66, List.forall_mem_cons.mpr ⟨lw_p67, List.forall_mem_cons.mpr ⟨lw_p68, List.forall_mem_cons.mpr ⟨lw_p69, List.forall_mem_cons.mpr ⟨lw_p70, List.forall_mem_cons.mpr ⟨lw_p71, List.forall_mem_cons.mpr ⟨lw_p72, List.forall_mem_cons.mpr ⟨lw_p73, List.forall_mem_cons.mpr ⟨lw_p74, List.forall_mem_cons.mpr ⟨lw_p75, List.forall_mem_cons.mpr ⟨lw_p76, List.forall_mem_cons.mpr ⟨lw_p77, List.forall_mem_cons.mpr ⟨lw_p78, fun _ h => absurd h List.not_mem_nil⟩⟩⟩⟩⟩⟩⟩⟩⟩⟩⟩⟩⟩⟩⟩
def lw_privs : List (MethodName × Nat) := lw_privs_1 ++ (lw_privs_2 ++ (lw_privs_3 ++ (lw_privs_4 ++ (lw_privs_5))))
def lw_tbl : List Cond := k2_sels lw_privs ++ tables_1
theorem lw_privs_ok : ∀ q ∈ lw_privs, lw_okq q := by
  show ∀ q ∈ lw_privs_1 ++ (lw_privs_2 ++ (lw_privs_3 ++ (lw_privs_4 ++ (lw_privs_5)))), lw_okq q
  exact List.forall_mem_append.mpr ⟨lw_r1, List.forall_mem_append.mpr ⟨lw_r2, List.forall_mem_append.mpr ⟨lw_r3, List.forall_mem_append.mpr ⟨lw_r4, lw_r5⟩⟩⟩⟩
end
section
def RX0 : String := "LaneFour$Fraction"
def TX0 : u_T := fun k => match k with
  | 0 => ("LaneFour$Fraction", "above", "J", false)
  | _ => ("LaneFour$Fraction", "below", "J", false)
def tyX0 : Nat → FieldType := fun k => match k with
  | 0 => .long
  | _ => .long
abbrev wsX00 : List Cond := u_ws RX0 TX0 2
theorem nmX0 : ∀ a, a < 2 → ∀ b, b < 2 → a ≠ b → (TX0 a).2.1 ≠ (TX0 b).2.1 := by decide +kernel
theorem tyX0_ok : ∀ k, k < 2 → parseFieldDescriptor (TX0 k).2.2.1 = some (tyX0 k) := by decide +kernel
abbrev cX0_init : ByteArray := prog_2_method_1_code
def yX0_init : MethodName := ⟨RX0, "<init>", "()V"⟩
abbrev cX0_set : ByteArray := prog_2_method_2_code
def yX0_set : MethodName := ⟨RX0, "set", "(JJ)V"⟩
abbrev cX0_part : ByteArray := prog_2_method_3_code
def yX0_part : MethodName := ⟨RX0, "part", "(I)J"⟩
abbrev cX0_commonMultiple : ByteArray := prog_2_method_4_code
def yX0_commonMultiple : MethodName := ⟨RX0, "commonMultiple", "(JJ)J"⟩
abbrev cX0_commonPart : ByteArray := prog_2_method_5_code
def yX0_commonPart : MethodName := ⟨RX0, "commonPart", "(JJ)J"⟩
def RX1 : String := "LaneFour$Levels"
def TX1 : u_T := fun k => match k with
  | 0 => ("LaneFour$Levels", "counted", "[I", true)
  | 1 => ("LaneFour$Levels", "sums", "[J", true)
  | 2 => ("LaneFour$Levels", "scaled", "[J", true)
  | 3 => ("LaneFour$Levels", "pool", "[I", true)
  | 4 => ("LaneFour$Levels", "present", "I", false)
  | 5 => ("LaneFour$Levels", "scale", "J", false)
  | _ => ("LaneFour$Levels", "together", "J", false)
def tyX1 : Nat → FieldType := fun k => match k with
  | 0 => .array .int
  | 1 => .array .long
  | 2 => .array .long
  | 3 => .array .int
  | 4 => .int
  | 5 => .long
  | _ => .long
abbrev wsX10 : List Cond := u_ws RX1 TX1 7
theorem nmX1 : ∀ a, a < 7 → ∀ b, b < 7 → a ≠ b → (TX1 a).2.1 ≠ (TX1 b).2.1 := by decide +kernel
theorem tyX1_ok : ∀ k, k < 7 → parseFieldDescriptor (TX1 k).2.2.1 = some (tyX1 k) := by decide +kernel
abbrev cX1_init : ByteArray := prog_3_method_1_code
def yX1_init : MethodName := ⟨RX1, "<init>", "()V"⟩
abbrev cX1_clear : ByteArray := prog_3_method_2_code
def yX1_clear : MethodName := ⟨RX1, "clear", "()V"⟩
abbrev cX1_settle : ByteArray := prog_3_method_3_code
def yX1_settle : MethodName := ⟨RX1, "settle", "()V"⟩
abbrev cX1_aboveMean : ByteArray := prog_3_method_4_code
def yX1_aboveMean : MethodName := ⟨RX1, "aboveMean", "(I)J"⟩
abbrev cX1_becomeShapeOf : ByteArray := prog_3_method_5_code
def yX1_becomeShapeOf : MethodName := ⟨RX1, "becomeShapeOf", "(LLaneFour$Levels;)V"⟩
abbrev cX1_joinFirstFall : ByteArray := prog_3_method_6_code
def yX1_joinFirstFall : MethodName := ⟨RX1, "joinFirstFall", "()Z"⟩
abbrev cX1_join : ByteArray := prog_3_method_7_code
def yX1_join : MethodName := ⟨RX1, "join", "(II)V"⟩
def RX2 : String := "LaneFour$Maker"
def TX2 : u_T := fun k => match k with
  | 0 => ("LaneFour$Maker", "meet", "LLaneFour$Meet;", true)
  | 1 => ("LaneFour$Maker", "rule", "LLaneFour$Rule;", true)
  | 2 => ("LaneFour$Maker", "laws", "LLaneFour$World;", true)
  | _ => ("LaneFour$Maker", "seed", "I", false)
def tyX2 : Nat → FieldType := fun k => match k with
  | 0 => .object "LaneFour$Meet"
  | 1 => .object "LaneFour$Rule"
  | 2 => .object "LaneFour$World"
  | _ => .int
abbrev wsX20 : List Cond := u_ws RX2 TX2 4
theorem nmX2 : ∀ a, a < 4 → ∀ b, b < 4 → a ≠ b → (TX2 a).2.1 ≠ (TX2 b).2.1 := by decide +kernel
theorem tyX2_ok : ∀ k, k < 4 → parseFieldDescriptor (TX2 k).2.2.1 = some (tyX2 k) := by decide +kernel
abbrev cX2_init : ByteArray := prog_4_method_1_code
def yX2_init : MethodName := ⟨RX2, "<init>", "(LLaneFour$Meet;LLaneFour$Rule;LLaneFour$World;)V"⟩
abbrev cX2_fill : ByteArray := prog_4_method_2_code
def yX2_fill : MethodName := ⟨RX2, "fill", "(IIII)V"⟩
abbrev cX2_rankAmong : ByteArray := prog_4_method_3_code
def yX2_rankAmong : MethodName := ⟨RX2, "rankAmong", "(III)I"⟩
abbrev cX2_makeTimes : ByteArray := prog_4_method_4_code
def yX2_makeTimes : MethodName := ⟨RX2, "makeTimes", "(III)V"⟩
abbrev cX2_lot : ByteArray := prog_4_method_5_code
def yX2_lot : MethodName := ⟨RX2, "lot", "(I)I"⟩
def RX3 : String := "LaneFour$Meet"
def TX3 : u_T := fun k => match k with
  | 0 => ("LaneFour$Meet", "races", "I", false)
  | 1 => ("LaneFour$Meet", "swims", "I", false)
  | 2 => ("LaneFour$Meet", "lengths", "[I", true)
  | 3 => ("LaneFour$Meet", "dayOf", "[I", true)
  | 4 => ("LaneFour$Meet", "raceOf", "[I", true)
  | 5 => ("LaneFour$Meet", "swimmerOf", "[I", true)
  | 6 => ("LaneFour$Meet", "laneOf", "[I", true)
  | 7 => ("LaneFour$Meet", "times", "[I", true)
  | _ => ("LaneFour$Meet", "said", "[I", true)
def tyX3 : Nat → FieldType := fun k => match k with
  | 0 => .int
  | 1 => .int
  | 2 => .array .int
  | 3 => .array .int
  | 4 => .array .int
  | 5 => .array .int
  | 6 => .array .int
  | 7 => .array .int
  | _ => .array .int
abbrev wsX30 : List Cond := u_ws RX3 TX3 9
theorem nmX3 : ∀ a, a < 9 → ∀ b, b < 9 → a ≠ b → (TX3 a).2.1 ≠ (TX3 b).2.1 := by decide +kernel
theorem tyX3_ok : ∀ k, k < 9 → parseFieldDescriptor (TX3 k).2.2.1 = some (tyX3 k) := by decide +kernel
abbrev cX3_init : ByteArray := prog_5_method_1_code
def yX3_init : MethodName := ⟨RX3, "<init>", "()V"⟩
abbrev cX3_hasRace : ByteArray := prog_5_method_2_code
def yX3_hasRace : MethodName := ⟨RX3, "hasRace", "(I)Z"⟩
abbrev cX3_hasSwim : ByteArray := prog_5_method_3_code
def yX3_hasSwim : MethodName := ⟨RX3, "hasSwim", "(I)Z"⟩
abbrev cX3_isTaken : ByteArray := prog_5_method_4_code
def yX3_isTaken : MethodName := ⟨RX3, "isTaken", "(III)Z"⟩
abbrev cX3_addRace : ByteArray := prog_5_method_5_code
def yX3_addRace : MethodName := ⟨RX3, "addRace", "(II)I"⟩
abbrev cX3_addSwim : ByteArray := prog_5_method_6_code
def yX3_addSwim : MethodName := ⟨RX3, "addSwim", "(III)I"⟩
abbrev cX3_lengthsOf : ByteArray := prog_5_method_7_code
def yX3_lengthsOf : MethodName := ⟨RX3, "lengthsOf", "(I)I"⟩
abbrev cX3_timeOf : ByteArray := prog_5_method_8_code
def yX3_timeOf : MethodName := ⟨RX3, "timeOf", "(II)I"⟩
abbrev cX3_setTime : ByteArray := prog_5_method_9_code
def yX3_setTime : MethodName := ⟨RX3, "setTime", "(III)V"⟩
abbrev cX3_feltIn : ByteArray := prog_5_method_10_code
def yX3_feltIn : MethodName := ⟨RX3, "feltIn", "(I)I"⟩
abbrev cX3_togetherIn : ByteArray := prog_5_method_11_code
def yX3_togetherIn : MethodName := ⟨RX3, "togetherIn", "(I)I"⟩
abbrev cX3_togetherInAll : ByteArray := prog_5_method_12_code
def yX3_togetherInAll : MethodName := ⟨RX3, "togetherInAll", "()I"⟩
abbrev cX3_doubledMean : ByteArray := prog_5_method_13_code
def yX3_doubledMean : MethodName := ⟨RX3, "doubledMean", "(II)I"⟩
abbrev cX3_hasDiff : ByteArray := prog_5_method_14_code
def yX3_hasDiff : MethodName := ⟨RX3, "hasDiff", "(I)Z"⟩
abbrev cX3_doubledDiff : ByteArray := prog_5_method_15_code
def yX3_doubledDiff : MethodName := ⟨RX3, "doubledDiff", "(I)I"⟩
abbrev cX3_diffsInAll : ByteArray := prog_5_method_16_code
def yX3_diffsInAll : MethodName := ⟨RX3, "diffsInAll", "()I"⟩
abbrev cX3_isSingle : ByteArray := prog_5_method_17_code
def yX3_isSingle : MethodName := ⟨RX3, "isSingle", "(I)Z"⟩
abbrev cX3_singlesInAll : ByteArray := prog_5_method_18_code
def yX3_singlesInAll : MethodName := ⟨RX3, "singlesInAll", "()I"⟩
abbrev cX3_feltInRace : ByteArray := prog_5_method_19_code
def yX3_feltInRace : MethodName := ⟨RX3, "feltInRace", "(I)I"⟩
abbrev cX3_tenthsInRace : ByteArray := prog_5_method_20_code
def yX3_tenthsInRace : MethodName := ⟨RX3, "tenthsInRace", "(I)I"⟩
abbrev cX3_tenthsIn : ByteArray := prog_5_method_21_code
def yX3_tenthsIn : MethodName := ⟨RX3, "tenthsIn", "(I)I"⟩
abbrev cX3_isBetter : ByteArray := prog_5_method_22_code
def yX3_isBetter : MethodName := ⟨RX3, "isBetter", "(II)Z"⟩
def RX4 : String := "LaneFour$Rule"
def TX4 : u_T := fun k => match k with
  | _ => ("LaneFour$Rule", "text", "LLaneFour$Text;", true)
def tyX4 : Nat → FieldType := fun k => match k with
  | _ => .object "LaneFour$Text"
abbrev wsX40 : List Cond := u_ws RX4 TX4 1
theorem nmX4 : ∀ a, a < 1 → ∀ b, b < 1 → a ≠ b → (TX4 a).2.1 ≠ (TX4 b).2.1 := by decide +kernel
theorem tyX4_ok : ∀ k, k < 1 → parseFieldDescriptor (TX4 k).2.2.1 = some (tyX4 k) := by decide +kernel
abbrev cX4_init : ByteArray := prog_6_method_1_code
def yX4_init : MethodName := ⟨RX4, "<init>", "(LLaneFour$Text;)V"⟩
abbrev cX4_faultAt : ByteArray := prog_6_method_2_code
def yX4_faultAt : MethodName := ⟨RX4, "faultAt", "()I"⟩
abbrev cX4_laneFor : ByteArray := prog_6_method_3_code
def yX4_laneFor : MethodName := ⟨RX4, "laneFor", "(I)I"⟩
abbrev cX4_isKeptBy : ByteArray := prog_6_method_4_code
def yX4_isKeptBy : MethodName := ⟨RX4, "isKeptBy", "(LLaneFour$Meet;I)Z"⟩
abbrev cX4_rankOf : ByteArray := prog_6_method_5_code
def yX4_rankOf : MethodName := ⟨RX4, "rankOf", "(LLaneFour$Meet;I)I"⟩
def RX5 : String := "LaneFour$Sheet"
def TX5 : u_T := fun k => match k with
  | 0 => ("LaneFour$Sheet", "isLost", "Z", false)
  | 1 => ("LaneFour$Sheet", "kind", "I", false)
  | 2 => ("LaneFour$Sheet", "size", "I", false)
  | _ => ("LaneFour$Sheet", "items", "[I", true)
def tyX5 : Nat → FieldType := fun k => match k with
  | 0 => .boolean
  | 1 => .int
  | 2 => .int
  | _ => .array .int
abbrev wsX50 : List Cond := u_ws RX5 TX5 4
theorem nmX5 : ∀ a, a < 4 → ∀ b, b < 4 → a ≠ b → (TX5 a).2.1 ≠ (TX5 b).2.1 := by decide +kernel
theorem tyX5_ok : ∀ k, k < 4 → parseFieldDescriptor (TX5 k).2.2.1 = some (tyX5 k) := by decide +kernel
abbrev cX5_init : ByteArray := prog_7_method_1_code
def yX5_init : MethodName := ⟨RX5, "<init>", "()V"⟩
abbrev cX5_renew : ByteArray := prog_7_method_2_code
def yX5_renew : MethodName := ⟨RX5, "renew", "(II)V"⟩
abbrev cX5_hasItems : ByteArray := prog_7_method_3_code
def yX5_hasItems : MethodName := ⟨RX5, "hasItems", "(II)Z"⟩
abbrev cX5_findingAt : ByteArray := prog_7_method_4_code
def yX5_findingAt : MethodName := ⟨RX5, "findingAt", "(II)I"⟩
abbrev cX5_setItem : ByteArray := prog_7_method_5_code
def yX5_setItem : MethodName := ⟨RX5, "setItem", "(II)V"⟩
def RX6 : String := "LaneFour$Singles"
def TX6 : u_T := fun k => match k with
  | 0 => ("LaneFour$Singles", "meet", "LLaneFour$Meet;", true)
  | 1 => ("LaneFour$Singles", "shape", "LLaneFour$Levels;", true)
  | 2 => ("LaneFour$Singles", "wins", "[I", true)
  | 3 => ("LaneFour$Singles", "best", "[I", true)
  | 4 => ("LaneFour$Singles", "row", "[I", true)
  | 5 => ("LaneFour$Singles", "mostPairs", "I", false)
  | 6 => ("LaneFour$Singles", "rights", "[J", true)
  | _ => ("LaneFour$Singles", "rightsBelow", "J", false)
def tyX6 : Nat → FieldType := fun k => match k with
  | 0 => .object "LaneFour$Meet"
  | 1 => .object "LaneFour$Levels"
  | 2 => .array .int
  | 3 => .array .int
  | 4 => .array .int
  | 5 => .int
  | 6 => .array .long
  | _ => .long
abbrev wsX60 : List Cond := u_ws RX6 TX6 8
theorem nmX6 : ∀ a, a < 8 → ∀ b, b < 8 → a ≠ b → (TX6 a).2.1 ≠ (TX6 b).2.1 := by decide +kernel
theorem tyX6_ok : ∀ k, k < 8 → parseFieldDescriptor (TX6 k).2.2.1 = some (tyX6 k) := by decide +kernel
abbrev cX6_init : ByteArray := prog_8_method_1_code
def yX6_init : MethodName := ⟨RX6, "<init>", "(LLaneFour$Meet;LLaneFour$Levels;)V"⟩
abbrev cX6_survey : ByteArray := prog_8_method_2_code
def yX6_survey : MethodName := ⟨RX6, "survey", "()V"⟩
abbrev cX6_addPairsOf : ByteArray := prog_8_method_3_code
def yX6_addPairsOf : MethodName := ⟨RX6, "addPairsOf", "(I)V"⟩
abbrev cX6_arrange : ByteArray := prog_8_method_4_code
def yX6_arrange : MethodName := ⟨RX6, "arrange", "()V"⟩
abbrev cX6_leastFirst : ByteArray := prog_8_method_5_code
def yX6_leastFirst : MethodName := ⟨RX6, "leastFirst", "(I)I"⟩
abbrev cX6_pairsIfFirst : ByteArray := prog_8_method_6_code
def yX6_pairsIfFirst : MethodName := ⟨RX6, "pairsIfFirst", "(II)I"⟩
abbrev cX6_putRight : ByteArray := prog_8_method_7_code
def yX6_putRight : MethodName := ⟨RX6, "putRight", "()V"⟩
abbrev cX6_slowness : ByteArray := prog_8_method_8_code
def yX6_slowness : MethodName := ⟨RX6, "slowness", "(II)J"⟩
abbrev cX6_placeOf : ByteArray := prog_8_method_9_code
def yX6_placeOf : MethodName := ⟨RX6, "placeOf", "(II)I"⟩
abbrev cX6_changedMedals : ByteArray := prog_8_method_10_code
def yX6_changedMedals : MethodName := ⟨RX6, "changedMedals", "(I)I"⟩
abbrev cX6_hasMedal : ByteArray := prog_8_method_11_code
def yX6_hasMedal : MethodName := ⟨RX6, "hasMedal", "(II)Z"⟩
def RX7 : String := "LaneFour$Text"
def TX7 : u_T := fun k => match k with
  | 0 => ("LaneFour$Text", "bytes", "[I", true)
  | _ => ("LaneFour$Text", "size", "I", false)
def tyX7 : Nat → FieldType := fun k => match k with
  | 0 => .array .int
  | _ => .int
abbrev wsX70 : List Cond := u_ws RX7 TX7 2
theorem nmX7 : ∀ a, a < 2 → ∀ b, b < 2 → a ≠ b → (TX7 a).2.1 ≠ (TX7 b).2.1 := by decide +kernel
theorem tyX7_ok : ∀ k, k < 2 → parseFieldDescriptor (TX7 k).2.2.1 = some (tyX7 k) := by decide +kernel
abbrev cX7_init : ByteArray := prog_9_method_1_code
def yX7_init : MethodName := ⟨RX7, "<init>", "(I)V"⟩
abbrev cX7_isFull : ByteArray := prog_9_method_2_code
def yX7_isFull : MethodName := ⟨RX7, "isFull", "()Z"⟩
abbrev cX7_append : ByteArray := prog_9_method_3_code
def yX7_append : MethodName := ⟨RX7, "append", "(I)I"⟩
abbrev cX7_clear : ByteArray := prog_9_method_4_code
def yX7_clear : MethodName := ⟨RX7, "clear", "()I"⟩
def RX8 : String := "LaneFour$Water"
def TX8 : u_T := fun k => match k with
  | 0 => ("LaneFour$Water", "meet", "LLaneFour$Meet;", true)
  | 1 => ("LaneFour$Water", "plain", "LLaneFour$Levels;", true)
  | 2 => ("LaneFour$Water", "shape", "LLaneFour$Levels;", true)
  | 3 => ("LaneFour$Water", "has", "[Z", true)
  | 4 => ("LaneFour$Water", "doubled", "[I", true)
  | 5 => ("LaneFour$Water", "leanOfDay", "[I", true)
  | 6 => ("LaneFour$Water", "ranFrom", "I", false)
  | 7 => ("LaneFour$Water", "ranTo", "I", false)
  | 8 => ("LaneFour$Water", "dealt", "[J", true)
  | _ => ("LaneFour$Water", "turns", "[I", true)
def tyX8 : Nat → FieldType := fun k => match k with
  | 0 => .object "LaneFour$Meet"
  | 1 => .object "LaneFour$Levels"
  | 2 => .object "LaneFour$Levels"
  | 3 => .array .boolean
  | 4 => .array .int
  | 5 => .array .int
  | 6 => .int
  | 7 => .int
  | 8 => .array .long
  | _ => .array .int
abbrev wsX80 : List Cond := u_ws RX8 TX8 10
theorem nmX8 : ∀ a, a < 10 → ∀ b, b < 10 → a ≠ b → (TX8 a).2.1 ≠ (TX8 b).2.1 := by decide +kernel
theorem tyX8_ok : ∀ k, k < 10 → parseFieldDescriptor (TX8 k).2.2.1 = some (tyX8 k) := by decide +kernel
abbrev cX8_init : ByteArray := prog_10_method_1_code
def yX8_init : MethodName := ⟨RX8, "<init>", "(LLaneFour$Meet;LLaneFour$Levels;)V"⟩
abbrev cX8_survey : ByteArray := prog_10_method_2_code
def yX8_survey : MethodName := ⟨RX8, "survey", "()V"⟩
abbrev cX8_surveyDays : ByteArray := prog_10_method_3_code
def yX8_surveyDays : MethodName := ⟨RX8, "surveyDays", "()V"⟩
abbrev cX8_leanOfPair : ByteArray := prog_10_method_4_code
def yX8_leanOfPair : MethodName := ⟨RX8, "leanOfPair", "(II)I"⟩
abbrev cX8_leanOf : ByteArray := prog_10_method_5_code
def yX8_leanOf : MethodName := ⟨RX8, "leanOf", "(II)I"⟩
abbrev cX8_findRan : ByteArray := prog_10_method_6_code
def yX8_findRan : MethodName := ⟨RX8, "findRan", "()V"⟩
abbrev cX8_chanceOfShape : ByteArray := prog_10_method_7_code
def yX8_chanceOfShape : MethodName := ⟨RX8, "chanceOfShape", "()I"⟩
abbrev cX8_shareOfOrders : ByteArray := prog_10_method_8_code
def yX8_shareOfOrders : MethodName := ⟨RX8, "shareOfOrders", "(I)I"⟩
abbrev cX8_swap : ByteArray := prog_10_method_9_code
def yX8_swap : MethodName := ⟨RX8, "swap", "(II)J"⟩
abbrev cX8_findOwn : ByteArray := prog_10_method_10_code
def yX8_findOwn : MethodName := ⟨RX8, "findOwn", "(ILLaneFour$Fraction;)Z"⟩
def RX9 : String := "LaneFour$World"
def TX9 : u_T := fun k => match k with
  | 0 => ("LaneFour$World", "text", "LLaneFour$Text;", true)
  | 1 => ("LaneFour$World", "values", "[I", true)
  | 2 => ("LaneFour$World", "slot", "I", false)
  | _ => ("LaneFour$World", "sign", "I", false)
def tyX9 : Nat → FieldType := fun k => match k with
  | 0 => .object "LaneFour$Text"
  | 1 => .array .int
  | 2 => .int
  | _ => .int
abbrev wsX90 : List Cond := u_ws RX9 TX9 4
theorem nmX9 : ∀ a, a < 4 → ∀ b, b < 4 → a ≠ b → (TX9 a).2.1 ≠ (TX9 b).2.1 := by decide +kernel
theorem tyX9_ok : ∀ k, k < 4 → parseFieldDescriptor (TX9 k).2.2.1 = some (tyX9 k) := by decide +kernel
abbrev cX9_init : ByteArray := prog_11_method_1_code
def yX9_init : MethodName := ⟨RX9, "<init>", "(LLaneFour$Text;)V"⟩
abbrev cX9_parse : ByteArray := prog_11_method_2_code
def yX9_parse : MethodName := ⟨RX9, "parse", "()I"⟩
abbrev cX9_clearValues : ByteArray := prog_11_method_3_code
def yX9_clearValues : MethodName := ⟨RX9, "clearValues", "()V"⟩
abbrev cX9_next : ByteArray := prog_11_method_4_code
def yX9_next : MethodName := ⟨RX9, "next", "(II)I"⟩
abbrev cX9_open : ByteArray := prog_11_method_5_code
def yX9_open : MethodName := ⟨RX9, "open", "(I)I"⟩
abbrev cX9_choose : ByteArray := prog_11_method_6_code
def yX9_choose : MethodName := ⟨RX9, "choose", "(I)I"⟩
abbrev cX9_turn : ByteArray := prog_11_method_7_code
def yX9_turn : MethodName := ⟨RX9, "turn", "()I"⟩
abbrev cX9_begin : ByteArray := prog_11_method_8_code
def yX9_begin : MethodName := ⟨RX9, "begin", "(I)I"⟩
abbrev cX9_end : ByteArray := prog_11_method_9_code
def yX9_end : MethodName := ⟨RX9, "end", "(I)I"⟩
abbrev cX9_close : ByteArray := prog_11_method_10_code
def yX9_close : MethodName := ⟨RX9, "close", "(I)I"⟩
abbrev cX9_isFigure : ByteArray := prog_11_method_11_code
def yX9_isFigure : MethodName := ⟨RX9, "isFigure", "(I)Z"⟩
def RX10 : String := "LaneFour"
def TX10 : u_T := fun k => match k with
  | 0 => ("LaneFour", "meet", "LLaneFour$Meet;", true)
  | 1 => ("LaneFour", "water", "LLaneFour$Water;", true)
  | 2 => ("LaneFour", "singles", "LLaneFour$Singles;", true)
  | 3 => ("LaneFour", "texts", "[LLaneFour$Text;", true)
  | 4 => ("LaneFour", "rule", "LLaneFour$Rule;", true)
  | 5 => ("LaneFour", "laws", "LLaneFour$World;", true)
  | 6 => ("LaneFour", "maker", "LLaneFour$Maker;", true)
  | 7 => ("LaneFour", "sheets", "[LLaneFour$Sheet;", true)
  | 8 => ("LaneFour", "fraction", "LLaneFour$Fraction;", true)
  | _ => ("LaneFour", "finding", "I", false)
def tyX10 : Nat → FieldType := fun k => match k with
  | 0 => .object "LaneFour$Meet"
  | 1 => .object "LaneFour$Water"
  | 2 => .object "LaneFour$Singles"
  | 3 => .array (.object "LaneFour$Text")
  | 4 => .object "LaneFour$Rule"
  | 5 => .object "LaneFour$World"
  | 6 => .object "LaneFour$Maker"
  | 7 => .array (.object "LaneFour$Sheet")
  | 8 => .object "LaneFour$Fraction"
  | _ => .int
abbrev wsX100 : List Cond := u_ws RX10 TX10 10
theorem nmX10 : ∀ a, a < 10 → ∀ b, b < 10 → a ≠ b → (TX10 a).2.1 ≠ (TX10 b).2.1 := by decide +kernel
theorem tyX10_ok : ∀ k, k < 10 → parseFieldDescriptor (TX10 k).2.2.1 = some (tyX10 k) := by decide +kernel
abbrev cX10_init : ByteArray := prog_1_method_1_code
def yX10_init : MethodName := ⟨RX10, "<init>", "()V"⟩
abbrev cX10_race : ByteArray := prog_1_method_2_code
def yX10_race : MethodName := ⟨RX10, "race", "(II)I"⟩
abbrev cX10_swim : ByteArray := prog_1_method_3_code
def yX10_swim : MethodName := ⟨RX10, "swim", "(III)I"⟩
abbrev cX10_time : ByteArray := prog_1_method_4_code
def yX10_time : MethodName := ⟨RX10, "time", "(III)I"⟩
abbrev cX10_read : ByteArray := prog_1_method_5_code
def yX10_read : MethodName := ⟨RX10, "read", "(II)I"⟩
abbrev cX10_seeds : ByteArray := prog_1_method_6_code
def yX10_seeds : MethodName := ⟨RX10, "seeds", "(II)I"⟩
abbrev cX10_about : ByteArray := prog_1_method_7_code
def yX10_about : MethodName := ⟨RX10, "about", "(II)I"⟩
abbrev cX10_diff : ByteArray := prog_1_method_8_code
def yX10_diff : MethodName := ⟨RX10, "diff", "(II)J"⟩
abbrev cX10_lane : ByteArray := prog_1_method_9_code
def yX10_lane : MethodName := ⟨RX10, "lane", "(III)J"⟩
abbrev cX10_counts : ByteArray := prog_1_method_10_code
def yX10_counts : MethodName := ⟨RX10, "counts", "(I)I"⟩
abbrev cX10_lean : ByteArray := prog_1_method_11_code
def yX10_lean : MethodName := ⟨RX10, "lean", "(II)I"⟩
abbrev cX10_chance : ByteArray := prog_1_method_12_code
def yX10_chance : MethodName := ⟨RX10, "chance", "()I"⟩
abbrev cX10_ran : ByteArray := prog_1_method_13_code
def yX10_ran : MethodName := ⟨RX10, "ran", "(I)I"⟩
abbrev cX10_own : ByteArray := prog_1_method_14_code
def yX10_own : MethodName := ⟨RX10, "own", "(II)J"⟩
abbrev cX10_fast : ByteArray := prog_1_method_15_code
def yX10_fast : MethodName := ⟨RX10, "fast", "(I)I"⟩
abbrev cX10_twice : ByteArray := prog_1_method_16_code
def yX10_twice : MethodName := ⟨RX10, "twice", "(II)I"⟩
abbrev cX10_order : ByteArray := prog_1_method_17_code
def yX10_order : MethodName := ⟨RX10, "order", "(I)I"⟩
abbrev cX10_right : ByteArray := prog_1_method_18_code
def yX10_right : MethodName := ⟨RX10, "right", "(II)J"⟩
abbrev cX10_place : ByteArray := prog_1_method_19_code
def yX10_place : MethodName := ⟨RX10, "place", "(II)I"⟩
abbrev cX10_medals : ByteArray := prog_1_method_20_code
def yX10_medals : MethodName := ⟨RX10, "medals", "(I)I"⟩
abbrev cX10_type : ByteArray := prog_1_method_21_code
def yX10_type : MethodName := ⟨RX10, "type", "(II)I"⟩
abbrev cX10_wipe : ByteArray := prog_1_method_22_code
def yX10_wipe : MethodName := ⟨RX10, "wipe", "(I)I"⟩
abbrev cX10_fault : ByteArray := prog_1_method_23_code
def yX10_fault : MethodName := ⟨RX10, "fault", "(I)I"⟩
abbrev cX10_given : ByteArray := prog_1_method_24_code
def yX10_given : MethodName := ⟨RX10, "given", "(I)I"⟩
abbrev cX10_tenths : ByteArray := prog_1_method_25_code
def yX10_tenths : MethodName := ⟨RX10, "tenths", "(II)I"⟩
abbrev cX10_world : ByteArray := prog_1_method_26_code
def yX10_world : MethodName := ⟨RX10, "world", "(I)I"⟩
abbrev cX10_made : ByteArray := prog_1_method_27_code
def yX10_made : MethodName := ⟨RX10, "made", "(IIIII)I"⟩
abbrev cX10_sheet : ByteArray := prog_1_method_28_code
def yX10_sheet : MethodName := ⟨RX10, "sheet", "(III)I"⟩
abbrev cX10_lose : ByteArray := prog_1_method_29_code
def yX10_lose : MethodName := ⟨RX10, "lose", "(I)I"⟩
abbrev cX10_put : ByteArray := prog_1_method_30_code
def yX10_put : MethodName := ⟨RX10, "put", "(IIII)I"⟩
abbrev cX10_get : ByteArray := prog_1_method_31_code
def yX10_get : MethodName := ⟨RX10, "get", "(III)I"⟩
abbrev cX10_copy : ByteArray := prog_1_method_32_code
def yX10_copy : MethodName := ⟨RX10, "copy", "(IIIII)I"⟩
abbrev cX10_write : ByteArray := prog_1_method_33_code
def yX10_write : MethodName := ⟨RX10, "write", "(II)I"⟩
abbrev cX10_count : ByteArray := prog_1_method_34_code
def yX10_count : MethodName := ⟨RX10, "count", "(I)I"⟩
abbrev cX10_digest : ByteArray := prog_1_method_35_code
def yX10_digest : MethodName := ⟨RX10, "digest", "()J"⟩
abbrev cX10_mix : ByteArray := prog_1_method_36_code
def yX10_mix : MethodName := ⟨RX10, "mix", "(JJ)J"⟩
abbrev cX10_mixLanes : ByteArray := prog_1_method_37_code
def yX10_mixLanes : MethodName := ⟨RX10, "mixLanes", "(J)J"⟩
abbrev cX10_mixDays : ByteArray := prog_1_method_38_code
def yX10_mixDays : MethodName := ⟨RX10, "mixDays", "(J)J"⟩
abbrev cX10_mixOrder : ByteArray := prog_1_method_39_code
def yX10_mixOrder : MethodName := ⟨RX10, "mixOrder", "(J)J"⟩
abbrev cX10_mixRaces : ByteArray := prog_1_method_40_code
def yX10_mixRaces : MethodName := ⟨RX10, "mixRaces", "(J)J"⟩
abbrev cX10_mixSwims : ByteArray := prog_1_method_41_code
def yX10_mixSwims : MethodName := ⟨RX10, "mixSwims", "(J)J"⟩
abbrev cX10_ofLane : ByteArray := prog_1_method_42_code
def yX10_ofLane : MethodName := ⟨RX10, "ofLane", "(III)J"⟩
abbrev cX10_givenOf : ByteArray := prog_1_method_43_code
def yX10_givenOf : MethodName := ⟨RX10, "givenOf", "(I)I"⟩
abbrev cX10_chanceOfTenths : ByteArray := prog_1_method_44_code
def yX10_chanceOfTenths : MethodName := ⟨RX10, "chanceOfTenths", "(II)I"⟩
abbrev cX10_power : ByteArray := prog_1_method_45_code
def yX10_power : MethodName := ⟨RX10, "power", "(JI)J"⟩
abbrev cX10_within : ByteArray := prog_1_method_46_code
def yX10_within : MethodName := ⟨RX10, "within", "(III)Z"⟩
abbrev cX10_isLane : ByteArray := prog_1_method_47_code
def yX10_isLane : MethodName := ⟨RX10, "isLane", "(I)Z"⟩
abbrev cX10_isSwimmer : ByteArray := prog_1_method_48_code
def yX10_isSwimmer : MethodName := ⟨RX10, "isSwimmer", "(I)Z"⟩
abbrev cX10_isDay : ByteArray := prog_1_method_49_code
def yX10_isDay : MethodName := ⟨RX10, "isDay", "(I)Z"⟩
abbrev cX10_isSheet : ByteArray := prog_1_method_50_code
def yX10_isSheet : MethodName := ⟨RX10, "isSheet", "(I)Z"⟩
abbrev cX10_isType : ByteArray := prog_1_method_51_code
def yX10_isType : MethodName := ⟨RX10, "isType", "(I)Z"⟩
abbrev cX10_isText : ByteArray := prog_1_method_52_code
def yX10_isText : MethodName := ⟨RX10, "isText", "(I)Z"⟩
abbrev cX10_isPart : ByteArray := prog_1_method_53_code
def yX10_isPart : MethodName := ⟨RX10, "isPart", "(I)Z"⟩
abbrev cX10_mayBeRace : ByteArray := prog_1_method_54_code
def yX10_mayBeRace : MethodName := ⟨RX10, "mayBeRace", "(II)Z"⟩
abbrev cX10_mayBeTime : ByteArray := prog_1_method_55_code
def yX10_mayBeTime : MethodName := ⟨RX10, "mayBeTime", "(I)Z"⟩
abbrev cX10_refusal : ByteArray := prog_1_method_56_code
def yX10_refusal : MethodName := ⟨RX10, "refusal", "(I)J"⟩
abbrev cX10_found : ByteArray := prog_1_method_57_code
def yX10_found : MethodName := ⟨RX10, "found", "(I)I"⟩
def RX11 : String := "LaneFourModel"
def TX11 : u_T := fun k => match k with
  | 0 => ("LaneFourModel", "races", "I", false)
  | 1 => ("LaneFourModel", "lengthsOf", "[I", true)
  | 2 => ("LaneFourModel", "dayOf", "[I", true)
  | 3 => ("LaneFourModel", "swims", "I", false)
  | 4 => ("LaneFourModel", "raceOf", "[I", true)
  | 5 => ("LaneFourModel", "swimmerOf", "[I", true)
  | 6 => ("LaneFourModel", "laneOf", "[I", true)
  | 7 => ("LaneFourModel", "times", "[I", true)
  | 8 => ("LaneFourModel", "seed", "[I", true)
  | 9 => ("LaneFourModel", "laneSum", "[J", true)
  | 10 => ("LaneFourModel", "laneMany", "[J", true)
  | 11 => ("LaneFourModel", "shapeSum", "[J", true)
  | 12 => ("LaneFourModel", "shapeMany", "[J", true)
  | 13 => ("LaneFourModel", "top", "J", false)
  | 14 => ("LaneFourModel", "bottom", "J", false)
  | 15 => ("LaneFourModel", "dealt", "[J", true)
  | 16 => ("LaneFourModel", "order", "[I", true)
  | 17 => ("LaneFourModel", "quicker", "[I", true)
  | 18 => ("LaneFourModel", "mostBehind", "[I", true)
  | 19 => ("LaneFourModel", "texts", "[I", true)
  | 20 => ("LaneFourModel", "typed", "[I", true)
  | 21 => ("LaneFourModel", "given", "[I", true)
  | 22 => ("LaneFourModel", "pushes", "[I", true)
  | 23 => ("LaneFourModel", "fade", "I", false)
  | 24 => ("LaneFourModel", "range", "I", false)
  | 25 => ("LaneFourModel", "at", "I", false)
  | 26 => ("LaneFourModel", "fault", "I", false)
  | 27 => ("LaneFourModel", "seedNow", "I", false)
  | 28 => ("LaneFourModel", "isThere", "[Z", true)
  | 29 => ("LaneFourModel", "types", "[I", true)
  | 30 => ("LaneFourModel", "sizes", "[I", true)
  | 31 => ("LaneFourModel", "items", "[I", true)
  | 32 => ("LaneFourModel", "moved", "[I", true)
  | _ => ("LaneFourModel", "finding", "I", false)
def tyX11 : Nat → FieldType := fun k => match k with
  | 0 => .int
  | 1 => .array .int
  | 2 => .array .int
  | 3 => .int
  | 4 => .array .int
  | 5 => .array .int
  | 6 => .array .int
  | 7 => .array .int
  | 8 => .array .int
  | 9 => .array .long
  | 10 => .array .long
  | 11 => .array .long
  | 12 => .array .long
  | 13 => .long
  | 14 => .long
  | 15 => .array .long
  | 16 => .array .int
  | 17 => .array .int
  | 18 => .array .int
  | 19 => .array .int
  | 20 => .array .int
  | 21 => .array .int
  | 22 => .array .int
  | 23 => .int
  | 24 => .int
  | 25 => .int
  | 26 => .int
  | 27 => .int
  | 28 => .array .boolean
  | 29 => .array .int
  | 30 => .array .int
  | 31 => .array .int
  | 32 => .array .int
  | _ => .int
abbrev wsX110 : List Cond := u_ws RX11 TX11 34
theorem nmX11 : ∀ a, a < 34 → ∀ b, b < 34 → a ≠ b → (TX11 a).2.1 ≠ (TX11 b).2.1 := by decide +kernel
theorem tyX11_ok : ∀ k, k < 34 → parseFieldDescriptor (TX11 k).2.2.1 = some (tyX11 k) := by decide +kernel
abbrev cX11_init : ByteArray := prog_13_method_1_code
def yX11_init : MethodName := ⟨RX11, "<init>", "()V"⟩
abbrev cX11_in : ByteArray := prog_13_method_3_code
def yX11_in : MethodName := ⟨RX11, "in", "(III)Z"⟩
abbrev cX11_no : ByteArray := prog_13_method_4_code
def yX11_no : MethodName := ⟨RX11, "no", "(I)J"⟩
abbrev cX11_divisor : ByteArray := prog_13_method_5_code
def yX11_divisor : MethodName := ⟨RX11, "divisor", "(JJ)J"⟩
abbrev cX11_lowest : ByteArray := prog_13_method_6_code
def yX11_lowest : MethodName := ⟨RX11, "lowest", "(JJI)J"⟩
abbrev cX11_has : ByteArray := prog_13_method_7_code
def yX11_has : MethodName := ⟨RX11, "has", "(II)Z"⟩
abbrev cX11_isRace : ByteArray := prog_13_method_8_code
def yX11_isRace : MethodName := ⟨RX11, "isRace", "(I)Z"⟩
abbrev cX11_isSwim : ByteArray := prog_13_method_9_code
def yX11_isSwim : MethodName := ⟨RX11, "isSwim", "(I)Z"⟩
abbrev cX11_isLane : ByteArray := prog_13_method_10_code
def yX11_isLane : MethodName := ⟨RX11, "isLane", "(I)Z"⟩
abbrev cX11_isSwimmer : ByteArray := prog_13_method_11_code
def yX11_isSwimmer : MethodName := ⟨RX11, "isSwimmer", "(I)Z"⟩
abbrev cX11_raceMore : ByteArray := prog_13_method_12_code
def yX11_raceMore : MethodName := ⟨RX11, "raceMore", "(II)I"⟩
abbrev cX11_race : ByteArray := prog_13_method_13_code
def yX11_race : MethodName := ⟨RX11, "race", "(II)I"⟩
abbrev cX11_swimMore : ByteArray := prog_13_method_14_code
def yX11_swimMore : MethodName := ⟨RX11, "swimMore", "(III)I"⟩
abbrev cX11_swim : ByteArray := prog_13_method_15_code
def yX11_swim : MethodName := ⟨RX11, "swim", "(III)I"⟩
abbrev cX11_isTime : ByteArray := prog_13_method_16_code
def yX11_isTime : MethodName := ⟨RX11, "isTime", "(I)Z"⟩
abbrev cX11_time : ByteArray := prog_13_method_17_code
def yX11_time : MethodName := ⟨RX11, "time", "(III)I"⟩
abbrev cX11_read : ByteArray := prog_13_method_18_code
def yX11_read : MethodName := ⟨RX11, "read", "(II)I"⟩
abbrev cX11_seeds : ByteArray := prog_13_method_19_code
def yX11_seeds : MethodName := ⟨RX11, "seeds", "(II)I"⟩
abbrev cX11_feltOf : ByteArray := prog_13_method_20_code
def yX11_feltOf : MethodName := ⟨RX11, "feltOf", "(I)I"⟩
abbrev cX11_totalOf : ByteArray := prog_13_method_21_code
def yX11_totalOf : MethodName := ⟨RX11, "totalOf", "(I)I"⟩
abbrev cX11_about : ByteArray := prog_13_method_22_code
def yX11_about : MethodName := ⟨RX11, "about", "(II)I"⟩
abbrev cX11_feltOn : ByteArray := prog_13_method_23_code
def yX11_feltOn : MethodName := ⟨RX11, "feltOn", "(II)I"⟩
abbrev cX11_twiceMean : ByteArray := prog_13_method_24_code
def yX11_twiceMean : MethodName := ⟨RX11, "twiceMean", "(II)I"⟩
abbrev cX11_hasDiff : ByteArray := prog_13_method_25_code
def yX11_hasDiff : MethodName := ⟨RX11, "hasDiff", "(I)Z"⟩
abbrev cX11_twiceDiff : ByteArray := prog_13_method_26_code
def yX11_twiceDiff : MethodName := ⟨RX11, "twiceDiff", "(I)I"⟩
abbrev cX11_diff : ByteArray := prog_13_method_27_code
def yX11_diff : MethodName := ⟨RX11, "diff", "(II)J"⟩
abbrev cX11_laysLanes : ByteArray := prog_13_method_28_code
def yX11_laysLanes : MethodName := ⟨RX11, "laysLanes", "()V"⟩
abbrev cX11_laysShape : ByteArray := prog_13_method_29_code
def yX11_laysShape : MethodName := ⟨RX11, "laysShape", "()V"⟩
abbrev cX11_joins : ByteArray := prog_13_method_30_code
def yX11_joins : MethodName := ⟨RX11, "joins", "(II)V"⟩
abbrev cX11_lays : ByteArray := prog_13_method_31_code
def yX11_lays : MethodName := ⟨RX11, "lays", "(JJ)V"⟩
abbrev cX11_adds : ByteArray := prog_13_method_32_code
def yX11_adds : MethodName := ⟨RX11, "adds", "(JJ)V"⟩
abbrev cX11_lanesMany : ByteArray := prog_13_method_33_code
def yX11_lanesMany : MethodName := ⟨RX11, "lanesMany", "()I"⟩
abbrev cX11_laysLane : ByteArray := prog_13_method_34_code
def yX11_laysLane : MethodName := ⟨RX11, "laysLane", "(II)V"⟩
abbrev cX11_laneNow : ByteArray := prog_13_method_35_code
def yX11_laneNow : MethodName := ⟨RX11, "laneNow", "(III)J"⟩
abbrev cX11_lane : ByteArray := prog_13_method_36_code
def yX11_lane : MethodName := ⟨RX11, "lane", "(III)J"⟩
abbrev cX11_countsNow : ByteArray := prog_13_method_37_code
def yX11_countsNow : MethodName := ⟨RX11, "countsNow", "(I)I"⟩
abbrev cX11_counts : ByteArray := prog_13_method_38_code
def yX11_counts : MethodName := ⟨RX11, "counts", "(I)I"⟩
abbrev cX11_leanNow : ByteArray := prog_13_method_39_code
def yX11_leanNow : MethodName := ⟨RX11, "leanNow", "(II)I"⟩
abbrev cX11_lean : ByteArray := prog_13_method_40_code
def yX11_lean : MethodName := ⟨RX11, "lean", "(II)I"⟩
abbrev cX11_turns : ByteArray := prog_13_method_41_code
def yX11_turns : MethodName := ⟨RX11, "turns", "(I)Z"⟩
abbrev cX11_chanceNow : ByteArray := prog_13_method_42_code
def yX11_chanceNow : MethodName := ⟨RX11, "chanceNow", "()I"⟩
abbrev cX11_chance : ByteArray := prog_13_method_43_code
def yX11_chance : MethodName := ⟨RX11, "chance", "()I"⟩
abbrev cX11_ranNow : ByteArray := prog_13_method_44_code
def yX11_ranNow : MethodName := ⟨RX11, "ranNow", "(I)I"⟩
abbrev cX11_ran : ByteArray := prog_13_method_45_code
def yX11_ran : MethodName := ⟨RX11, "ran", "(I)I"⟩
abbrev cX11_laysOwn : ByteArray := prog_13_method_46_code
def yX11_laysOwn : MethodName := ⟨RX11, "laysOwn", "(I)Z"⟩
abbrev cX11_own : ByteArray := prog_13_method_47_code
def yX11_own : MethodName := ⟨RX11, "own", "(II)J"⟩
abbrev cX11_fast : ByteArray := prog_13_method_48_code
def yX11_fast : MethodName := ⟨RX11, "fast", "(I)I"⟩
abbrev cX11_isSingle : ByteArray := prog_13_method_49_code
def yX11_isSingle : MethodName := ⟨RX11, "isSingle", "(I)Z"⟩
abbrev cX11_twiceNow : ByteArray := prog_13_method_50_code
def yX11_twiceNow : MethodName := ⟨RX11, "twiceNow", "(II)I"⟩
abbrev cX11_twice : ByteArray := prog_13_method_51_code
def yX11_twice : MethodName := ⟨RX11, "twice", "(II)I"⟩
abbrev cX11_gain : ByteArray := prog_13_method_52_code
def yX11_gain : MethodName := ⟨RX11, "gain", "(II)I"⟩
abbrev cX11_orders : ByteArray := prog_13_method_53_code
def yX11_orders : MethodName := ⟨RX11, "orders", "()V"⟩
abbrev cX11_orderNow : ByteArray := prog_13_method_54_code
def yX11_orderNow : MethodName := ⟨RX11, "orderNow", "(I)I"⟩
abbrev cX11_order : ByteArray := prog_13_method_55_code
def yX11_order : MethodName := ⟨RX11, "order", "(I)I"⟩
abbrev cX11_laysRight : ByteArray := prog_13_method_56_code
def yX11_laysRight : MethodName := ⟨RX11, "laysRight", "(I)V"⟩
abbrev cX11_right : ByteArray := prog_13_method_57_code
def yX11_right : MethodName := ⟨RX11, "right", "(II)J"⟩
abbrev cX11_isRightLess : ByteArray := prog_13_method_58_code
def yX11_isRightLess : MethodName := ⟨RX11, "isRightLess", "(II)Z"⟩
abbrev cX11_placeNow : ByteArray := prog_13_method_59_code
def yX11_placeNow : MethodName := ⟨RX11, "placeNow", "(II)I"⟩
abbrev cX11_place : ByteArray := prog_13_method_60_code
def yX11_place : MethodName := ⟨RX11, "place", "(II)I"⟩
abbrev cX11_medalsNow : ByteArray := prog_13_method_61_code
def yX11_medalsNow : MethodName := ⟨RX11, "medalsNow", "(I)I"⟩
abbrev cX11_medals : ByteArray := prog_13_method_62_code
def yX11_medals : MethodName := ⟨RX11, "medals", "(I)I"⟩
abbrev cX11_isText : ByteArray := prog_13_method_63_code
def yX11_isText : MethodName := ⟨RX11, "isText", "(I)Z"⟩
abbrev cX11_type : ByteArray := prog_13_method_64_code
def yX11_type : MethodName := ⟨RX11, "type", "(II)I"⟩
abbrev cX11_wipe : ByteArray := prog_13_method_65_code
def yX11_wipe : MethodName := ⟨RX11, "wipe", "(I)I"⟩
abbrev cX11_ruleFault : ByteArray := prog_13_method_66_code
def yX11_ruleFault : MethodName := ⟨RX11, "ruleFault", "()I"⟩
abbrev cX11_byteNow : ByteArray := prog_13_method_67_code
def yX11_byteNow : MethodName := ⟨RX11, "byteNow", "()I"⟩
abbrev cX11_expects : ByteArray := prog_13_method_68_code
def yX11_expects : MethodName := ⟨RX11, "expects", "(I)V"⟩
abbrev cX11_number : ByteArray := prog_13_method_69_code
def yX11_number : MethodName := ⟨RX11, "number", "(I)I"⟩
abbrev cX11_part : ByteArray := prog_13_method_70_code
def yX11_part : MethodName := ⟨RX11, "part", "()V"⟩
abbrev cX11_plain : ByteArray := prog_13_method_71_code
def yX11_plain : MethodName := ⟨RX11, "plain", "()V"⟩
abbrev cX11_worldFault : ByteArray := prog_13_method_72_code
def yX11_worldFault : MethodName := ⟨RX11, "worldFault", "()I"⟩
abbrev cX11_fault : ByteArray := prog_13_method_73_code
def yX11_fault : MethodName := ⟨RX11, "fault", "(I)I"⟩
abbrev cX11_isBetter : ByteArray := prog_13_method_74_code
def yX11_isBetter : MethodName := ⟨RX11, "isBetter", "(II)Z"⟩
abbrev cX11_givenNow : ByteArray := prog_13_method_75_code
def yX11_givenNow : MethodName := ⟨RX11, "givenNow", "(I)I"⟩
abbrev cX11_given : ByteArray := prog_13_method_76_code
def yX11_given : MethodName := ⟨RX11, "given", "(I)I"⟩
abbrev cX11_tenthsNow : ByteArray := prog_13_method_77_code
def yX11_tenthsNow : MethodName := ⟨RX11, "tenthsNow", "(II)I"⟩
abbrev cX11_tenths : ByteArray := prog_13_method_78_code
def yX11_tenths : MethodName := ⟨RX11, "tenths", "(II)I"⟩
abbrev cX11_worldNow : ByteArray := prog_13_method_79_code
def yX11_worldNow : MethodName := ⟨RX11, "worldNow", "(I)I"⟩
abbrev cX11_world : ByteArray := prog_13_method_80_code
def yX11_world : MethodName := ⟨RX11, "world", "(I)I"⟩
abbrev cX11_lot : ByteArray := prog_13_method_81_code
def yX11_lot : MethodName := ⟨RX11, "lot", "(I)I"⟩
abbrev cX11_made : ByteArray := prog_13_method_82_code
def yX11_made : MethodName := ⟨RX11, "made", "(IIIII)I"⟩
abbrev cX11_meets : ByteArray := prog_13_method_83_code
def yX11_meets : MethodName := ⟨RX11, "meets", "(I)I"⟩
abbrev cX11_isSheet : ByteArray := prog_13_method_84_code
def yX11_isSheet : MethodName := ⟨RX11, "isSheet", "(I)Z"⟩
abbrev cX11_sheet : ByteArray := prog_13_method_85_code
def yX11_sheet : MethodName := ⟨RX11, "sheet", "(III)I"⟩
abbrev cX11_lose : ByteArray := prog_13_method_86_code
def yX11_lose : MethodName := ⟨RX11, "lose", "(I)I"⟩
abbrev cX11_lacks : ByteArray := prog_13_method_87_code
def yX11_lacks : MethodName := ⟨RX11, "lacks", "(III)I"⟩
abbrev cX11_keep : ByteArray := prog_13_method_88_code
def yX11_keep : MethodName := ⟨RX11, "keep", "(III)V"⟩
abbrev cX11_put : ByteArray := prog_13_method_89_code
def yX11_put : MethodName := ⟨RX11, "put", "(IIII)I"⟩
abbrev cX11_get : ByteArray := prog_13_method_90_code
def yX11_get : MethodName := ⟨RX11, "get", "(III)I"⟩
abbrev cX11_copy : ByteArray := prog_13_method_91_code
def yX11_copy : MethodName := ⟨RX11, "copy", "(IIIII)I"⟩
abbrev cX11_write : ByteArray := prog_13_method_92_code
def yX11_write : MethodName := ⟨RX11, "write", "(II)I"⟩
abbrev cX11_countNow : ByteArray := prog_13_method_93_code
def yX11_countNow : MethodName := ⟨RX11, "countNow", "(I)I"⟩
abbrev cX11_count : ByteArray := prog_13_method_94_code
def yX11_count : MethodName := ⟨RX11, "count", "(I)I"⟩
abbrev cX11_digest : ByteArray := prog_13_method_95_code
def yX11_digest : MethodName := ⟨RX11, "digest", "()J"⟩
def RJ6 : String := "java/lang/Integer"
abbrev cJ6_compare_7cf53 : ByteArray := prog_14_method_40_code
def yJ6_compare_7cf53 : MethodName := ⟨RJ6, "compare", "(II)I"⟩
def RJ9 : String := "java/lang/Math"
abbrev cJ9_abs_067f4 : ByteArray := prog_15_method_61_code
def yJ9_abs_067f4 : MethodName := ⟨RJ9, "abs", "(J)J"⟩
abbrev cJ9_max_7cf53 : ByteArray := prog_15_method_65_code
def yJ9_max_7cf53 : MethodName := ⟨RJ9, "max", "(II)I"⟩
abbrev cJ9_min_7cf53 : ByteArray := prog_15_method_69_code
def yJ9_min_7cf53 : MethodName := ⟨RJ9, "min", "(II)I"⟩
def RJ10 : String := "java/lang/System"
end
section
/-! ENGINE: a pure state (cell, slot), a fixed list of shapes, and one judgement V over the kit's W. -/
/-- the tables' words that hold wherever a call goes -/
def gtb : List Cond := lw_tbl.filter goodWord
theorem gtb_m {w : Cond} (h : w ∈ lw_tbl) (hg : goodWord w = true) : w ∈ gtb := List.mem_filter.mpr ⟨h, hg⟩
abbrev classes : List vw_C := [(RX0, TX0, 2), (RX1, TX1, 7), (RX2, TX2, 4), (RX3, TX3, 9), (RX4, TX4, 1), (RX5, TX5, 4), (RX6, TX6, 8), (RX7, TX7, 2), (RX8, TX8, 10), (RX9, TX9, 4), (RX10, TX10, 10), (RX11, TX11, 34)]
theorem en_in0 : ∀ w ∈ u_ws RX0 TX0 2, w ∈ gtb := by decide +kernel
theorem en_in1 : ∀ w ∈ u_ws RX1 TX1 7, w ∈ gtb := by decide +kernel
theorem en_in2 : ∀ w ∈ u_ws RX2 TX2 4, w ∈ gtb := by decide +kernel
theorem en_in3 : ∀ w ∈ u_ws RX3 TX3 9, w ∈ gtb := by decide +kernel
theorem en_in4 : ∀ w ∈ u_ws RX4 TX4 1, w ∈ gtb := by decide +kernel
theorem en_in5 : ∀ w ∈ u_ws RX5 TX5 4, w ∈ gtb := by decide +kernel
theorem en_in6 : ∀ w ∈ u_ws RX6 TX6 8, w ∈ gtb := by decide +kernel
theorem en_in7 : ∀ w ∈ u_ws RX7 TX7 2, w ∈ gtb := by decide +kernel
theorem en_in8 : ∀ w ∈ u_ws RX8 TX8 10, w ∈ gtb := by decide +kernel
theorem en_in9 : ∀ w ∈ u_ws RX9 TX9 4, w ∈ gtb := by decide +kernel
theorem en_in10 : ∀ w ∈ u_ws RX10 TX10 10, w ∈ gtb := by decide +kernel
theorem en_in11 : ∀ w ∈ u_ws RX11 TX11 34, w ∈ gtb := by decide +kernel
theorem en_in : ∀ (ci : Nat) (q : vw_C), classes[ci]? = some q → ∀ w ∈ u_ws q.1 q.2.1 q.2.2, w ∈ gtb := by
  intro ci q h
  match ci, h with
  | 0, h => cases h; exact en_in0
  | 1, h => cases h; exact en_in1
  | 2, h => cases h; exact en_in2
  | 3, h => cases h; exact en_in3
  | 4, h => cases h; exact en_in4
  | 5, h => cases h; exact en_in5
  | 6, h => cases h; exact en_in6
  | 7, h => cases h; exact en_in7
  | 8, h => cases h; exact en_in8
  | 9, h => cases h; exact en_in9
  | 10, h => cases h; exact en_in10
  | 11, h => cases h; exact en_in11
  | k + 12, h => simp [classes] at h
def en_ty (ci : Nat) : Nat → FieldType := match ci with
  | 0 => tyX0
  | 1 => tyX1
  | 2 => tyX2
  | 3 => tyX3
  | 4 => tyX4
  | 5 => tyX5
  | 6 => tyX6
  | 7 => tyX7
  | 8 => tyX8
  | 9 => tyX9
  | 10 => tyX10
  | _ => tyX11
theorem en_tyok : ∀ (ci : Nat) (q : vw_C), classes[ci]? = some q → ∀ k, k < q.2.2 → parseFieldDescriptor (q.2.1 k).2.2.1 = some (en_ty ci k) := by
  intro ci q h
  match ci, h with
  | 0, h => cases h; exact tyX0_ok
  | 1, h => cases h; exact tyX1_ok
  | 2, h => cases h; exact tyX2_ok
  | 3, h => cases h; exact tyX3_ok
  | 4, h => cases h; exact tyX4_ok
  | 5, h => cases h; exact tyX5_ok
  | 6, h => cases h; exact tyX6_ok
  | 7, h => cases h; exact tyX7_ok
  | 8, h => cases h; exact tyX8_ok
  | 9, h => cases h; exact tyX9_ok
  | 10, h => cases h; exact tyX10_ok
  | 11, h => cases h; exact tyX11_ok
  | k + 12, h => simp [classes] at h
theorem en_nm : ∀ (ci : Nat) (q : vw_C), classes[ci]? = some q → ∀ a, a < q.2.2 → ∀ b, b < q.2.2 → a ≠ b → (q.2.1 a).2.1 ≠ (q.2.1 b).2.1 := by
  intro ci q h
  match ci, h with
  | 0, h => cases h; exact nmX0
  | 1, h => cases h; exact nmX1
  | 2, h => cases h; exact nmX2
  | 3, h => cases h; exact nmX3
  | 4, h => cases h; exact nmX4
  | 5, h => cases h; exact nmX5
  | 6, h => cases h; exact nmX6
  | 7, h => cases h; exact nmX7
  | 8, h => cases h; exact nmX8
  | 9, h => cases h; exact nmX9
  | 10, h => cases h; exact nmX10
  | 11, h => cases h; exact nmX11
  | k + 12, h => simp [classes] at h
theorem gtb_good : GoodIn gtb gtb := fun w h => ⟨h, good_of_word (List.mem_filter.mp h).2⟩
def isNest : Cond → Bool
  | .fieldLinkNest .. => true
  | .methodLinkNest .. => true
  | _ => false
/-- the links between nest mates: they hold by va_Nw -/
def nst : List Cond := lw_tbl.filter isNest
theorem nst_m {w : Cond} (h : w ∈ lw_tbl) (hg : isNest w = true) : w ∈ nst := List.mem_filter.mpr ⟨h, hg⟩
def Nst (U : State) : Prop := ∀ w ∈ nst, va_Nw w U
theorem nst_tab {w : Cond} (h : w ∈ nst) : w.onTables = true := by
  have h1 := (List.mem_filter.mp h).2
  cases w <;> first | rfl | (simp [isNest] at h1)
theorem Nst.warm {s U : State} (hW : s.WarmedH U.vm) (h : Nst s) : Nst U := by
  intro w hw
  have h1 := (List.mem_filter.mp hw).2
  have h2 := h w hw
  cases w with
  | fieldLinkNest => exact va_Nw.warmF hW h2
  | methodLinkNest => exact va_Nw.warmM hW h2
  | _ => simp [isNest] at h1
theorem Nst.same {u U : State} (e : u.vm = U.vm) (h : Nst u) : Nst U := fun w hw => va_Nw.same (nst_tab hw) e (h w hw)
abbrev Sg : Type := (Nat → Nat → Int32) × (Nat → Nat → Int64)
abbrev Shp : Type := (Nat × Nat) ⊕ (Nat × List Nat)
abbrev Gl : Type := Launch × va_G × (Nat → Nat) × (Nat → ClassId)
abbrev MI : Type := MethodName × ByteArray × Nat × Option FieldType
abbrev Mc : Type := Program × Env × Room × State × MethodId × Array Value × List Frame × Method × Code × Nat × Nat × (Nat → Prop)
def gad (g : Gl) (j : Nat) : Nat := g.2.2.1 j
def gI (σ : Sg) (j k : Nat) : Int32 := σ.1 j k
def gL (σ : Sg) (j k : Nat) : Int64 := σ.2 j k
def sI (σ : Sg) (j k : Nat) (v : Int32) : Sg := (fun a => if a = j then upd (σ.1 a) k v else σ.1 a, σ.2)
def sL (σ : Sg) (j k : Nat) (v : Int64) : Sg := (σ.1, fun a => if a = j then vp_updL (σ.2 a) k v else σ.2 a)
def gty (g : Gl) : List (ClassId × FieldType) := [(g.2.2.2 0, .int), (g.2.2.2 1, .long), (g.2.2.2 2, .boolean), (g.2.2.2 3, .object "LaneFour$Text"), (g.2.2.2 4, .object "LaneFour$Sheet")]
/-- the cells of texts[x] (0) and sheets[x] (1) -/
def rix (t x : Nat) : Nat := match t with
  | 0 => 30 + 2 * x
  | _ => 40 + 2 * x
def fv (g : Gl) (σ : Sg) (j k t : Nat) : Value := match t with
  | 0 => .int (gI σ j k)
  | 1 => .long (gL σ j k)
  | n + 2 => .ref (gad g n)
def cE (g : Gl) (σ : Sg) (j : Nat) (s : Shp) : va_E := match s with
  | .inl (0, n) => .inl (g.2.2.2 0, n, .inl (gI σ j))
  | .inl (1, n) => .inl (g.2.2.2 1, n, .inr (.inl (gL σ j)))
  | .inl (2, n) => .inl (g.2.2.2 2, n, .inl (gI σ j))
  | .inl (t + 3, n) => .inl (g.2.2.2 (t + 3), n, .inr (.inr (.inr (.inr (fun x => some (gad g (rix t x)))))))
  | .inr (ci, ks) => .inr (ci, ks.mapIdx (fun k t => fv g σ j k t))
def wd (S : List Shp) (g : Gl) (σ : Sg) : va_W := S.mapIdx (fun j s => (gad g j, cE g σ j s))
theorem wd_at {S : List Shp} {g : Gl} {σ : Sg} {j : Nat} {s : Shp} (h : S[j]? = some s) : (wd S g σ)[j]? = some (gad g j, cE g σ j s) := by simp [wd, h]
theorem wd_of {S : List Shp} {g : Gl} {σ : Sg} {j : Nat} {q : Nat × va_E} (h : (wd S g σ)[j]? = some q) : ∃ s, S[j]? = some s ∧ q = (gad g j, cE g σ j s) := by
  simp only [wd, List.getElem?_mapIdx] at h
  cases hs : S[j]? with
  | none => rw [hs] at h; cases h
  | some s => rw [hs] at h; exact ⟨s, rfl, (Option.some.inj h).symm⟩
theorem gI_same (σ : Sg) (j k : Nat) (v : Int32) : gI (sI σ j k v) j k = v := by simp [gI, sI, upd]
theorem gI_ne (σ : Sg) {j k a b : Nat} (v : Int32) (h : a ≠ j ∨ b ≠ k) : gI (sI σ j k v) a b = gI σ a b := by
  simp only [gI, sI]
  by_cases e : a = j
  · subst e
    rcases h with h | h
    · exact absurd rfl h
    · simp [upd, h]
  · simp [e]
theorem gI_row (σ : Sg) {j k a : Nat} (v : Int32) (h : a ≠ j) : gI (sI σ j k v) a = gI σ a := by funext b; exact gI_ne σ v (Or.inl h)
theorem gL_sI (σ : Sg) (j k : Nat) (v : Int32) : gL (sI σ j k v) = gL σ := rfl
theorem gI_sL (σ : Sg) (j k : Nat) (v : Int64) : gI (sL σ j k v) = gI σ := rfl
theorem gL_same (σ : Sg) (j k : Nat) (v : Int64) : gL (sL σ j k v) j k = v := by simp [gL, sL, vp_updL]
theorem gL_ne (σ : Sg) {j k a b : Nat} (v : Int64) (h : a ≠ j ∨ b ≠ k) : gL (sL σ j k v) a b = gL σ a b := by
  simp only [gL, sL]
  by_cases e : a = j
  · subst e
    rcases h with h | h
    · exact absurd rfl h
    · simp [vp_updL, h]
  · simp [e]
theorem gL_row (σ : Sg) {j k a : Nat} (v : Int64) (h : a ≠ j) : gL (sL σ j k v) a = gL σ a := by funext b; exact gL_ne σ v (Or.inl h)
theorem gI_set (σ : Sg) (j k : Nat) (v : Int32) (a b : Nat) : gI (sI σ j k v) a b = if a = j ∧ b = k then v else gI σ a b := by
  by_cases h : a = j ∧ b = k
  · rw [if_pos h, h.1, h.2, gI_same]
  · rw [if_neg h]
    exact gI_ne σ v (by by_cases e : a = j; exact Or.inr (fun f => h ⟨e, f⟩); exact Or.inl e)
theorem gL_set (σ : Sg) (j k : Nat) (v : Int64) (a b : Nat) : gL (sL σ j k v) a b = if a = j ∧ b = k then v else gL σ a b := by
  by_cases h : a = j ∧ b = k
  · rw [if_pos h, h.1, h.2, gL_same]
  · rw [if_neg h]
    exact gL_ne σ v (by by_cases e : a = j; exact Or.inr (fun f => h ⟨e, f⟩); exact Or.inl e)
theorem cE_I {g : Gl} {σ : Sg} {j k a : Nat} {v : Int32} (h : a ≠ j) (s : Shp) : cE g (sI σ j k v) a s = cE g σ a s := by
  have hI := gI_row σ (k := k) v h
  have hL := gL_sI σ j k v
  rcases s with ⟨t, n⟩ | ⟨ci, ks⟩
  · match t with
    | 0 => simp only [cE, hI]
    | 1 => simp only [cE, hL]
    | 2 => simp only [cE, hI]
    | t + 3 => rfl
  · simp only [cE]
    congr 2
    apply List.ext_getElem?
    intro x
    simp only [List.getElem?_mapIdx]
    congr 1
    funext t
    match t with
    | 0 => simp only [fv, hI]
    | 1 => simp only [fv, hL]
    | t + 2 => rfl
theorem cE_L {g : Gl} {σ : Sg} {j k a : Nat} {v : Int64} (h : a ≠ j) (s : Shp) : cE g (sL σ j k v) a s = cE g σ a s := by
  have hI := gI_sL σ j k v
  have hL := gL_row σ (k := k) v h
  rcases s with ⟨t, n⟩ | ⟨ci, ks⟩
  · match t with
    | 0 => simp only [cE, hI]
    | 1 => simp only [cE, hL]
    | 2 => simp only [cE, hI]
    | t + 3 => rfl
  · simp only [cE]
    congr 2
    apply List.ext_getElem?
    intro x
    simp only [List.getElem?_mapIdx]
    congr 1
    funext t
    match t with
    | 0 => simp only [fv, hI]
    | 1 => simp only [fv, hL]
    | t + 2 => rfl
theorem wd_setI {S : List Shp} {g : Gl} {σ : Sg} {j k : Nat} {v : Int32} {s : Shp} {e : va_E} (h : S[j]? = some s) (he : cE g (sI σ j k v) j s = e) : (wd S g σ).set j (gad g j, e) = wd S g (sI σ j k v) := by
  apply List.ext_getElem?
  intro a
  by_cases hj : a = j
  · subst hj
    rw [List.getElem?_set_self (by simp [wd]; exact (List.getElem?_eq_some_iff.mp h).1), wd_at h, he]
  · rw [List.getElem?_set_ne (Ne.symm hj)]
    simp only [wd, List.getElem?_mapIdx]
    congr 1
    funext s'
    rw [cE_I hj]
theorem wd_setL {S : List Shp} {g : Gl} {σ : Sg} {j k : Nat} {v : Int64} {s : Shp} {e : va_E} (h : S[j]? = some s) (he : cE g (sL σ j k v) j s = e) : (wd S g σ).set j (gad g j, e) = wd S g (sL σ j k v) := by
  apply List.ext_getElem?
  intro a
  by_cases hj : a = j
  · subst hj
    rw [List.getElem?_set_self (by simp [wd]; exact (List.getElem?_eq_some_iff.mp h).1), wd_at h, he]
  · rw [List.getElem?_set_ne (Ne.symm hj)]
    simp only [wd, List.getElem?_mapIdx]
    congr 1
    funext s'
    rw [cE_L hj]
def gap (S : List Shp) (g : Gl) : Prop := ∀ a b : Nat, a < S.length → b < S.length → gad g a = gad g b → a = b
theorem wd_D {S : List Shp} {g : Gl} {A : Nat → Prop} (hg : gap S g) (hA : ∀ k, k < S.length → A (gad g k)) (σ : Sg) : va_D A (wd S g σ) := by
  refine ⟨fun i j p q hi hj hpq => ?_, fun k q hk => ?_⟩
  · obtain ⟨s1, h1, rfl⟩ := wd_of hi
    obtain ⟨s2, h2, rfl⟩ := wd_of hj
    exact hg i j (List.getElem?_eq_some_iff.mp h1).1 (List.getElem?_eq_some_iff.mp h2).1 hpq
  · obtain ⟨s1, h1, rfl⟩ := wd_of hk
    exact hA k (List.getElem?_eq_some_iff.mp h1).1
/-- the machine's side of a method under way -/
def Cx (S : List Shp) (g : Gl) (M : Mc) (i : MI) (rm : Room) : Prop := match M with
  | (p, _, R, s, m, args, _, meth, c, cells, slots, A) => p.tables.exec = Jvm.exec ∧ c.code = i.2.1 ∧ c.maxLocals = i.2.2.1 ∧ s.vm.findClass i.1.cls = some m.cls ∧ (∀ w ∈ gtb, w.before args s = true) ∧ va_K g.2.1 classes (gty g) s ∧ meth.sig.returnType = i.2.2.2 ∧ meth.locks = false ∧ R = rm ∧ (cells + 0 ≤ R.cells ∧ slots + 0 ≤ R.slots) ∧ gap S g ∧ (∀ k, k < S.length → A (gad g k)) ∧ (∀ q, s.heap.size ≤ q → A q) ∧ Nst s
def lvh (ls : Array Slot) (lv : List (Option Value)) (n : Nat) : Prop := lv.length = n ∧ ls.size = n ∧ lv_wf ls ∧ ∀ (i : Nat) (v : Value), lv[i]? = some (some v) → ls[i]? = some (.val v)
def V (S : List Shp) (g : Gl) (M : Mc) (i : MI) (Q : State → Prop) (pc : Nat) (lv : List (Option Value)) (st : List Value) (σ : Sg) : Prop := match M with
  | (p, e, R, s, m, args, below, meth, c, cells, slots, A) => ∀ (H : Heap) (locs : List Loc) (ls : Array Slot), va_P g.2.1 classes (wd S g σ) H → va_S A s.heap H locs → lvh ls lv i.2.2.1 → W p g.1 e R s m args below meth c H locs cells slots Q (F0 m pc ls st)
def Qc (S : List Shp) (g : Gl) (P : Option Value → Sg → Prop) (A : Nat → Prop) : Array Value → State → Outcome → State → Prop := fun _ st oc t => (∃ (r : Option Value) (τ : Sg), oc = .returned r ∧ P r τ ∧ va_P g.2.1 classes (wd S g τ) t.heap ∧ va_K g.2.1 classes (gty g) t) ∧ va_F A st t
def Aw (S : List Shp) (g : Gl) (sz : Nat) : Nat → Prop := fun q => (∃ k, k < S.length ∧ q = gad g k) ∨ sz ≤ q
def PQ (S : List Shp) (g : Gl) (M : Mc) (P : Option Value → Sg → Prop) : State → Prop := match M with
  | (_, _, _, s, _, args, below, _, _, cells, slots, A) => MQ below (Qc S g P A) args s cells slots A
/-- a method's contract -/
def Ct (S : List Shp) (g : Gl) (i : MI) (fr lo : Nat) (as : List Value) (σ : Sg) (P : Option Value → Sg → Prop) : Prop := ∀ sz : Nat, Met g.1 i.1 (Cond.code i.1 i.2.1 i.2.2.1 i.2.2.2 :: gtb) { frames := fr, cells := 0, slots := 0, locals := lo } (va_Pc as (fun U => U.heap.size = sz ∧ va_P g.2.1 classes (wd S g σ) U.heap ∧ va_K g.2.1 classes (gty g) U ∧ gap S g ∧ Nst U)) (Qc S g P (Aw S g sz)) 0 0 (Aw S g sz)
def Dt (r0 : Option Value) (σ0 : Sg) : Option Value → Sg → Prop := fun r τ => r = r0 ∧ τ = σ0
theorem Ct.mono {S : List Shp} {g : Gl} {i : MI} {fr lo : Nat} {as : List Value} {σ : Sg} {P P' : Option Value → Sg → Prop} (h : Ct S g i fr lo as σ P) (hp : ∀ r τ, P r τ → P' r τ) : Ct S g i fr lo as σ P' := by
  intro sz p e ha hc hk s m args below hf
  have h1 := h sz p e ha hc hk s m args below hf
  intro h2 h3 h4
  obtain ⟨t, o, q1, q2, q3, ⟨⟨r, τ, e1, e2, e3⟩, q5⟩, q6⟩ := h1 h2 h3 h4
  exact ⟨t, o, q1, q2, q3, ⟨⟨r, τ, e1, hp r τ e2, e3⟩, q5⟩, q6⟩
/-- positions of the locals that arguments take -/
def ent : List Value → List (Option Value)
  | [] => []
  | v :: vs => if v.category = 2 then some v :: none :: ent vs else some v :: ent vs
theorem ent_len : ∀ vs : List Value, (ent vs).length = (lg_sl vs).length
  | [] => rfl
  | v :: vs => by
    have ih := ent_len vs
    by_cases h : v.category = 2
    · simp [ent, lg_sl, h] at ih ⊢; omega
    · simp [ent, lg_sl, h] at ih ⊢; omega
theorem ent_args : ∀ (vs : List Value) (k i : Nat) (v : Value), (ent vs)[i]? = some (some v) → (k + i, v) ∈ lv_args k vs
  | [], k, i, v, h => by simp [ent] at h
  | w :: vs, k, i, v, h => by
    by_cases hc : w.category = 2
    · rw [show ent (w :: vs) = some w :: none :: ent vs by simp [ent, hc]] at h
      rw [lv_args, if_pos hc]
      match i, h with
      | 0, h => simp at h; subst h; simp
      | 1, h => simp at h
      | i + 2, h =>
        have := ent_args vs (k + 2) i v (by simpa using h)
        exact List.mem_cons_of_mem _ (by rw [show k + (i + 2) = k + 2 + i by omega]; exact this)
    · rw [show ent (w :: vs) = some w :: ent vs by simp [ent, hc]] at h
      rw [lv_args, if_neg hc]
      match i, h with
      | 0, h => simp at h; subst h; simp
      | i + 1, h =>
        have := ent_args vs (k + 1) i v (by simpa using h)
        exact List.mem_cons_of_mem _ (by rw [show k + (i + 1) = k + 1 + i by omega]; exact this)
theorem Ct.ofV {S : List Shp} {g : Gl} {i : MI} {fr lo : Nat} {as : List Value} {σ : Sg} {P : Option Value → Sg → Prop} (hy : plainName i.1.cls = true) (n : Nat) {lv0 : List (Option Value)} (hl : ent as ++ List.replicate n none = lv0) (hlen : lv0.length = i.2.2.1)
    (body : ∀ M : Mc, Cx S g M i { frames := fr, cells := 0, slots := 0, locals := lo } → V S g M i (PQ S g M P) 0 lv0 [] σ) : Ct S g i fr lo as σ P := by
  intro sz
  refine Met.ofW (cc := i.2.1) (maxL := i.2.2.1) (ret := i.2.2.2) hy rfl ?_
  intro p e s m args below meth c s₁ B hml hv
  obtain ⟨rfl, hsz, hP, hK, hg, hN⟩ := hv
  subst hsz
  have hts := atoms_spec (ws := Cond.code i.1 i.2.1 i.2.2.1 i.2.2.2 :: gtb) B.pre
  have hC : Cx S g (p, e, { frames := fr, cells := 0, slots := 0, locals := lo }, s, m, as.toArray, below, meth, c, 0, 0, Aw S g s.heap.size) i { frames := fr, cells := 0, slots := 0, locals := lo } := by
    exact ⟨B.exec, B.bytes, hml, findClass_of_methodNamed B.named, fun w hw => hts w (List.mem_cons_of_mem _ hw), hK, B.returns, B.notSynchronized, rfl, ⟨Nat.le_refl _, Nat.le_refl _⟩, hg, fun k hk => Or.inl ⟨k, hk, rfl⟩, fun q hq => Or.inr hq, hN⟩
  have hn : (lg_sl as).length ≤ i.2.2.1 := by
    rw [← hlen, ← hl, List.length_append, ent_len]; omega
  have he := lv_entry as hn
  rw [lg_entry_eq]
  refine body _ hC s.heap [] _ hP va_S.rf ⟨hlen, he.1, he.2.1, fun j v hj => he.2.2 (j, v) ?_⟩
  rw [← hl] at hj
  by_cases hlt : j < (ent as).length
  · rw [List.getElem?_append_left hlt] at hj
    simpa using ent_args as 0 j v hj
  · rw [List.getElem?_append_right (by omega)] at hj
    have := List.mem_of_getElem? hj
    simp at this
end
section
section
variable {S : List Shp} {g : Gl} {M : Mc} {i : MI} {rm : Room} {Q : State → Prop} {pc : Nat} {lv lv' : List (Option Value)} {st : List Value} {σ : Sg}
theorem v_iconst {n : Int} (v : Int32) (hv : Int32.ofInt n = v) (hC : Cx S g M i rm) (hd : decode i.2.1 pc = .ok (.iconst n, 1)) (kk : V S g M i Q (pc + 1) lv (.int v :: st) σ) : V S g M i Q pc lv st σ := by
  obtain ⟨p, e, R, s, m, args, below, meth, c, cells, slots, A⟩ := M
  intro H locs ls hP hS hl
  exact lv_iconst hC.1 hC.2.1 hd hv (kk H locs ls hP hS hl)
theorem v_bipush {n : Int} (v : Int32) (hv : (Int8.ofInt n).toInt32 = v) (hC : Cx S g M i rm) (hd : decode i.2.1 pc = .ok (.bipush n, 2)) (kk : V S g M i Q (pc + 2) lv (.int v :: st) σ) : V S g M i Q pc lv st σ := by
  obtain ⟨p, e, R, s, m, args, below, meth, c, cells, slots, A⟩ := M
  intro H locs ls hP hS hl
  exact lv_bipush hC.1 hC.2.1 hd hv (kk H locs ls hP hS hl)
theorem v_sipush {n : Int} (v : Int32) (hv : (Int16.ofInt n).toInt32 = v) (hC : Cx S g M i rm) (hd : decode i.2.1 pc = .ok (.sipush n, 3)) (kk : V S g M i Q (pc + 3) lv (.int v :: st) σ) : V S g M i Q pc lv st σ := by
  obtain ⟨p, e, R, s, m, args, below, meth, c, cells, slots, A⟩ := M
  intro H locs ls hP hS hl
  exact lv_sipush hC.1 hC.2.1 hd hv (kk H locs ls hP hS hl)
theorem v_ldc {index : Nat} (v : Int32) (hv : Cond.constant i.1.cls index v ∈ gtb) (hC : Cx S g M i rm) (hd : decode i.2.1 pc = .ok (.ldc index, 2)) (kk : V S g M i Q (pc + 2) lv (.int v :: st) σ) : V S g M i Q pc lv st σ := by
  obtain ⟨p, e, R, s, m, args, below, meth, c, cells, slots, A⟩ := M
  intro H locs ls hP hS hl
  exact lv_ldc hC.1 hC.2.1 hC.2.2.2.1 (hC.2.2.2.2.1 _ hv) hd (kk H locs ls hP hS hl)
theorem v_ldcw {index : Nat} (v : Int32) (hv : Cond.constant i.1.cls index v ∈ gtb) (hC : Cx S g M i rm) (hd : decode i.2.1 pc = .ok (.ldc_w index, 3)) (kk : V S g M i Q (pc + 3) lv (.int v :: st) σ) : V S g M i Q pc lv st σ := by
  obtain ⟨p, e, R, s, m, args, below, meth, c, cells, slots, A⟩ := M
  intro H locs ls hP hS hl
  exact lv_ldcw hC.1 hC.2.1 hC.2.2.2.1 (hC.2.2.2.2.1 _ hv) hd (kk H locs ls hP hS hl)
theorem v_ldc2 {index : Nat} (v : Int64) (hv : Cond.constantLong i.1.cls index v ∈ gtb) (hC : Cx S g M i rm) (hd : decode i.2.1 pc = .ok (.ldc2_w index, 3)) (kk : V S g M i Q (pc + 3) lv (.long v :: st) σ) : V S g M i Q pc lv st σ := by
  obtain ⟨p, e, R, s, m, args, below, meth, c, cells, slots, A⟩ := M
  intro H locs ls hP hS hl
  exact lv_ldc2 hC.1 hC.2.1 hC.2.2.2.1 (hC.2.2.2.2.1 _ hv) hd (kk H locs ls hP hS hl)
theorem v_lconst {n : Fin 2} (v : Int64) (hv : Int64.ofNat (n : Nat) = v) (hC : Cx S g M i rm) (hd : decode i.2.1 pc = .ok (.lconst n, 1)) (kk : V S g M i Q (pc + 1) lv (.long v :: st) σ) : V S g M i Q pc lv st σ := by
  obtain ⟨p, e, R, s, m, args, below, meth, c, cells, slots, A⟩ := M
  intro H locs ls hP hS hl
  exact lv_lconst hC.1 hC.2.1 hd hv (kk H locs ls hP hS hl)
theorem v_iadd {x y : Int32} (hC : Cx S g M i rm)  (hd : decode i.2.1 pc = .ok (.iadd, 1)) (kk : V S g M i Q (pc + 1) lv (.int (x + y) :: st) σ) : V S g M i Q pc lv (.int y :: .int x :: st) σ := by
  obtain ⟨p, e, R, s, m, args, below, meth, c, cells, slots, A⟩ := M
  intro H locs ls hP hS hl
  exact lv_iadd hC.1 hC.2.1 hd (kk H locs ls hP hS hl)
theorem v_isub {x y : Int32} (hC : Cx S g M i rm)  (hd : decode i.2.1 pc = .ok (.isub, 1)) (kk : V S g M i Q (pc + 1) lv (.int (x - y) :: st) σ) : V S g M i Q pc lv (.int y :: .int x :: st) σ := by
  obtain ⟨p, e, R, s, m, args, below, meth, c, cells, slots, A⟩ := M
  intro H locs ls hP hS hl
  exact lv_isub hC.1 hC.2.1 hd (kk H locs ls hP hS hl)
theorem v_imul {x y : Int32} (hC : Cx S g M i rm)  (hd : decode i.2.1 pc = .ok (.imul, 1)) (kk : V S g M i Q (pc + 1) lv (.int (x * y) :: st) σ) : V S g M i Q pc lv (.int y :: .int x :: st) σ := by
  obtain ⟨p, e, R, s, m, args, below, meth, c, cells, slots, A⟩ := M
  intro H locs ls hP hS hl
  exact lv_imul hC.1 hC.2.1 hd (kk H locs ls hP hS hl)
theorem v_iand {x y : Int32} (hC : Cx S g M i rm)  (hd : decode i.2.1 pc = .ok (.iand, 1)) (kk : V S g M i Q (pc + 1) lv (.int (x &&& y) :: st) σ) : V S g M i Q pc lv (.int y :: .int x :: st) σ := by
  obtain ⟨p, e, R, s, m, args, below, meth, c, cells, slots, A⟩ := M
  intro H locs ls hP hS hl
  exact lv_iand hC.1 hC.2.1 hd (kk H locs ls hP hS hl)
theorem v_ior {x y : Int32} (hC : Cx S g M i rm)  (hd : decode i.2.1 pc = .ok (.ior, 1)) (kk : V S g M i Q (pc + 1) lv (.int (x ||| y) :: st) σ) : V S g M i Q pc lv (.int y :: .int x :: st) σ := by
  obtain ⟨p, e, R, s, m, args, below, meth, c, cells, slots, A⟩ := M
  intro H locs ls hP hS hl
  exact lv_ior hC.1 hC.2.1 hd (kk H locs ls hP hS hl)
theorem v_ixor {x y : Int32} (hC : Cx S g M i rm)  (hd : decode i.2.1 pc = .ok (.ixor, 1)) (kk : V S g M i Q (pc + 1) lv (.int (x ^^^ y) :: st) σ) : V S g M i Q pc lv (.int y :: .int x :: st) σ := by
  obtain ⟨p, e, R, s, m, args, below, meth, c, cells, slots, A⟩ := M
  intro H locs ls hP hS hl
  exact lv_ixor hC.1 hC.2.1 hd (kk H locs ls hP hS hl)
theorem v_ishl {x y : Int32} (hC : Cx S g M i rm)  (hd : decode i.2.1 pc = .ok (.ishl, 1)) (kk : V S g M i Q (pc + 1) lv (.int (x <<< (y &&& 31)) :: st) σ) : V S g M i Q pc lv (.int y :: .int x :: st) σ := by
  obtain ⟨p, e, R, s, m, args, below, meth, c, cells, slots, A⟩ := M
  intro H locs ls hP hS hl
  exact lv_ishl hC.1 hC.2.1 hd (kk H locs ls hP hS hl)
theorem v_ishr {x y : Int32} (hC : Cx S g M i rm)  (hd : decode i.2.1 pc = .ok (.ishr, 1)) (kk : V S g M i Q (pc + 1) lv (.int (x >>> (y &&& 31)) :: st) σ) : V S g M i Q pc lv (.int y :: .int x :: st) σ := by
  obtain ⟨p, e, R, s, m, args, below, meth, c, cells, slots, A⟩ := M
  intro H locs ls hP hS hl
  exact lv_ishr hC.1 hC.2.1 hd (kk H locs ls hP hS hl)
theorem v_ladd {x y : Int64} (hC : Cx S g M i rm)  (hd : decode i.2.1 pc = .ok (.ladd, 1)) (kk : V S g M i Q (pc + 1) lv (.long (x + y) :: st) σ) : V S g M i Q pc lv (.long y :: .long x :: st) σ := by
  obtain ⟨p, e, R, s, m, args, below, meth, c, cells, slots, A⟩ := M
  intro H locs ls hP hS hl
  exact lv_ladd hC.1 hC.2.1 hd (kk H locs ls hP hS hl)
theorem v_lsub {x y : Int64} (hC : Cx S g M i rm)  (hd : decode i.2.1 pc = .ok (.lsub, 1)) (kk : V S g M i Q (pc + 1) lv (.long (x - y) :: st) σ) : V S g M i Q pc lv (.long y :: .long x :: st) σ := by
  obtain ⟨p, e, R, s, m, args, below, meth, c, cells, slots, A⟩ := M
  intro H locs ls hP hS hl
  exact lv_lsub hC.1 hC.2.1 hd (kk H locs ls hP hS hl)
theorem v_lmul {x y : Int64} (hC : Cx S g M i rm)  (hd : decode i.2.1 pc = .ok (.lmul, 1)) (kk : V S g M i Q (pc + 1) lv (.long (x * y) :: st) σ) : V S g M i Q pc lv (.long y :: .long x :: st) σ := by
  obtain ⟨p, e, R, s, m, args, below, meth, c, cells, slots, A⟩ := M
  intro H locs ls hP hS hl
  exact lv_lmul hC.1 hC.2.1 hd (kk H locs ls hP hS hl)
theorem v_idiv {x y : Int32} (hC : Cx S g M i rm) (hne : ¬ y = 0) (hd : decode i.2.1 pc = .ok (.idiv, 1)) (kk : V S g M i Q (pc + 1) lv (.int (x / y) :: st) σ) : V S g M i Q pc lv (.int y :: .int x :: st) σ := by
  obtain ⟨p, e, R, s, m, args, below, meth, c, cells, slots, A⟩ := M
  intro H locs ls hP hS hl
  exact lv_idiv hC.1 hC.2.1 hd hne (kk H locs ls hP hS hl)
theorem v_irem {x y : Int32} (hC : Cx S g M i rm) (hne : ¬ y = 0) (hd : decode i.2.1 pc = .ok (.irem, 1)) (kk : V S g M i Q (pc + 1) lv (.int (x - x / y * y) :: st) σ) : V S g M i Q pc lv (.int y :: .int x :: st) σ := by
  obtain ⟨p, e, R, s, m, args, below, meth, c, cells, slots, A⟩ := M
  intro H locs ls hP hS hl
  exact lv_irem hC.1 hC.2.1 hd hne (kk H locs ls hP hS hl)
theorem v_ldiv {x y : Int64} (hC : Cx S g M i rm) (hne : ¬ y = 0) (hd : decode i.2.1 pc = .ok (.ldiv, 1)) (kk : V S g M i Q (pc + 1) lv (.long (x / y) :: st) σ) : V S g M i Q pc lv (.long y :: .long x :: st) σ := by
  obtain ⟨p, e, R, s, m, args, below, meth, c, cells, slots, A⟩ := M
  intro H locs ls hP hS hl
  exact lv_ldiv hC.1 hC.2.1 hd hne (kk H locs ls hP hS hl)
theorem v_lrem {x y : Int64} (hC : Cx S g M i rm) (hne : ¬ y = 0) (hd : decode i.2.1 pc = .ok (.lrem, 1)) (kk : V S g M i Q (pc + 1) lv (.long (x - x / y * y) :: st) σ) : V S g M i Q pc lv (.long y :: .long x :: st) σ := by
  obtain ⟨p, e, R, s, m, args, below, meth, c, cells, slots, A⟩ := M
  intro H locs ls hP hS hl
  exact lv_lrem hC.1 hC.2.1 hd hne (kk H locs ls hP hS hl)
theorem v_ineg {x : Int32} (hC : Cx S g M i rm)  (hd : decode i.2.1 pc = .ok (.ineg, 1)) (kk : V S g M i Q (pc + 1) lv (.int (-x) :: st) σ) : V S g M i Q pc lv (.int x :: st) σ := by
  obtain ⟨p, e, R, s, m, args, below, meth, c, cells, slots, A⟩ := M
  intro H locs ls hP hS hl
  exact lv_ineg hC.1 hC.2.1 hd (kk H locs ls hP hS hl)
theorem v_lneg {x : Int64} (hC : Cx S g M i rm)  (hd : decode i.2.1 pc = .ok (.lneg, 1)) (kk : V S g M i Q (pc + 1) lv (.long (-x) :: st) σ) : V S g M i Q pc lv (.long x :: st) σ := by
  obtain ⟨p, e, R, s, m, args, below, meth, c, cells, slots, A⟩ := M
  intro H locs ls hP hS hl
  exact lv_lneg hC.1 hC.2.1 hd (kk H locs ls hP hS hl)
theorem v_iushr {x y : Int32} (hC : Cx S g M i rm)  (hd : decode i.2.1 pc = .ok (.iushr, 1)) (kk : V S g M i Q (pc + 1) lv (.int (x.toUInt32 >>> (y.toUInt32 &&& Int32.toUInt32 31)).toInt32 :: st) σ) : V S g M i Q pc lv (.int y :: .int x :: st) σ := by
  obtain ⟨p, e, R, s, m, args, below, meth, c, cells, slots, A⟩ := M
  intro H locs ls hP hS hl
  exact lv_iushr hC.1 hC.2.1 hd rfl (kk H locs ls hP hS hl)
theorem v_i2l {x : Int32} (hC : Cx S g M i rm)  (hd : decode i.2.1 pc = .ok (.i2l, 1)) (kk : V S g M i Q (pc + 1) lv (.long x.toInt64 :: st) σ) : V S g M i Q pc lv (.int x :: st) σ := by
  obtain ⟨p, e, R, s, m, args, below, meth, c, cells, slots, A⟩ := M
  intro H locs ls hP hS hl
  exact lv_i2l hC.1 hC.2.1 hd rfl (kk H locs ls hP hS hl)
theorem v_l2i {x : Int64} (hC : Cx S g M i rm)  (hd : decode i.2.1 pc = .ok (.l2i, 1)) (kk : V S g M i Q (pc + 1) lv (.int x.toInt32 :: st) σ) : V S g M i Q pc lv (.long x :: st) σ := by
  obtain ⟨p, e, R, s, m, args, below, meth, c, cells, slots, A⟩ := M
  intro H locs ls hP hS hl
  exact lv_l2i hC.1 hC.2.1 hd rfl (kk H locs ls hP hS hl)
theorem v_i2b {x : Int32} (hC : Cx S g M i rm)  (hd : decode i.2.1 pc = .ok (.i2b, 1)) (kk : V S g M i Q (pc + 1) lv (.int x.toInt8.toInt32 :: st) σ) : V S g M i Q pc lv (.int x :: st) σ := by
  obtain ⟨p, e, R, s, m, args, below, meth, c, cells, slots, A⟩ := M
  intro H locs ls hP hS hl
  exact lv_i2b hC.1 hC.2.1 hd rfl (kk H locs ls hP hS hl)
theorem v_i2s {x : Int32} (hC : Cx S g M i rm)  (hd : decode i.2.1 pc = .ok (.i2s, 1)) (kk : V S g M i Q (pc + 1) lv (.int x.toInt16.toInt32 :: st) σ) : V S g M i Q pc lv (.int x :: st) σ := by
  obtain ⟨p, e, R, s, m, args, below, meth, c, cells, slots, A⟩ := M
  intro H locs ls hP hS hl
  exact lv_i2s hC.1 hC.2.1 hd rfl (kk H locs ls hP hS hl)
theorem v_lcmp {x y : Int64} (hC : Cx S g M i rm)  (hd : decode i.2.1 pc = .ok (.lcmp, 1)) (kk : V S g M i Q (pc + 1) lv (.int (lg_cmp x y) :: st) σ) : V S g M i Q pc lv (.long y :: .long x :: st) σ := by
  obtain ⟨p, e, R, s, m, args, below, meth, c, cells, slots, A⟩ := M
  intro H locs ls hP hS hl
  exact W.lcmp hC.1 hC.2.1 hd (kk H locs ls hP hS hl)
theorem v_dup {a : Value} (hC : Cx S g M i rm) (hc : a.category = 1) (hd : decode i.2.1 pc = .ok (.dup, 1)) (kk : V S g M i Q (pc + 1) lv (a :: a :: st) σ) : V S g M i Q pc lv (a :: st) σ := by
  obtain ⟨p, e, R, s, m, args, below, meth, c, cells, slots, A⟩ := M
  intro H locs ls hP hS hl
  exact lv_dup hC.1 hC.2.1 hd hc (kk H locs ls hP hS hl)
theorem v_pop {a : Value} (hC : Cx S g M i rm) (hc : a.category = 1) (hd : decode i.2.1 pc = .ok (.pop, 1)) (kk : V S g M i Q (pc + 1) lv (st) σ) : V S g M i Q pc lv (a :: st) σ := by
  obtain ⟨p, e, R, s, m, args, below, meth, c, cells, slots, A⟩ := M
  intro H locs ls hP hS hl
  exact lv_pop hC.1 hC.2.1 hd hc (kk H locs ls hP hS hl)
theorem v_dup2 {a b : Value} (hC : Cx S g M i rm) (hc : a.category = 1) (hc2 : b.category = 1) (hd : decode i.2.1 pc = .ok (.dup2, 1)) (kk : V S g M i Q (pc + 1) lv (a :: b :: a :: b :: st) σ) : V S g M i Q pc lv (a :: b :: st) σ := by
  obtain ⟨p, e, R, s, m, args, below, meth, c, cells, slots, A⟩ := M
  intro H locs ls hP hS hl
  exact lv_dup2_11 hC.1 hC.2.1 hd hc hc2 (kk H locs ls hP hS hl)
theorem v_if_eq {x : Int32} {off : Int} {tgt : Nat} (hC : Cx S g M i rm) (hd : decode i.2.1 pc = .ok (.ifCond .eq off, 3)) (ht : (pc : Int) + off = (tgt : Int)) (kt : x = 0 → V S g M i Q tgt lv st σ) (kf : ¬ (x = 0) → V S g M i Q (pc + 3) lv st σ) : V S g M i Q pc lv (.int x :: st) σ := by
  obtain ⟨p, e, R, s, m, args, below, meth, c, cells, slots, A⟩ := M
  intro H locs ls hP hS hl
  exact lv_if_eq hC.1 hC.2.1 hd ht (fun h => kt h H locs ls hP hS hl) (fun h => kf h H locs ls hP hS hl)
theorem v_ic_eq {x y : Int32} {off : Int} {tgt : Nat} (hC : Cx S g M i rm) (hd : decode i.2.1 pc = .ok (.if_icmp .eq off, 3)) (ht : (pc : Int) + off = (tgt : Int)) (kt : x = y → V S g M i Q tgt lv st σ) (kf : ¬ (x = y) → V S g M i Q (pc + 3) lv st σ) : V S g M i Q pc lv (.int y :: .int x :: st) σ := by
  obtain ⟨p, e, R, s, m, args, below, meth, c, cells, slots, A⟩ := M
  intro H locs ls hP hS hl
  exact lv_icmp_eq hC.1 hC.2.1 hd ht (fun h => kt h H locs ls hP hS hl) (fun h => kf h H locs ls hP hS hl)
theorem v_if_ne {x : Int32} {off : Int} {tgt : Nat} (hC : Cx S g M i rm) (hd : decode i.2.1 pc = .ok (.ifCond .ne off, 3)) (ht : (pc : Int) + off = (tgt : Int)) (kt : ¬ x = 0 → V S g M i Q tgt lv st σ) (kf : x = 0 → V S g M i Q (pc + 3) lv st σ) : V S g M i Q pc lv (.int x :: st) σ := by
  obtain ⟨p, e, R, s, m, args, below, meth, c, cells, slots, A⟩ := M
  intro H locs ls hP hS hl
  exact lv_if_ne hC.1 hC.2.1 hd ht (fun h => kt h H locs ls hP hS hl) (fun h => kf h H locs ls hP hS hl)
theorem v_ic_ne {x y : Int32} {off : Int} {tgt : Nat} (hC : Cx S g M i rm) (hd : decode i.2.1 pc = .ok (.if_icmp .ne off, 3)) (ht : (pc : Int) + off = (tgt : Int)) (kt : ¬ x = y → V S g M i Q tgt lv st σ) (kf : x = y → V S g M i Q (pc + 3) lv st σ) : V S g M i Q pc lv (.int y :: .int x :: st) σ := by
  obtain ⟨p, e, R, s, m, args, below, meth, c, cells, slots, A⟩ := M
  intro H locs ls hP hS hl
  exact lv_icmp_ne hC.1 hC.2.1 hd ht (fun h => kt h H locs ls hP hS hl) (fun h => kf h H locs ls hP hS hl)
theorem v_if_lt {x : Int32} {off : Int} {tgt : Nat} (hC : Cx S g M i rm) (hd : decode i.2.1 pc = .ok (.ifCond .lt off, 3)) (ht : (pc : Int) + off = (tgt : Int)) (kt : x < 0 → V S g M i Q tgt lv st σ) (kf : ¬ (x < 0) → V S g M i Q (pc + 3) lv st σ) : V S g M i Q pc lv (.int x :: st) σ := by
  obtain ⟨p, e, R, s, m, args, below, meth, c, cells, slots, A⟩ := M
  intro H locs ls hP hS hl
  exact lv_if_lt hC.1 hC.2.1 hd ht (fun h => kt h H locs ls hP hS hl) (fun h => kf h H locs ls hP hS hl)
theorem v_ic_lt {x y : Int32} {off : Int} {tgt : Nat} (hC : Cx S g M i rm) (hd : decode i.2.1 pc = .ok (.if_icmp .lt off, 3)) (ht : (pc : Int) + off = (tgt : Int)) (kt : x < y → V S g M i Q tgt lv st σ) (kf : ¬ (x < y) → V S g M i Q (pc + 3) lv st σ) : V S g M i Q pc lv (.int y :: .int x :: st) σ := by
  obtain ⟨p, e, R, s, m, args, below, meth, c, cells, slots, A⟩ := M
  intro H locs ls hP hS hl
  exact lv_icmp_lt hC.1 hC.2.1 hd ht (fun h => kt h H locs ls hP hS hl) (fun h => kf h H locs ls hP hS hl)
theorem v_if_ge {x : Int32} {off : Int} {tgt : Nat} (hC : Cx S g M i rm) (hd : decode i.2.1 pc = .ok (.ifCond .ge off, 3)) (ht : (pc : Int) + off = (tgt : Int)) (kt : 0 ≤ x → V S g M i Q tgt lv st σ) (kf : ¬ (0 ≤ x) → V S g M i Q (pc + 3) lv st σ) : V S g M i Q pc lv (.int x :: st) σ := by
  obtain ⟨p, e, R, s, m, args, below, meth, c, cells, slots, A⟩ := M
  intro H locs ls hP hS hl
  exact lv_if_ge hC.1 hC.2.1 hd ht (fun h => kt h H locs ls hP hS hl) (fun h => kf h H locs ls hP hS hl)
theorem v_ic_ge {x y : Int32} {off : Int} {tgt : Nat} (hC : Cx S g M i rm) (hd : decode i.2.1 pc = .ok (.if_icmp .ge off, 3)) (ht : (pc : Int) + off = (tgt : Int)) (kt : y ≤ x → V S g M i Q tgt lv st σ) (kf : ¬ (y ≤ x) → V S g M i Q (pc + 3) lv st σ) : V S g M i Q pc lv (.int y :: .int x :: st) σ := by
  obtain ⟨p, e, R, s, m, args, below, meth, c, cells, slots, A⟩ := M
  intro H locs ls hP hS hl
  exact lv_icmp_ge hC.1 hC.2.1 hd ht (fun h => kt h H locs ls hP hS hl) (fun h => kf h H locs ls hP hS hl)
theorem v_if_gt {x : Int32} {off : Int} {tgt : Nat} (hC : Cx S g M i rm) (hd : decode i.2.1 pc = .ok (.ifCond .gt off, 3)) (ht : (pc : Int) + off = (tgt : Int)) (kt : 0 < x → V S g M i Q tgt lv st σ) (kf : ¬ (0 < x) → V S g M i Q (pc + 3) lv st σ) : V S g M i Q pc lv (.int x :: st) σ := by
  obtain ⟨p, e, R, s, m, args, below, meth, c, cells, slots, A⟩ := M
  intro H locs ls hP hS hl
  exact lv_if_gt hC.1 hC.2.1 hd ht (fun h => kt h H locs ls hP hS hl) (fun h => kf h H locs ls hP hS hl)
theorem v_ic_gt {x y : Int32} {off : Int} {tgt : Nat} (hC : Cx S g M i rm) (hd : decode i.2.1 pc = .ok (.if_icmp .gt off, 3)) (ht : (pc : Int) + off = (tgt : Int)) (kt : y < x → V S g M i Q tgt lv st σ) (kf : ¬ (y < x) → V S g M i Q (pc + 3) lv st σ) : V S g M i Q pc lv (.int y :: .int x :: st) σ := by
  obtain ⟨p, e, R, s, m, args, below, meth, c, cells, slots, A⟩ := M
  intro H locs ls hP hS hl
  exact lv_icmp_gt hC.1 hC.2.1 hd ht (fun h => kt h H locs ls hP hS hl) (fun h => kf h H locs ls hP hS hl)
theorem v_if_le {x : Int32} {off : Int} {tgt : Nat} (hC : Cx S g M i rm) (hd : decode i.2.1 pc = .ok (.ifCond .le off, 3)) (ht : (pc : Int) + off = (tgt : Int)) (kt : x ≤ 0 → V S g M i Q tgt lv st σ) (kf : ¬ (x ≤ 0) → V S g M i Q (pc + 3) lv st σ) : V S g M i Q pc lv (.int x :: st) σ := by
  obtain ⟨p, e, R, s, m, args, below, meth, c, cells, slots, A⟩ := M
  intro H locs ls hP hS hl
  exact lv_if_le hC.1 hC.2.1 hd ht (fun h => kt h H locs ls hP hS hl) (fun h => kf h H locs ls hP hS hl)
theorem v_ic_le {x y : Int32} {off : Int} {tgt : Nat} (hC : Cx S g M i rm) (hd : decode i.2.1 pc = .ok (.if_icmp .le off, 3)) (ht : (pc : Int) + off = (tgt : Int)) (kt : x ≤ y → V S g M i Q tgt lv st σ) (kf : ¬ (x ≤ y) → V S g M i Q (pc + 3) lv st σ) : V S g M i Q pc lv (.int y :: .int x :: st) σ := by
  obtain ⟨p, e, R, s, m, args, below, meth, c, cells, slots, A⟩ := M
  intro H locs ls hP hS hl
  exact lv_icmp_le hC.1 hC.2.1 hd ht (fun h => kt h H locs ls hP hS hl) (fun h => kf h H locs ls hP hS hl)
theorem v_goto {off : Int} {tgt : Nat} (hC : Cx S g M i rm) (hd : decode i.2.1 pc = .ok (.goto off, 3)) (ht : (pc : Int) + off = (tgt : Int)) (k : V S g M i Q tgt lv st σ) : V S g M i Q pc lv st σ := by
  obtain ⟨p, e, R, s, m, args, below, meth, c, cells, slots, A⟩ := M
  intro H locs ls hP hS hl
  exact lv_goto hC.1 hC.2.1 hd ht (k H locs ls hP hS hl)
theorem v_tsOut {dflt lo hi : Int} {offs : Array Int} {len : Nat} {x : Int32} {tgt : Nat} (hC : Cx S g M i rm) (hd : decode i.2.1 pc = .ok (.tableswitch dflt lo hi offs, len)) (h : x.toInt < lo ∨ hi < x.toInt) (ht : (pc : Int) + dflt = (tgt : Int)) (k : V S g M i Q tgt lv st σ) : V S g M i Q pc lv (.int x :: st) σ := by
  obtain ⟨p, e, R, s, m, args, below, meth, c, cells, slots, A⟩ := M
  intro H locs ls hP hS hl
  exact lv_tableOut hC.1 hC.2.1 hd h ht (k H locs ls hP hS hl)
theorem v_tsIn {dflt lo hi off : Int} {offs : Array Int} {len : Nat} {x : Int32} {tgt : Nat} (hC : Cx S g M i rm) (hd : decode i.2.1 pc = .ok (.tableswitch dflt lo hi offs, len)) (h1 : ¬ x.toInt < lo) (h2 : ¬ hi < x.toInt) (ho : offs[(x.toInt - lo).toNat]? = some off) (ht : (pc : Int) + off = (tgt : Int)) (k : V S g M i Q tgt lv st σ) : V S g M i Q pc lv (.int x :: st) σ := by
  obtain ⟨p, e, R, s, m, args, below, meth, c, cells, slots, A⟩ := M
  intro H locs ls hP hS hl
  exact lv_tableIn hC.1 hC.2.1 hd h1 h2 ho ht (k H locs ls hP hS hl)
theorem v_iload {k : Nat} {x : Int32} (hC : Cx S g M i rm) (hd : decode i.2.1 pc = .ok (.iload k, 2)) (hk : lv[k]? = some (some (.int x))) (kk : V S g M i Q (pc + 2) lv (.int x :: st) σ) : V S g M i Q pc lv st σ := by
  obtain ⟨p, e, R, s, m, args, below, meth, c, cells, slots, A⟩ := M
  intro H locs ls hP hS hl
  exact lv_iload hC.1 hC.2.1 hd (hl.2.2.2 k _ hk) (kk H locs ls hP hS hl)
theorem v_iload_n {k : Fin 4} {x : Int32} (hC : Cx S g M i rm) (hd : decode i.2.1 pc = .ok (.iload_n k, 1)) (hk : lv[(k : Nat)]? = some (some (.int x))) (kk : V S g M i Q (pc + 1) lv (.int x :: st) σ) : V S g M i Q pc lv st σ := by
  obtain ⟨p, e, R, s, m, args, below, meth, c, cells, slots, A⟩ := M
  intro H locs ls hP hS hl
  exact lv_iload_n hC.1 hC.2.1 hd rfl (hl.2.2.2 _ _ hk) (kk H locs ls hP hS hl)
theorem v_lload {k : Nat} {x : Int64} (hC : Cx S g M i rm) (hd : decode i.2.1 pc = .ok (.lload k, 2)) (hk : lv[k]? = some (some (.long x))) (kk : V S g M i Q (pc + 2) lv (.long x :: st) σ) : V S g M i Q pc lv st σ := by
  obtain ⟨p, e, R, s, m, args, below, meth, c, cells, slots, A⟩ := M
  intro H locs ls hP hS hl
  exact lv_lload hC.1 hC.2.1 hd (hl.2.2.2 k _ hk) (kk H locs ls hP hS hl)
theorem v_lload_n {k : Fin 4} {x : Int64} (hC : Cx S g M i rm) (hd : decode i.2.1 pc = .ok (.lload_n k, 1)) (hk : lv[(k : Nat)]? = some (some (.long x))) (kk : V S g M i Q (pc + 1) lv (.long x :: st) σ) : V S g M i Q pc lv st σ := by
  obtain ⟨p, e, R, s, m, args, below, meth, c, cells, slots, A⟩ := M
  intro H locs ls hP hS hl
  exact lv_lload_n hC.1 hC.2.1 hd rfl (hl.2.2.2 _ _ hk) (kk H locs ls hP hS hl)
theorem v_aload {k : Nat} {x : Nat} (hC : Cx S g M i rm) (hd : decode i.2.1 pc = .ok (.aload k, 2)) (hk : lv[k]? = some (some (.ref x))) (kk : V S g M i Q (pc + 2) lv (.ref x :: st) σ) : V S g M i Q pc lv st σ := by
  obtain ⟨p, e, R, s, m, args, below, meth, c, cells, slots, A⟩ := M
  intro H locs ls hP hS hl
  exact lv_aload hC.1 hC.2.1 hd (hl.2.2.2 k _ hk) (kk H locs ls hP hS hl)
theorem v_aload_n {k : Fin 4} {x : Nat} (hC : Cx S g M i rm) (hd : decode i.2.1 pc = .ok (.aload_n k, 1)) (hk : lv[(k : Nat)]? = some (some (.ref x))) (kk : V S g M i Q (pc + 1) lv (.ref x :: st) σ) : V S g M i Q pc lv st σ := by
  obtain ⟨p, e, R, s, m, args, below, meth, c, cells, slots, A⟩ := M
  intro H locs ls hP hS hl
  exact lv_aload_n hC.1 hC.2.1 hd rfl (hl.2.2.2 _ _ hk) (kk H locs ls hP hS hl)
end
def asl (lv : List (Option Value)) : List (Nat × Value) := (List.range lv.length).filterMap (fun i => (lv[i]?).bind (fun o => o.map (fun v => (i, v))))
theorem asl_iff {lv : List (Option Value)} {j : Nat} {v : Value} : (j, v) ∈ asl lv ↔ lv[j]? = some (some v) := by
  simp only [asl, List.mem_filterMap, List.mem_range]
  constructor
  · rintro ⟨a, ha, h⟩
    cases h1 : lv[a]? with
    | none => rw [h1] at h; cases h
    | some o =>
      rw [h1] at h
      cases o with
      | none => cases h
      | some w =>
        simp at h
        obtain ⟨rfl, rfl⟩ := h
        exact h1
  · intro h
    exact ⟨j, (List.getElem?_eq_some_iff.mp h).1, by rw [h]; rfl⟩
theorem lvh_has {ls : Array Slot} {lv : List (Option Value)} {n : Nat} (h : lvh ls lv n) : lv_has ls n (asl lv) := ⟨h.2.1, h.2.2.1, fun q hq => h.2.2.2 q.1 q.2 (asl_iff.mp hq)⟩
/-- no long stands just ahead of the place -/
def ok1 (lv : List (Option Value)) (k : Nat) : Bool := match k with
  | 0 => true
  | j + 1 => match lv[j]? with
    | some (some v) => v.category != 2
    | _ => true
theorem lvh_st1 {ls' : Array Slot} {lv : List (Option Value)} {n k : Nat} {v : Value} (hn : lv.length = n) (hk : ok1 lv k = true) (hl : k < n) (h : lv_has ls' n ((k, v) :: (asl lv).filter (fun q => !(q.1 == k) && !(q.1 + 1 == k && q.2.category == 2)))) : lvh ls' (lv.set k (some v)) n := by
  refine ⟨by simp [hn], h.1, h.2.1, fun j w hj => ?_⟩
  by_cases e : j = k
  · subst e
    rw [List.getElem?_set_self (by omega)] at hj
    simp at hj
    subst hj
    exact h.2.2 (j, v) List.mem_cons_self
  · rw [List.getElem?_set_ne (Ne.symm e)] at hj
    refine h.2.2 (j, w) (List.mem_cons_of_mem _ (List.mem_filter.mpr ⟨asl_iff.mpr hj, ?_⟩))
    simp only [Bool.and_eq_true, Bool.not_eq_true', beq_eq_false_iff_ne, ne_eq, e, not_false_eq_true, true_and, Bool.and_eq_false_iff]
    by_cases e2 : j + 1 = k
    · right
      subst e2
      simp only [ok1, hj] at hk
      simpa using hk
    · left
      exact e2
theorem lvh_st2 {ls' : Array Slot} {lv : List (Option Value)} {n k : Nat} {v : Value} (hn : lv.length = n) (hk : ok1 lv k = true) (hl : k + 1 < n) (h : lv_has ls' n ((k, v) :: (asl lv).filter (fun q => !(q.1 == k) && (!(q.1 == k + 1) && !(q.1 + 1 == k && q.2.category == 2))))) : lvh ls' ((lv.set k (some v)).set (k + 1) none) n := by
  refine ⟨by simp [hn], h.1, h.2.1, fun j w hj => ?_⟩
  by_cases e1 : j = k + 1
  · subst e1
    rw [List.getElem?_set_self (by simp; omega)] at hj
    simp at hj
  · rw [List.getElem?_set_ne (Ne.symm e1)] at hj
    by_cases e : j = k
    · subst e
      rw [List.getElem?_set_self (by omega)] at hj
      simp at hj
      subst hj
      exact h.2.2 (j, v) List.mem_cons_self
    · rw [List.getElem?_set_ne (Ne.symm e)] at hj
      refine h.2.2 (j, w) (List.mem_cons_of_mem _ (List.mem_filter.mpr ⟨asl_iff.mpr hj, ?_⟩))
      simp only [Bool.and_eq_true, Bool.not_eq_true', beq_eq_false_iff_ne, ne_eq, e, e1, not_false_eq_true, true_and, Bool.and_eq_false_iff]
      by_cases e2 : j + 1 = k
      · right
        subst e2
        simp only [ok1, hj] at hk
        simpa using hk
      · left
        exact e2
section
variable {S : List Shp} {g : Gl} {M : Mc} {i : MI} {rm : Room} {Q : State → Prop} {pc : Nat} {lv lv' : List (Option Value)} {st : List Value} {σ : Sg}
theorem v_istore {k : Nat} {x x' : Int32} (hC : Cx S g M i rm) (hd : decode i.2.1 pc = .ok (.istore k, 2)) (hx : x = x') (hn : Nat.blt k i.2.2.1 = true) (ho : ok1 lv k = true) (hs : lv.set k (some (.int x')) = lv') (kk : V S g M i Q (pc + 2) lv' st σ) : V S g M i Q pc lv (.int x :: st) σ := by
  obtain ⟨p, e, R, s, m, args, below, meth, c, cells, slots, A⟩ := M
  intro H locs ls hP hS hl
  subst hs; subst hx
  have hn' : k < i.2.2.1 := by simpa [Nat.blt_eq] using hn
  exact lv_istore hC.1 hC.2.1 hd (lvh_has hl) hn' rfl (fun ls' h => kk H locs ls' hP hS (lvh_st1 hl.1 ho hn' h))
theorem v_istore_n {k : Fin 4} {x x' : Int32} (hC : Cx S g M i rm) (hd : decode i.2.1 pc = .ok (.istore_n k, 1)) (hx : x = x') (hn : Nat.blt (k : Nat) i.2.2.1 = true) (ho : ok1 lv (k : Nat) = true) (hs : lv.set (k : Nat) (some (.int x')) = lv') (kk : V S g M i Q (pc + 1) lv' st σ) : V S g M i Q pc lv (.int x :: st) σ := by
  obtain ⟨p, e, R, s, m, args, below, meth, c, cells, slots, A⟩ := M
  intro H locs ls hP hS hl
  subst hs; subst hx
  have hn' : (k : Nat) < i.2.2.1 := by simpa [Nat.blt_eq] using hn
  exact lv_istore_n hC.1 hC.2.1 hd rfl (lvh_has hl) hn' rfl (fun ls' h => kk H locs ls' hP hS (lvh_st1 hl.1 ho hn' h))
theorem v_astore {k : Nat} {x x' : Nat} (hC : Cx S g M i rm) (hd : decode i.2.1 pc = .ok (.astore k, 2)) (hx : x = x') (hn : Nat.blt k i.2.2.1 = true) (ho : ok1 lv k = true) (hs : lv.set k (some (.ref x')) = lv') (kk : V S g M i Q (pc + 2) lv' st σ) : V S g M i Q pc lv (.ref x :: st) σ := by
  obtain ⟨p, e, R, s, m, args, below, meth, c, cells, slots, A⟩ := M
  intro H locs ls hP hS hl
  subst hs; subst hx
  have hn' : k < i.2.2.1 := by simpa [Nat.blt_eq] using hn
  exact lv_astore hC.1 hC.2.1 hd (lvh_has hl) hn' rfl (fun ls' h => kk H locs ls' hP hS (lvh_st1 hl.1 ho hn' h))
theorem v_astore_n {k : Fin 4} {x x' : Nat} (hC : Cx S g M i rm) (hd : decode i.2.1 pc = .ok (.astore_n k, 1)) (hx : x = x') (hn : Nat.blt (k : Nat) i.2.2.1 = true) (ho : ok1 lv (k : Nat) = true) (hs : lv.set (k : Nat) (some (.ref x')) = lv') (kk : V S g M i Q (pc + 1) lv' st σ) : V S g M i Q pc lv (.ref x :: st) σ := by
  obtain ⟨p, e, R, s, m, args, below, meth, c, cells, slots, A⟩ := M
  intro H locs ls hP hS hl
  subst hs; subst hx
  have hn' : (k : Nat) < i.2.2.1 := by simpa [Nat.blt_eq] using hn
  exact lv_astore_n hC.1 hC.2.1 hd rfl (lvh_has hl) hn' rfl (fun ls' h => kk H locs ls' hP hS (lvh_st1 hl.1 ho hn' h))
theorem v_lstore {k : Nat} {x x' : Int64} (hC : Cx S g M i rm) (hd : decode i.2.1 pc = .ok (.lstore k, 2)) (hx : x = x') (hn : Nat.blt (k + 1) i.2.2.1 = true) (ho : ok1 lv k = true) (hs : (lv.set k (some (.long x'))).set (k + 1) none = lv') (kk : V S g M i Q (pc + 2) lv' st σ) : V S g M i Q pc lv (.long x :: st) σ := by
  obtain ⟨p, e, R, s, m, args, below, meth, c, cells, slots, A⟩ := M
  intro H locs ls hP hS hl
  subst hs; subst hx
  have hn' : k + 1 < i.2.2.1 := by simpa [Nat.blt_eq] using hn
  exact lv_lstore hC.1 hC.2.1 hd (lvh_has hl) hn' rfl (fun ls' h => kk H locs ls' hP hS (lvh_st2 hl.1 ho hn' h))
theorem v_lstore_n {k : Fin 4} {x x' : Int64} (hC : Cx S g M i rm) (hd : decode i.2.1 pc = .ok (.lstore_n k, 1)) (hx : x = x') (hn : Nat.blt ((k : Nat) + 1) i.2.2.1 = true) (ho : ok1 lv (k : Nat) = true) (hs : (lv.set (k : Nat) (some (.long x'))).set ((k : Nat) + 1) none = lv') (kk : V S g M i Q (pc + 1) lv' st σ) : V S g M i Q pc lv (.long x :: st) σ := by
  obtain ⟨p, e, R, s, m, args, below, meth, c, cells, slots, A⟩ := M
  intro H locs ls hP hS hl
  subst hs; subst hx
  have hn' : (k : Nat) + 1 < i.2.2.1 := by simpa [Nat.blt_eq] using hn
  exact lv_lstore_n hC.1 hC.2.1 hd rfl (lvh_has hl) hn' rfl (fun ls' h => kk H locs ls' hP hS (lvh_st2 hl.1 ho hn' h))
theorem v_iinc {k : Nat} {n : Int} {x x' : Int32} (d : Int32) (he : Int32.ofInt n = d) (hx : x + d = x') (hC : Cx S g M i rm) (hd : decode i.2.1 pc = .ok (.iinc k n, 3)) (hk : lv[k]? = some (some (.int x))) (hn : Nat.blt k i.2.2.1 = true) (ho : ok1 lv k = true) (hs : lv.set k (some (.int x')) = lv') (kk : V S g M i Q (pc + 3) lv' st σ) : V S g M i Q pc lv st σ := by
  obtain ⟨p, e, R, s, m, args, below, meth, c, cells, slots, A⟩ := M
  intro H locs ls hP hS hl
  subst hs; subst hx
  subst he
  have hn' : k < i.2.2.1 := by simpa [Nat.blt_eq] using hn
  obtain ⟨q, hq⟩ := List.getElem?_of_mem (asl_iff.mpr hk)
  exact lv_iinc hC.1 hC.2.1 hd (lvh_has hl) hq rfl hn' rfl (fun ls' h => kk H locs ls' hP hS (lvh_st1 hl.1 ho hn' h))
end
end
section
/-! rows of V for the heap, calls, returns, loops -/
theorem fs_I {g : Gl} {σ : Sg} {j k : Nat} {ks : List Nat} {v : Int32} (hk : ks[k]? = some 0) : ks.mapIdx (fun x t => fv g (sI σ j k v) j x t) = (ks.mapIdx (fun x t => fv g σ j x t)).set k (.int v) := by
  apply List.ext_getElem?
  intro x
  by_cases e : x = k
  · subst e
    rw [List.getElem?_set_self (by simp; exact (List.getElem?_eq_some_iff.mp hk).1)]
    simp [hk, fv, gI_same]
  · rw [List.getElem?_set_ne (Ne.symm e)]
    simp only [List.getElem?_mapIdx]
    congr 1
    funext t
    match t with
    | 0 => simp only [fv]; rw [gI_ne σ v (Or.inr e)]
    | 1 => simp only [fv, gL_sI]
    | t + 2 => rfl
theorem fs_L {g : Gl} {σ : Sg} {j k : Nat} {ks : List Nat} {v : Int64} (hk : ks[k]? = some 1) : ks.mapIdx (fun x t => fv g (sL σ j k v) j x t) = (ks.mapIdx (fun x t => fv g σ j x t)).set k (.long v) := by
  apply List.ext_getElem?
  intro x
  by_cases e : x = k
  · subst e
    rw [List.getElem?_set_self (by simp; exact (List.getElem?_eq_some_iff.mp hk).1)]
    simp [hk, fv, gL_same]
  · rw [List.getElem?_set_ne (Ne.symm e)]
    simp only [List.getElem?_mapIdx]
    congr 1
    funext t
    match t with
    | 0 => simp only [fv, gI_sL]
    | 1 => simp only [fv]; rw [gL_ne σ v (Or.inr e)]
    | t + 2 => rfl
theorem rowI (σ : Sg) (j k : Nat) (v : Int32) : gI (sI σ j k v) j = upd (gI σ j) k v := by funext b; simp [gI, sI]; rfl
theorem rowL (σ : Sg) (j k : Nat) (v : Int64) : gL (sL σ j k v) j = vp_updL (gL σ j) k v := by funext b; simp [gL, sL]; rfl
section
variable {S : List Shp} {g : Gl} {M : Mc} {i : MI} {rm : Room} {Q : State → Prop} {pc : Nat} {lv lv' : List (Option Value)} {st : List Value} {σ : Sg}
theorem V.weak (h : lv.length = lv'.length) (hw : ∀ (j : Nat) (v : Value), lv'[j]? = some (some v) → lv[j]? = some (some v)) (kk : V S g M i Q pc lv' st σ) : V S g M i Q pc lv st σ := by
  obtain ⟨p, e, R, s, m, args, below, meth, c, cells, slots, A⟩ := M
  intro H locs ls hP hS hl
  exact kk H locs ls hP hS ⟨h ▸ hl.1, hl.2.1, hl.2.2.1, fun j v hj => hl.2.2.2 j v (hw j v hj)⟩
theorem v_get {index j ci t : Nat} {ks : List Nat} {q : vw_C} {v : Value} (k : Nat) (hC : Cx S g M i rm) (hS : S[j]? = some (.inr (ci, ks))) (hc : classes[ci]? = some q) (hk : k < q.2.2) (ht : ks[k]? = some t) (hv : fv g σ j k t = v) (hlink : Cond.fieldLink i.1.cls index (q.2.1 k).1 (q.2.1 k).2.1 (q.2.1 k).2.2.1 ∈ gtb) (hd : decode i.2.1 pc = .ok (.getfield index, 3)) (kk : V S g M i Q (pc + 3) lv (v :: st) σ) : V S g M i Q pc lv (.ref (gad g j) :: st) σ := by
  obtain ⟨p, e, R, s, m, args, below, meth, c, cells, slots, A⟩ := M
  intro H locs ls hP hS' hl
  obtain ⟨hx, hb, hml, hown, hts, hK, hret, hlk, hR, hroom, hgap, hA, hA2, hN⟩ := hC
  exact va_get hx hb hts (en_in ci q hc) hown hK hP j (wd_at hS) hc k hk (hts _ hlink) (fun _ h => h) (v := v) (by subst hv; simp [ht]) hd (kk H locs ls hP hS' hl)
theorem v_getN {index j ci t : Nat} {ks : List Nat} {q : vw_C} {v : Value} {host : String} (k : Nat) (hC : Cx S g M i rm) (hS : S[j]? = some (.inr (ci, ks))) (hc : classes[ci]? = some q) (hk : k < q.2.2) (ht : ks[k]? = some t) (hv : fv g σ j k t = v) (hlink : Cond.fieldLinkNest i.1.cls index (q.2.1 k).1 (q.2.1 k).2.1 (q.2.1 k).2.2.1 host ∈ nst) (hd : decode i.2.1 pc = .ok (.getfield index, 3)) (kk : V S g M i Q (pc + 3) lv (v :: st) σ) : V S g M i Q pc lv (.ref (gad g j) :: st) σ := by
  obtain ⟨p, e, R, s, m, args, below, meth, c, cells, slots, A⟩ := M
  intro H locs ls hP hS' hl
  obtain ⟨hx, hb, hml, hown, hts, hK, hret, hlk, hR, hroom, hgap, hA, hA2, hN⟩ := hC
  exact va_getN hx hb hts (en_in ci q hc) hown hK hP j (wd_at hS) hc k hk (va_Nw.use rfl (hN _ hlink)) (fun _ h => h) (v := v) (by subst hv; simp [ht]) hd (kk H locs ls hP hS' hl)
theorem v_putI {index j ci : Nat} {ks : List Nat} {q : vw_C} {x : Int32} (k : Nat) (hC : Cx S g M i rm) (hS : S[j]? = some (.inr (ci, ks))) (hc : classes[ci]? = some q) (hk : k < q.2.2) (ht : ks[k]? = some 0) (hfin : (q.2.1 k).2.2.2 = false) (hn : narrow (en_ty ci k) (.int x) = .int x) (hfit : fits (en_ty ci k) (.int x) = true) (hlink : Cond.fieldLink i.1.cls index (q.2.1 k).1 (q.2.1 k).2.1 (q.2.1 k).2.2.1 ∈ gtb) (hd : decode i.2.1 pc = .ok (.putfield index, 3)) (kk : V S g M i Q (pc + 3) lv st (sI σ j k x)) : V S g M i Q pc lv (.int x :: .ref (gad g j) :: st) σ := by
  obtain ⟨p, e, R, s, m, args, below, meth, c, cells, slots, A⟩ := M
  intro H locs ls hP hS' hl
  obtain ⟨hx, hb, hml, hown, hts, hK, hret, hlk, hR, hroom, hgap, hA, hA2, hN⟩ := hC
  refine va_put hx hb hts (en_in ci q hc) (en_ty ci) (en_tyok ci q hc) (en_nm ci q hc) hown hK hP (wd_D hgap hA σ) hS' j (wd_at hS) hc k hk (hts _ hlink) (fun _ h => h) hfin (en_tyok ci q hc k hk) hn hfit (by simp; exact (List.getElem?_eq_some_iff.mp ht).1) hd (fun H1 locs1 hP1 _ hS1 => ?_)
  refine kk H1 locs1 ls ?_ hS1 hl
  rw [wd_setI hS (by show Sum.inr (ci, _) = _; rw [fs_I ht])] at hP1
  exact hP1
theorem v_putIN {index j ci : Nat} {ks : List Nat} {q : vw_C} {x : Int32} {host : String} (k : Nat) (hC : Cx S g M i rm) (hS : S[j]? = some (.inr (ci, ks))) (hc : classes[ci]? = some q) (hk : k < q.2.2) (ht : ks[k]? = some 0) (hfin : (q.2.1 k).2.2.2 = false) (hn : narrow (en_ty ci k) (.int x) = .int x) (hfit : fits (en_ty ci k) (.int x) = true) (hlink : Cond.fieldLinkNest i.1.cls index (q.2.1 k).1 (q.2.1 k).2.1 (q.2.1 k).2.2.1 host ∈ nst) (hd : decode i.2.1 pc = .ok (.putfield index, 3)) (kk : V S g M i Q (pc + 3) lv st (sI σ j k x)) : V S g M i Q pc lv (.int x :: .ref (gad g j) :: st) σ := by
  obtain ⟨p, e, R, s, m, args, below, meth, c, cells, slots, A⟩ := M
  intro H locs ls hP hS' hl
  obtain ⟨hx, hb, hml, hown, hts, hK, hret, hlk, hR, hroom, hgap, hA, hA2, hN⟩ := hC
  refine va_putN hx hb hts (en_in ci q hc) (en_ty ci) (en_tyok ci q hc) (en_nm ci q hc) hown hK hP (wd_D hgap hA σ) hS' j (wd_at hS) hc k hk (va_Nw.use rfl (hN _ hlink)) (fun _ h => h) hfin (en_tyok ci q hc k hk) hn hfit (by simp; exact (List.getElem?_eq_some_iff.mp ht).1) hd (fun H1 locs1 hP1 _ hS1 => ?_)
  refine kk H1 locs1 ls ?_ hS1 hl
  rw [wd_setI hS (by show Sum.inr (ci, _) = _; rw [fs_I ht])] at hP1
  exact hP1
theorem v_putL {index j ci : Nat} {ks : List Nat} {q : vw_C} {x : Int64} (k : Nat) (hC : Cx S g M i rm) (hS : S[j]? = some (.inr (ci, ks))) (hc : classes[ci]? = some q) (hk : k < q.2.2) (ht : ks[k]? = some 1) (hfin : (q.2.1 k).2.2.2 = false) (hn : narrow (en_ty ci k) (.long x) = .long x) (hfit : fits (en_ty ci k) (.long x) = true) (hlink : Cond.fieldLink i.1.cls index (q.2.1 k).1 (q.2.1 k).2.1 (q.2.1 k).2.2.1 ∈ gtb) (hd : decode i.2.1 pc = .ok (.putfield index, 3)) (kk : V S g M i Q (pc + 3) lv st (sL σ j k x)) : V S g M i Q pc lv (.long x :: .ref (gad g j) :: st) σ := by
  obtain ⟨p, e, R, s, m, args, below, meth, c, cells, slots, A⟩ := M
  intro H locs ls hP hS' hl
  obtain ⟨hx, hb, hml, hown, hts, hK, hret, hlk, hR, hroom, hgap, hA, hA2, hN⟩ := hC
  refine va_put hx hb hts (en_in ci q hc) (en_ty ci) (en_tyok ci q hc) (en_nm ci q hc) hown hK hP (wd_D hgap hA σ) hS' j (wd_at hS) hc k hk (hts _ hlink) (fun _ h => h) hfin (en_tyok ci q hc k hk) hn hfit (by simp; exact (List.getElem?_eq_some_iff.mp ht).1) hd (fun H1 locs1 hP1 _ hS1 => ?_)
  refine kk H1 locs1 ls ?_ hS1 hl
  rw [wd_setL hS (by show Sum.inr (ci, _) = _; rw [fs_L ht])] at hP1
  exact hP1
theorem v_iald {j n : Nat} {x : Int32} (hC : Cx S g M i rm) (hS : S[j]? = some (.inl (0, n))) (hin : vp_in x n) (hd : decode i.2.1 pc = .ok (.iaload, 1)) (kk : V S g M i Q (pc + 1) lv (.int (gI σ j x.toNatClampNeg) :: st) σ) : V S g M i Q pc lv (.int x :: .ref (gad g j) :: st) σ := by
  obtain ⟨p, e, R, s, m, args, below, meth, c, cells, slots, A⟩ := M
  intro H locs ls hP hS' hl
  obtain ⟨hx, hb, hml, hown, hts, hK, hret, hlk, hR, hroom, hgap, hA, hA2, hN⟩ := hC
  exact va_iald hx hb hK hP j 0 (wd_at hS) rfl hin hd (kk H locs ls hP hS' hl)
theorem v_zald {j n : Nat} {x : Int32} (hC : Cx S g M i rm) (hS : S[j]? = some (.inl (2, n))) (hin : vp_in x n) (hd : decode i.2.1 pc = .ok (.baload, 1)) (kk : V S g M i Q (pc + 1) lv (.int (gI σ j x.toNatClampNeg) :: st) σ) : V S g M i Q pc lv (.int x :: .ref (gad g j) :: st) σ := by
  obtain ⟨p, e, R, s, m, args, below, meth, c, cells, slots, A⟩ := M
  intro H locs ls hP hS' hl
  obtain ⟨hx, hb, hml, hown, hts, hK, hret, hlk, hR, hroom, hgap, hA, hA2, hN⟩ := hC
  exact va_zald hx hb hK hP j 2 (wd_at hS) rfl hin hd (kk H locs ls hP hS' hl)
theorem v_lald {j n : Nat} {x : Int32} (hC : Cx S g M i rm) (hS : S[j]? = some (.inl (1, n))) (hin : vp_in x n) (hd : decode i.2.1 pc = .ok (.laload, 1)) (kk : V S g M i Q (pc + 1) lv (.long (gL σ j x.toNatClampNeg) :: st) σ) : V S g M i Q pc lv (.int x :: .ref (gad g j) :: st) σ := by
  obtain ⟨p, e, R, s, m, args, below, meth, c, cells, slots, A⟩ := M
  intro H locs ls hP hS' hl
  obtain ⟨hx, hb, hml, hown, hts, hK, hret, hlk, hR, hroom, hgap, hA, hA2, hN⟩ := hC
  exact va_lald hx hb hK hP j 1 (wd_at hS) rfl hin hd (kk H locs ls hP hS' hl)
theorem v_aald {j n t : Nat} {C : String} {cA : ClassId} {x : Int32} (hC : Cx S g M i rm) (hS : S[j]? = some (.inl (t + 3, n))) (hty : (gty g)[t + 3]? = some (g.2.2.2 (t + 3), .object C)) (hin : vp_in x n) (hd : decode i.2.1 pc = .ok (.aaload, 1)) (kk : V S g M i Q (pc + 1) lv (.ref (gad g (rix t x.toNatClampNeg)) :: st) σ) : V S g M i Q pc lv (.int x :: .ref (gad g j) :: st) σ := by
  obtain ⟨p, e, R, s, m, args, below, meth, c, cells, slots, A⟩ := M
  intro H locs ls hP hS' hl
  obtain ⟨hx, hb, hml, hown, hts, hK, hret, hlk, hR, hroom, hgap, hA, hA2, hN⟩ := hC
  exact va_aldq hx hb hK hP j (t + 3) (wd_at hS) hty hin hd (kk H locs ls hP hS' hl)
theorem v_iast {j n : Nat} {x y : Int32} (hC : Cx S g M i rm) (hS : S[j]? = some (.inl (0, n))) (hin : vp_in x n) (hd : decode i.2.1 pc = .ok (.iastore, 1)) (kk : V S g M i Q (pc + 1) lv st (sI σ j x.toNatClampNeg y)) : V S g M i Q pc lv (.int y :: .int x :: .ref (gad g j) :: st) σ := by
  obtain ⟨p, e, R, s, m, args, below, meth, c, cells, slots, A⟩ := M
  intro H locs ls hP hS' hl
  obtain ⟨hx, hb, hml, hown, hts, hK, hret, hlk, hR, hroom, hgap, hA, hA2, hN⟩ := hC
  refine va_iast hx hb hK hP (wd_D hgap hA σ) hS' j 0 (wd_at hS) rfl hin hd (fun H1 locs1 hP1 _ hS1 => kk H1 locs1 ls ?_ hS1 hl)
  rw [wd_setI (k := x.toNatClampNeg) (v := y) hS (by simp only [cE, rowI])] at hP1
  exact hP1
theorem v_zast {j n : Nat} {x y : Int32} (hC : Cx S g M i rm) (hS : S[j]? = some (.inl (2, n))) (hin : vp_in x n) (hd : decode i.2.1 pc = .ok (.bastore, 1)) (kk : V S g M i Q (pc + 1) lv st (sI σ j x.toNatClampNeg (vp_nar .boolean y))) : V S g M i Q pc lv (.int y :: .int x :: .ref (gad g j) :: st) σ := by
  obtain ⟨p, e, R, s, m, args, below, meth, c, cells, slots, A⟩ := M
  intro H locs ls hP hS' hl
  obtain ⟨hx, hb, hml, hown, hts, hK, hret, hlk, hR, hroom, hgap, hA, hA2, hN⟩ := hC
  refine va_zast hx hb hK hP (wd_D hgap hA σ) hS' j 2 (wd_at hS) rfl hin hd (fun H1 locs1 hP1 _ hS1 => kk H1 locs1 ls ?_ hS1 hl)
  rw [wd_setI (k := x.toNatClampNeg) (v := vp_nar .boolean y) hS (by simp only [cE, rowI])] at hP1
  exact hP1
theorem v_last {j n : Nat} {x : Int32} {y : Int64} (hC : Cx S g M i rm) (hS : S[j]? = some (.inl (1, n))) (hin : vp_in x n) (hd : decode i.2.1 pc = .ok (.lastore, 1)) (kk : V S g M i Q (pc + 1) lv st (sL σ j x.toNatClampNeg y)) : V S g M i Q pc lv (.long y :: .int x :: .ref (gad g j) :: st) σ := by
  obtain ⟨p, e, R, s, m, args, below, meth, c, cells, slots, A⟩ := M
  intro H locs ls hP hS' hl
  obtain ⟨hx, hb, hml, hown, hts, hK, hret, hlk, hR, hroom, hgap, hA, hA2, hN⟩ := hC
  refine va_last hx hb hK hP (wd_D hgap hA σ) hS' j 1 (wd_at hS) rfl hin hd (fun H1 locs1 hP1 _ hS1 => kk H1 locs1 ls ?_ hS1 hl)
  rw [wd_setL (k := x.toNatClampNeg) (v := y) hS (by simp only [cE, rowL])] at hP1
  exact hP1
theorem v_alen {j n : Nat} (v : Int32) (hv : Int32.ofNat n = v) (hC : Cx S g M i rm) (hS : S[j]? = some (.inl (0, n))) (hd : decode i.2.1 pc = .ok (.arraylength, 1)) (kk : V S g M i Q (pc + 1) lv (.int v :: st) σ) : V S g M i Q pc lv (.ref (gad g j) :: st) σ := by
  obtain ⟨p, e, R, s, m, args, below, meth, c, cells, slots, A⟩ := M
  intro H locs ls hP hS' hl
  obtain ⟨hx, hb, hml, hown, hts, hK, hret, hlk, hR, hroom, hgap, hA, hA2, hN⟩ := hC
  exact va_alen hx hb hK hP j 0 (wd_at hS) (ty := .int) rfl hv hd (kk H locs ls hP hS' hl)
def cpI (σ : Sg) (j0 j1 sp dp n : Nat) : Sg := (fun a => if a = j1 then va_cpy (σ.1 j0) (σ.1 j1) sp dp n else σ.1 a, σ.2)
theorem wd_cp {j0 j1 sp dp n N : Nat} (h : S[j1]? = some (.inl (0, N))) : (wd S g σ).set j1 (gad g j1, .inl (g.2.2.2 0, N, .inl (va_cpy (gI σ j0) (gI σ j1) sp dp n))) = wd S g (cpI σ j0 j1 sp dp n) := by
  apply List.ext_getElem?
  intro a
  by_cases hj : a = j1
  · subst hj
    rw [List.getElem?_set_self (by simp [wd]; exact (List.getElem?_eq_some_iff.mp h).1), wd_at h]
    simp only [cE, cpI]
    have e : gI (fun b => if b = a then va_cpy (σ.1 j0) (σ.1 a) sp dp n else σ.1 b, σ.2) a = va_cpy (gI σ j0) (gI σ a) sp dp n := by
      show (if a = a then va_cpy (σ.1 j0) (σ.1 a) sp dp n else σ.1 a) = _
      rw [if_pos rfl]; rfl
    rw [e]
  · rw [List.getElem?_set_ne (Ne.symm hj)]
    simp only [wd, List.getElem?_mapIdx]
    congr 1
    funext s'
    have hI : gI (cpI σ j0 j1 sp dp n) a = gI σ a := by funext b; simp [gI, cpI, hj]
    have hL : gL (cpI σ j0 j1 sp dp n) = gL σ := rfl
    congr 1
    rcases s' with ⟨t, n'⟩ | ⟨ci, ks⟩
    · match t with
      | 0 => simp only [cE, hI]
      | 1 => simp only [cE, hL]
      | 2 => simp only [cE, hI]
      | t + 3 => rfl
    · simp only [cE]
      congr 2
      apply List.ext_getElem?
      intro x
      simp only [List.getElem?_mapIdx]
      congr 1
      funext t
      match t with
      | 0 => simp only [fv, hI]
      | 1 => simp only [fv, hL]
      | t + 2 => rfl
theorem v_acopy {index j0 j1 n0 n1 fr lo : Nat} {sp dp n : Int32} (hC : Cx S g M i { frames := fr, cells := 0, slots := 0, locals := lo }) (hS0 : S[j0]? = some (.inl (0, n0))) (hS1 : S[j1]? = some (.inl (0, n1))) (h1 : ¬ sp < 0) (h2 : ¬ dp < 0) (h3 : ¬ n < 0) (h4 : sp.toNatClampNeg + n.toNatClampNeg ≤ n0) (h5 : dp.toNatClampNeg + n.toNatClampNeg ≤ n1)
    (hlink : Cond.methodLink i.1.cls index arraycopyName ∈ gtb) (hnat : Cond.native arraycopyName ∈ gtb) (hstat : Cond.static arraycopyName ∈ gtb) (hini : Cond.initialized "java/lang/System" ∈ gtb)
    (hfr : 1 ≤ fr) (hlo : nativeFrameWords "java/lang/System" "arraycopy" 5 + 11 ≤ lo) (hd : decode i.2.1 pc = .ok (.invokestatic index, 3)) (kk : V S g M i Q (pc + 3) lv [] (cpI σ j0 j1 sp.toNatClampNeg dp.toNatClampNeg n.toNatClampNeg)) : V S g M i Q pc lv [.int n, .int dp, .ref (gad g j1), .int sp, .ref (gad g j0)] σ := by
  obtain ⟨p, e, R, s, m, args, below, meth, c, cells, slots, A⟩ := M
  intro H locs ls hP hS' hl
  obtain ⟨hx, hb, hml, hown, hts, hK, hret, hlk, hR, hroom, hgap, hA, hA2, hN⟩ := hC
  subst hR
  refine va_copyi hx hb (hml.trans hl.2.1.symm) hown (hts _ hlink) (hts _ hnat) (hts _ hstat) (hts _ hini) hK hP (wd_D hgap hA σ) hS' j0 j1 0 0 (wd_at hS0) (wd_at hS1) rfl rfl rfl h1 h2 h3 h4 h5 (fun _ _ => rfl) hfr (by simpa using hlo) hd (fun H1 locs1 hP1 _ hS1' => kk H1 locs1 ls ?_ hS1' hl)
  rw [wd_cp hS1] at hP1
  exact hP1
theorem v_iret {P : Option Value → Sg → Prop} {x : Int32} (hC : Cx S g M i rm) (hr : i.2.2.2 = some .int) (hd : decode i.2.1 pc = .ok (.ireturn, 1)) (hp : P (some (.int x)) σ) : V S g M i (PQ S g M P) pc lv [.int x] σ := by
  obtain ⟨p, e, R, s, m, args, below, meth, c, cells, slots, A⟩ := M
  intro H locs ls hP hS' hl
  obtain ⟨hx, hb, hml, hown, hts, hK, hret, hlk, hR, hroom, hgap, hA, hA2, hN⟩ := hC
  exact W.iret hx hb (hret.trans hr) (fun t ht hW => ⟨⟨_, σ, rfl, hp, by rw [ht]; exact hP, hK.moved hW.alike⟩, hS'.F ht⟩) hS'.2.2 hd hlk
theorem v_zret {P : Option Value → Sg → Prop} {x : Int32} (hC : Cx S g M i rm) (hr : i.2.2.2 = some .boolean) (hn : narrow .boolean (.int x) = .int x) (hd : decode i.2.1 pc = .ok (.ireturn, 1)) (hp : P (some (.int x)) σ) : V S g M i (PQ S g M P) pc lv [.int x] σ := by
  obtain ⟨p, e, R, s, m, args, below, meth, c, cells, slots, A⟩ := M
  intro H locs ls hP hS' hl
  obtain ⟨hx, hb, hml, hown, hts, hK, hret, hlk, hR, hroom, hgap, hA, hA2, hN⟩ := hC
  exact W.zret hx hb (hret.trans hr) hn (fun t ht hW => ⟨⟨_, σ, rfl, hp, by rw [ht]; exact hP, hK.moved hW.alike⟩, hS'.F ht⟩) hS'.2.2 hd hlk
theorem v_lret {P : Option Value → Sg → Prop} {x : Int64} (hC : Cx S g M i rm) (hr : i.2.2.2 = some .long) (hd : decode i.2.1 pc = .ok (.lreturn, 1)) (hp : P (some (.long x)) σ) : V S g M i (PQ S g M P) pc lv [.long x] σ := by
  obtain ⟨p, e, R, s, m, args, below, meth, c, cells, slots, A⟩ := M
  intro H locs ls hP hS' hl
  obtain ⟨hx, hb, hml, hown, hts, hK, hret, hlk, hR, hroom, hgap, hA, hA2, hN⟩ := hC
  exact W.lret hx hb (hret.trans hr) (fun t ht hW => ⟨⟨_, σ, rfl, hp, by rw [ht]; exact hP, hK.moved hW.alike⟩, hS'.F ht⟩) hS'.2.2 hd hlk
theorem v_vret {P : Option Value → Sg → Prop} (hC : Cx S g M i rm) (hr : i.2.2.2 = none) (hd : decode i.2.1 pc = .ok (.return_, 1)) (hp : P none σ) : V S g M i (PQ S g M P) pc lv [] σ := by
  obtain ⟨p, e, R, s, m, args, below, meth, c, cells, slots, A⟩ := M
  intro H locs ls hP hS' hl
  obtain ⟨hx, hb, hml, hown, hts, hK, hret, hlk, hR, hroom, hgap, hA, hA2, hN⟩ := hC
  exact W.vret hx hb (hret.trans hr) (fun t ht hW => ⟨⟨_, σ, rfl, hp, by rw [ht]; exact hP, hK.moved hW.alike⟩, hS'.F ht⟩) hS'.2.2 hd hlk
end
end
section
/-! calls, loops, and the pure words that the printed functions are made of -/
/-- what a caller must know of a method -/
def Gm (i : MI) (n : Nat) : Prop := Cond.code i.1 i.2.1 i.2.2.1 i.2.2.2 ∈ gtb ∧ Cond.initialized i.1.cls ∈ gtb ∧ (i.1.cls ≠ "java/lang/invoke/MethodHandle" ∧ i.1.cls ≠ "java/lang/invoke/VarHandle" ∧ (parseMethodDescriptor i.1.desc).map (fun d => d.parameters.length) = some n)
def GmS (i : MI) (n : Nat) : Prop := Gm i n ∧ Cond.static i.1 ∈ gtb
def GmV (i : MI) (n : Nat) : Prop := Gm i n ∧ Cond.instanceMethod i.1 ∈ gtb ∧ Cond.selects i.1.cls i.1 i.1 ∈ gtb
theorem gm_good {i : MI} {n : Nat} (h : Gm i n) : GoodIn gtb (Cond.code i.1 i.2.1 i.2.2.1 i.2.2.2 :: gtb) := by
  intro w hw
  rcases List.mem_cons.mp hw with rfl | hw
  · exact gtb_good _ h.1
  · exact gtb_good _ hw
section
variable {S : List Shp} {g : Gl} {σ τ : Sg} {r : Option Value}
theorem ct_run {p : Program} {e : Env} {R : Room} {s : State} {m : MethodId} {args : Array Value} {below : List Frame} {meth : Method} {c : Code} {H : Heap} {locs : List Loc} {cells slots pc : Nat} {Q : State → Prop} {ls : Array Slot} {st0 rest : List Value} {a : Array Value} {A : Nat → Prop} (hS : va_S A s.heap H locs) (hA : ∀ k, k < S.length → A (gad g k)) (hA2 : ∀ q, s.heap.size ≤ q → A q)
    (hr : va_Run p g.1 e R s m args below meth c H locs cells slots 0 0 (F0 m pc ls st0) rest (Qc S g (Dt r τ) (Aw S g H.size) a) (Aw S g H.size))
    (kk : ∀ (H1 : Heap) (locs1 : List Loc), va_P g.2.1 classes (wd S g τ) H1 → va_S A s.heap H1 locs1 → W p g.1 e R s m args below meth c H1 locs1 cells slots Q (F0 m (pc + 3) ls (r.toList ++ rest))) : W p g.1 e R s m args below meth c H locs cells slots Q (F0 m pc ls st0) := by
  intro T hT X
  obtain ⟨v, st₀, t, T', L, h0, X', hL, e1, e2, ⟨⟨r', τ', hv, ⟨h1, h2⟩, hP1, hK1⟩, hz, hk⟩, st⟩ := hr T hT X
  cases hv
  subst h1; subst h2
  rw [h0] at hz hk
  have hF : ∀ q, Aw S g H.size q → A q := by
    intro q hq
    rcases hq with ⟨k, hk, rfl⟩ | hq
    · exact hA k hk
    · exact hA2 q (Nat.le_trans hS.1 hq)
  obtain ⟨t2, a1, b1⟩ := kk T'.heap (locs ++ L) (by rw [e1]; exact hP1)
    ⟨Nat.le_trans hS.1 (by rw [e1]; exact hz), fun q h1 h2 => by rw [e1, hk q (Nat.lt_of_lt_of_le h1 hS.1) (fun z => h2 (hF q z))]; exact hS.2.1 q h1 h2, fun q hq => by
      rcases List.mem_append.mp hq with h | h
      · exact hS.2.2 q h
      · exact hF _ (hL q h)⟩ T' rfl X'
  exact ⟨t2, st t2 a1, b1⟩
theorem ct_blind {as : List Value} {sz : Nat} : FrameBlind (va_Pc as (fun U => U.heap.size = sz ∧ va_P g.2.1 classes (wd S g σ) U.heap ∧ va_K g.2.1 classes (gty g) U ∧ gap S g ∧ Nst U)) := by
  intro a U gf mk q
  obtain ⟨q0, q1, qP, qK, qG, qN⟩ := q
  exact ⟨q0, q1, qP, va_K.moved (u := U) (U := U.calling gf mk a) (Vm.Alike.refl U.vm) qK, qG, Nst.same (u := U) rfl qN⟩
end
section
variable {S : List Shp} {g : Gl} {M : Mc} {i i' : MI} {Q : State → Prop} {pc index n fr lo fr' lo' : Nat} {lv : List (Option Value)} {stk rest as : List Value} {σ τ : Sg} {r : Option Value}
theorem v_callS (hG : GmS i' n) (hC : Cx S g M i { frames := fr, cells := 0, slots := 0, locals := lo }) (hc : Ct S g i' fr' lo' as σ (Dt r τ)) (hl : Cond.methodLink i.1.cls index i'.1 ∈ gtb) (hn : as.length = n) (hR : Nat.ble (fr' + 1) fr = true) (hR2 : Nat.ble (8 + (i'.2.2.1 + 11) + lo') lo = true) (hstk : stk = as.reverse ++ rest) (hW : Nat.ble (rest.map fun v => v.category).sum 8 = true) (hd : decode i.2.1 pc = .ok (.invokestatic index, 3)) (kk : V S g M i Q (pc + 3) lv (r.toList ++ rest) τ) : V S g M i Q pc lv stk σ := by
  obtain ⟨p, e, R, s, m, args, below, meth, c, cells, slots, A⟩ := M
  intro H locs ls hP hS hl'
  obtain ⟨hx, hb, hml, hown, hts, hK, hret, hlk, hRr, hroom, hgap, hA, hA2, hN⟩ := hC
  subst hRr
  obtain ⟨hG, hstat⟩ := hG
  exact ct_run hS hA hA2 (va_runS (As := as) (rest := rest) ⟨hx, hb, hml, hown, hts⟩ (hc H.size) ⟨callB_of n hts (gm_good hG) rfl rfl rfl (hts _ hG.2.1) (hts _ hl) hG.2.2 ⟨Nat.le_of_ble_eq_true hR, Nat.le_of_ble_eq_true hR2⟩, hts _ hstat⟩ ⟨ct_blind, fun U hU hW => ⟨rfl, by rw [hU], by rw [hU]; exact hP, va_K.moved hW.alike hK, hgap, Nst.warm hW hN⟩⟩ rfl hn hl'.2.1 hstk (by show 2 * 0 + _ ≤ 8; have := Nat.le_of_ble_eq_true hW; omega) hd hroom) (fun H1 locs1 h1 h2 => kk H1 locs1 ls h1 h2 hl')
theorem v_callSN {host : String} (hG : GmS i' n) (hC : Cx S g M i { frames := fr, cells := 0, slots := 0, locals := lo }) (hc : Ct S g i' fr' lo' as σ (Dt r τ)) (hl : Cond.methodLinkNest i.1.cls index i'.1 host ∈ nst) (hn : as.length = n) (hR : Nat.ble (fr' + 1) fr = true) (hR2 : Nat.ble (8 + (i'.2.2.1 + 11) + lo') lo = true) (hstk : stk = as.reverse ++ rest) (hW : Nat.ble (rest.map fun v => v.category).sum 8 = true) (hd : decode i.2.1 pc = .ok (.invokestatic index, 3)) (kk : V S g M i Q (pc + 3) lv (r.toList ++ rest) τ) : V S g M i Q pc lv stk σ := by
  obtain ⟨p, e, R, s, m, args, below, meth, c, cells, slots, A⟩ := M
  intro H locs ls hP hS hl'
  obtain ⟨hx, hb, hml, hown, hts, hK, hret, hlk, hRr, hroom, hgap, hA, hA2, hN⟩ := hC
  subst hRr
  obtain ⟨hG, hstat⟩ := hG
  exact ct_run hS hA hA2 (va_runSN (As := as) (rest := rest) ⟨hx, hb, hml, hown, hts⟩ (hc H.size) ⟨va_cnB n hts (gm_good hG) rfl rfl rfl (hN _ hl) (hts _ hG.2.1) hG.2.2 ⟨Nat.le_of_ble_eq_true hR, Nat.le_of_ble_eq_true hR2⟩, hts _ hstat, trivial⟩ ⟨ct_blind, fun U hU hW => ⟨rfl, by rw [hU], by rw [hU]; exact hP, va_K.moved hW.alike hK, hgap, Nst.warm hW hN⟩⟩ rfl hn hl'.2.1 hstk (by show 2 * 0 + _ ≤ 8; have := Nat.le_of_ble_eq_true hW; omega) hd hroom) (fun H1 locs1 h1 h2 => kk H1 locs1 ls h1 h2 hl')
theorem v_callV {j ci : Nat} {ks : List Nat} {q : vw_C} (hG : GmV i' n) (hC : Cx S g M i { frames := fr, cells := 0, slots := 0, locals := lo }) (hS0 : S[j]? = some (.inr (ci, ks))) (hq : classes[ci]? = some q) (hq1 : q.1 = i'.1.cls) (hc : Ct S g i' fr' lo' (.ref (gad g j) :: as) σ (Dt r τ)) (hl : Cond.methodLink i.1.cls index i'.1 ∈ gtb) (hn : as.length = n) (hR : Nat.ble (fr' + 1) fr = true) (hR2 : Nat.ble (8 + (i'.2.2.1 + 11) + lo') lo = true) (hstk : stk = as.reverse ++ .ref (gad g j) :: rest) (hW : Nat.ble (rest.map fun v => v.category).sum 8 = true) (hd : decode i.2.1 pc = .ok (.invokevirtual index, 3)) (kk : V S g M i Q (pc + 3) lv (r.toList ++ rest) τ) : V S g M i Q pc lv stk σ := by
  obtain ⟨p, e, R, s, m, args, below, meth, c, cells, slots, A⟩ := M
  intro H locs ls hP hS hl'
  obtain ⟨hx, hb, hml, hown, hts, hK, hret, hlk, hRr, hroom, hgap, hA, hA2, hN⟩ := hC
  subst hRr
  obtain ⟨hG, hins, hsel⟩ := hG
  exact ct_run hS hA hA2 (va_runV (As := as) (rest := rest) (C := i'.1.cls) ⟨hx, hb, hml, hown, hts⟩ (hc H.size) ⟨callB_of n hts (gm_good hG) rfl rfl rfl (hts _ hG.2.1) (hts _ hl) hG.2.2 ⟨Nat.le_of_ble_eq_true hR, Nat.le_of_ble_eq_true hR2⟩, hts _ hins, hts _ hsel⟩ ⟨ct_blind, hq1 ▸ va_recv hK hP hq (wd_at hS0), fun U hU hW => ⟨rfl, by rw [hU], by rw [hU]; exact hP, va_K.moved hW.alike hK, hgap, Nst.warm hW hN⟩⟩ rfl hn hl'.2.1 hstk (by show 2 * 0 + _ ≤ 8; have := Nat.le_of_ble_eq_true hW; omega) hd hroom) (fun H1 locs1 h1 h2 => kk H1 locs1 ls h1 h2 hl')
theorem v_callVN {j ci : Nat} {ks : List Nat} {q : vw_C} {host : String} (hG : GmV i' n) (hC : Cx S g M i { frames := fr, cells := 0, slots := 0, locals := lo }) (hS0 : S[j]? = some (.inr (ci, ks))) (hq : classes[ci]? = some q) (hq1 : q.1 = i'.1.cls) (hc : Ct S g i' fr' lo' (.ref (gad g j) :: as) σ (Dt r τ)) (hl : Cond.methodLinkNest i.1.cls index i'.1 host ∈ nst) (hn : as.length = n) (hR : Nat.ble (fr' + 1) fr = true) (hR2 : Nat.ble (8 + (i'.2.2.1 + 11) + lo') lo = true) (hstk : stk = as.reverse ++ .ref (gad g j) :: rest) (hW : Nat.ble (rest.map fun v => v.category).sum 8 = true) (hd : decode i.2.1 pc = .ok (.invokevirtual index, 3)) (kk : V S g M i Q (pc + 3) lv (r.toList ++ rest) τ) : V S g M i Q pc lv stk σ := by
  obtain ⟨p, e, R, s, m, args, below, meth, c, cells, slots, A⟩ := M
  intro H locs ls hP hS hl'
  obtain ⟨hx, hb, hml, hown, hts, hK, hret, hlk, hRr, hroom, hgap, hA, hA2, hN⟩ := hC
  subst hRr
  obtain ⟨hG, hins, hsel⟩ := hG
  exact ct_run hS hA hA2 (va_runVN (As := as) (rest := rest) (C := i'.1.cls) ⟨hx, hb, hml, hown, hts⟩ (hc H.size) ⟨va_cnB n hts (gm_good hG) rfl rfl rfl (hN _ hl) (hts _ hG.2.1) hG.2.2 ⟨Nat.le_of_ble_eq_true hR, Nat.le_of_ble_eq_true hR2⟩, hts _ hins, hts _ hsel⟩ ⟨ct_blind, hq1 ▸ va_recv hK hP hq (wd_at hS0), fun U hU hW => ⟨rfl, by rw [hU], by rw [hU]; exact hP, va_K.moved hW.alike hK, hgap, Nst.warm hW hN⟩⟩ rfl hn hl'.2.1 hstk (by show 2 * 0 + _ ≤ 8; have := Nat.le_of_ble_eq_true hW; omega) hd hroom) (fun H1 locs1 h1 h2 => kk H1 locs1 ls h1 h2 hl')
end
end
section
/-! the words that the printed functions are made of, and their rows -/
def bnd {α β : Type} (x : α) (f : α → Option β) : Option β := f x
theorem bnd_s {α β : Type} {x : α} {f : α → Option β} {y : β} (h : bnd x f = some y) : ∃ v, x = v ∧ f v = some y := ⟨x, rfl, h⟩
theorem obd_s {α β : Type} {x : Option α} {f : α → Option β} {y : β} (h : x.bind f = some y) : ∃ v, x = some v ∧ f v = some y := by
  cases x with
  | none => cases h
  | some v => exact ⟨v, rfl, h⟩
def aI (σ : Sg) (j n : Nat) (x : Int32) : Option Int32 := if x < 0 ∨ n ≤ x.toNatClampNeg then none else some (gI σ j x.toNatClampNeg)
def aL (σ : Sg) (j n : Nat) (x : Int32) : Option Int64 := if x < 0 ∨ n ≤ x.toNatClampNeg then none else some (gL σ j x.toNatClampNeg)
def aR (n : Nat) (x : Int32) : Option Nat := if x < 0 ∨ n ≤ x.toNatClampNeg then none else some x.toNatClampNeg
def wI (σ : Sg) (j n : Nat) (x y : Int32) : Option Sg := if x < 0 ∨ n ≤ x.toNatClampNeg then none else some (sI σ j x.toNatClampNeg y)
def wL (σ : Sg) (j n : Nat) (x : Int32) (y : Int64) : Option Sg := if x < 0 ∨ n ≤ x.toNatClampNeg then none else some (sL σ j x.toNatClampNeg y)
def wZ (σ : Sg) (j n : Nat) (x y : Int32) : Option Sg := if y = 0 ∨ y = 1 then wI σ j n x y else none
def dI (x y : Int32) : Option Int32 := if y = 0 then none else some (x / y)
def mI (x y : Int32) : Option Int32 := if y = 0 then none else some (x - x / y * y)
def dL (x y : Int64) : Option Int64 := if y = 0 then none else some (x / y)
def mL (x y : Int64) : Option Int64 := if y = 0 then none else some (x - x / y * y)
def zr (x : Int32) : Option Int32 := if x = 0 ∨ x = 1 then some x else none
def cpO (σ : Sg) (j0 n0 j1 n1 : Nat) (sp dp n : Int32) : Option Sg := if sp < 0 ∨ dp < 0 ∨ n < 0 ∨ n0 < sp.toNatClampNeg + n.toNatClampNeg ∨ n1 < dp.toNatClampNeg + n.toNatClampNeg then none else some (cpI σ j0 j1 sp.toNatClampNeg dp.toNatClampNeg n.toNatClampNeg)
theorem ifn {α : Type} {c : Prop} [Decidable c] {x y : α} (h : (if c then none else some x) = some y) : ¬ c ∧ x = y := by
  by_cases hc : c
  · rw [if_pos hc] at h; cases h
  · rw [if_neg hc] at h; exact ⟨hc, Option.some.inj h⟩
theorem aI_s {σ : Sg} {j n : Nat} {x v : Int32} (h : aI σ j n x = some v) : vp_in x n ∧ gI σ j x.toNatClampNeg = v := ifn h
theorem aL_s {σ : Sg} {j n : Nat} {x : Int32} {v : Int64} (h : aL σ j n x = some v) : vp_in x n ∧ gL σ j x.toNatClampNeg = v := ifn h
theorem aR_s {n k : Nat} {x : Int32} (h : aR n x = some k) : vp_in x n ∧ x.toNatClampNeg = k := ifn h
theorem aR_lt {n k : Nat} {x : Int32} (h : aR n x = some k) : k < n := by
  obtain ⟨h1, h2⟩ := aR_s h
  subst h2
  exact Nat.not_le.mp fun q => h1 (Or.inr q)
theorem wI_s {σ τ : Sg} {j n : Nat} {x y : Int32} (h : wI σ j n x y = some τ) : vp_in x n ∧ sI σ j x.toNatClampNeg y = τ := ifn h
theorem wL_s {σ τ : Sg} {j n : Nat} {x : Int32} {y : Int64} (h : wL σ j n x y = some τ) : vp_in x n ∧ sL σ j x.toNatClampNeg y = τ := ifn h
theorem nar01 {y : Int32} (h : y = 0 ∨ y = 1) : narrow .boolean (.int y) = .int y ∧ vp_nar .boolean y = y := by
  rcases h with rfl | rfl
  · exact ⟨rfl, rfl⟩
  · exact ⟨rfl, rfl⟩
theorem wZ_s {σ τ : Sg} {j n : Nat} {x y : Int32} (h : wZ σ j n x y = some τ) : vp_in x n ∧ sI σ j x.toNatClampNeg (vp_nar .boolean y) = τ := by
  unfold wZ at h
  by_cases hc : y = 0 ∨ y = 1
  · rw [if_pos hc] at h; rw [(nar01 hc).2]; exact wI_s h
  · rw [if_neg hc] at h; cases h
theorem zr_s {x v : Int32} (h : zr x = some v) : x = v ∧ narrow .boolean (.int x) = .int x := by
  unfold zr at h
  by_cases hc : x = 0 ∨ x = 1
  · rw [if_pos hc] at h; exact ⟨Option.some.inj h, (nar01 hc).1⟩
  · rw [if_neg hc] at h; cases h
/-- fuel -/
def FU : Nat := 1000000
def lpG {α β : Type} (body : α → Sg → Option ((α ⊕ β) × Sg)) : Nat → α → Sg → Option (β × Sg)
  | 0, _, _ => none
  | n + 1, a, σ => match body a σ with
    | none => none
    | some (.inl a', σ') => lpG body n a' σ'
    | some (.inr b, σ') => some (b, σ')
def lsub : List (Option Value) → List (Option Value) → Prop
  | [], [] => True
  | none :: a, _ :: b => lsub a b
  | some v :: a, some w :: b => v = w ∧ lsub a b
  | _, _ => False
theorem ls_nil : lsub [] [] := trivial
theorem ls_none {a b : List (Option Value)} {x : Option Value} (h : lsub a b) : lsub (none :: a) (x :: b) := h
theorem ls_some {a b : List (Option Value)} {v : Value} (h : lsub a b) : lsub (some v :: a) (some v :: b) := ⟨rfl, h⟩
theorem lsub_s : ∀ {a b : List (Option Value)}, lsub a b → b.length = a.length ∧ ∀ (j : Nat) (v : Value), a[j]? = some (some v) → b[j]? = some (some v)
  | [], [], _ => ⟨rfl, fun j v h => by simp at h⟩
  | [], _ :: _, h => h.elim
  | none :: a, [], h => h.elim
  | some v :: a, [], h => h.elim
  | none :: a, x :: b, h => by
    obtain ⟨h1, h2⟩ := lsub_s (a := a) (b := b) h
    refine ⟨by simp [h1], fun j v hj => ?_⟩
    match j, hj with
    | 0, hj => simp at hj
    | j + 1, hj => simpa using h2 j v (by simpa using hj)
  | some v :: a, none :: b, h => h.elim
  | some v :: a, some w :: b, h => by
    obtain ⟨rfl, h⟩ := h
    obtain ⟨h1, h2⟩ := lsub_s (a := a) (b := b) h
    refine ⟨by simp [h1], fun j u hj => ?_⟩
    match j, hj with
    | 0, hj => simpa using hj
    | j + 1, hj => simpa using h2 j u (by simpa using hj)
section
variable {S : List Shp} {g : Gl} {M : Mc} {i i' : MI} {rm : Room} {Q : State → Prop} {pc : Nat} {lv lv' : List (Option Value)} {st : List Value} {σ τ : Sg}
theorem V.ls (h : lsub lv' lv) (kk : V S g M i Q pc lv' st σ) : V S g M i Q pc lv st σ := V.weak (lsub_s h).1 (lsub_s h).2 kk
theorem v_aI {j n : Nat} {x v : Int32} (hC : Cx S g M i rm) (hS : S[j]? = some (.inl (0, n))) (ha : aI σ j n x = some v) (hd : decode i.2.1 pc = .ok (.iaload, 1)) (kk : V S g M i Q (pc + 1) lv (.int v :: st) σ) : V S g M i Q pc lv (.int x :: .ref (gad g j) :: st) σ := by
  obtain ⟨h1, rfl⟩ := aI_s ha
  exact v_iald hC hS h1 hd kk
theorem v_aZ {j n : Nat} {x v : Int32} (hC : Cx S g M i rm) (hS : S[j]? = some (.inl (2, n))) (ha : aI σ j n x = some v) (hd : decode i.2.1 pc = .ok (.baload, 1)) (kk : V S g M i Q (pc + 1) lv (.int v :: st) σ) : V S g M i Q pc lv (.int x :: .ref (gad g j) :: st) σ := by
  obtain ⟨h1, rfl⟩ := aI_s ha
  exact v_zald hC hS h1 hd kk
theorem v_aL {j n : Nat} {x : Int32} {v : Int64} (hC : Cx S g M i rm) (hS : S[j]? = some (.inl (1, n))) (ha : aL σ j n x = some v) (hd : decode i.2.1 pc = .ok (.laload, 1)) (kk : V S g M i Q (pc + 1) lv (.long v :: st) σ) : V S g M i Q pc lv (.int x :: .ref (gad g j) :: st) σ := by
  obtain ⟨h1, rfl⟩ := aL_s ha
  exact v_lald hC hS h1 hd kk
theorem v_aR {j n t k : Nat} {C : String} {x : Int32} (hC : Cx S g M i rm) (hS : S[j]? = some (.inl (t + 3, n))) (hty : (gty g)[t + 3]? = some (g.2.2.2 (t + 3), .object C)) (ha : aR n x = some k) (hd : decode i.2.1 pc = .ok (.aaload, 1)) (kk : V S g M i Q (pc + 1) lv (.ref (gad g (rix t k)) :: st) σ) : V S g M i Q pc lv (.int x :: .ref (gad g j) :: st) σ := by
  obtain ⟨h1, rfl⟩ := aR_s ha
  exact v_aald (cA := 0) hC hS hty h1 hd kk
theorem v_wI {j n : Nat} {x y : Int32} (hC : Cx S g M i rm) (hS : S[j]? = some (.inl (0, n))) (ha : wI σ j n x y = some τ) (hd : decode i.2.1 pc = .ok (.iastore, 1)) (kk : V S g M i Q (pc + 1) lv st τ) : V S g M i Q pc lv (.int y :: .int x :: .ref (gad g j) :: st) σ := by
  obtain ⟨h1, rfl⟩ := wI_s ha
  exact v_iast hC hS h1 hd kk
theorem v_wZ {j n : Nat} {x y : Int32} (hC : Cx S g M i rm) (hS : S[j]? = some (.inl (2, n))) (ha : wZ σ j n x y = some τ) (hd : decode i.2.1 pc = .ok (.bastore, 1)) (kk : V S g M i Q (pc + 1) lv st τ) : V S g M i Q pc lv (.int y :: .int x :: .ref (gad g j) :: st) σ := by
  obtain ⟨h1, rfl⟩ := wZ_s ha
  exact v_zast hC hS h1 hd kk
theorem v_wL {j n : Nat} {x : Int32} {y : Int64} (hC : Cx S g M i rm) (hS : S[j]? = some (.inl (1, n))) (ha : wL σ j n x y = some τ) (hd : decode i.2.1 pc = .ok (.lastore, 1)) (kk : V S g M i Q (pc + 1) lv st τ) : V S g M i Q pc lv (.long y :: .int x :: .ref (gad g j) :: st) σ := by
  obtain ⟨h1, rfl⟩ := wL_s ha
  exact v_last hC hS h1 hd kk
theorem v_dI {x y v : Int32} (hC : Cx S g M i rm) (ha : dI x y = some v) (hd : decode i.2.1 pc = .ok (.idiv, 1)) (kk : V S g M i Q (pc + 1) lv (.int v :: st) σ) : V S g M i Q pc lv (.int y :: .int x :: st) σ := by
  obtain ⟨h1, rfl⟩ := ifn ha
  exact v_idiv hC h1 hd kk
theorem v_mI {x y v : Int32} (hC : Cx S g M i rm) (ha : mI x y = some v) (hd : decode i.2.1 pc = .ok (.irem, 1)) (kk : V S g M i Q (pc + 1) lv (.int v :: st) σ) : V S g M i Q pc lv (.int y :: .int x :: st) σ := by
  obtain ⟨h1, rfl⟩ := ifn ha
  exact v_irem hC h1 hd kk
theorem v_dL {x y v : Int64} (hC : Cx S g M i rm) (ha : dL x y = some v) (hd : decode i.2.1 pc = .ok (.ldiv, 1)) (kk : V S g M i Q (pc + 1) lv (.long v :: st) σ) : V S g M i Q pc lv (.long y :: .long x :: st) σ := by
  obtain ⟨h1, rfl⟩ := ifn ha
  exact v_ldiv hC h1 hd kk
theorem v_mL {x y v : Int64} (hC : Cx S g M i rm) (ha : mL x y = some v) (hd : decode i.2.1 pc = .ok (.lrem, 1)) (kk : V S g M i Q (pc + 1) lv (.long v :: st) σ) : V S g M i Q pc lv (.long y :: .long x :: st) σ := by
  obtain ⟨h1, rfl⟩ := ifn ha
  exact v_lrem hC h1 hd kk
theorem v_cpO {index j0 j1 n0 n1 fr lo : Nat} {sp dp n : Int32} (hC : Cx S g M i { frames := fr, cells := 0, slots := 0, locals := lo }) (hS0 : S[j0]? = some (.inl (0, n0))) (hS1 : S[j1]? = some (.inl (0, n1))) (ha : cpO σ j0 n0 j1 n1 sp dp n = some τ)
    (hlink : Cond.methodLink i.1.cls index arraycopyName ∈ gtb) (hnat : Cond.native arraycopyName ∈ gtb) (hstat : Cond.static arraycopyName ∈ gtb) (hini : Cond.initialized "java/lang/System" ∈ gtb)
    (hfr : Nat.ble 1 fr = true) (hlo : Nat.ble (nativeFrameWords "java/lang/System" "arraycopy" 5 + 11) lo = true) (hd : decode i.2.1 pc = .ok (.invokestatic index, 3)) (kk : V S g M i Q (pc + 3) lv [] τ) : V S g M i Q pc lv [.int n, .int dp, .ref (gad g j1), .int sp, .ref (gad g j0)] σ := by
  obtain ⟨h1, rfl⟩ := ifn ha
  simp only [not_or] at h1
  obtain ⟨a1, a2, a3, a4, a5⟩ := h1
  exact v_acopy hC hS0 hS1 a1 a2 a3 (Nat.not_lt.mp a4) (Nat.not_lt.mp a5) hlink hnat hstat hini (Nat.le_of_ble_eq_true hfr) (Nat.le_of_ble_eq_true hlo) hd kk
theorem v_pI {index j ci : Nat} {ks : List Nat} {q : vw_C} {x : Int32} (k : Nat) (hC : Cx S g M i rm) (hS : S[j]? = some (.inr (ci, ks))) (hc : classes[ci]? = some q) (hk : Nat.blt k q.2.2 = true) (ht : ks[k]? = some 0) (hfin : (q.2.1 k).2.2.2 = false) (hn : narrow (en_ty ci k) (.int x) = .int x) (hfit : fits (en_ty ci k) (.int x) = true) (hlink : Cond.fieldLink i.1.cls index (q.2.1 k).1 (q.2.1 k).2.1 (q.2.1 k).2.2.1 ∈ gtb) (hτ : sI σ j k x = τ) (hd : decode i.2.1 pc = .ok (.putfield index, 3)) (kk : V S g M i Q (pc + 3) lv st τ) : V S g M i Q pc lv (.int x :: .ref (gad g j) :: st) σ := by
  subst hτ
  exact v_putI k hC hS hc (by simpa [Nat.blt_eq] using hk) ht hfin hn hfit hlink hd kk
theorem v_pIN {index j ci : Nat} {ks : List Nat} {q : vw_C} {x : Int32} {host : String} (k : Nat) (hC : Cx S g M i rm) (hS : S[j]? = some (.inr (ci, ks))) (hc : classes[ci]? = some q) (hk : Nat.blt k q.2.2 = true) (ht : ks[k]? = some 0) (hfin : (q.2.1 k).2.2.2 = false) (hn : narrow (en_ty ci k) (.int x) = .int x) (hfit : fits (en_ty ci k) (.int x) = true) (hlink : Cond.fieldLinkNest i.1.cls index (q.2.1 k).1 (q.2.1 k).2.1 (q.2.1 k).2.2.1 host ∈ nst) (hτ : sI σ j k x = τ) (hd : decode i.2.1 pc = .ok (.putfield index, 3)) (kk : V S g M i Q (pc + 3) lv st τ) : V S g M i Q pc lv (.int x :: .ref (gad g j) :: st) σ := by
  subst hτ
  exact v_putIN k hC hS hc (by simpa [Nat.blt_eq] using hk) ht hfin hn hfit hlink hd kk
theorem v_pL {index j ci : Nat} {ks : List Nat} {q : vw_C} {x : Int64} (k : Nat) (hC : Cx S g M i rm) (hS : S[j]? = some (.inr (ci, ks))) (hc : classes[ci]? = some q) (hk : Nat.blt k q.2.2 = true) (ht : ks[k]? = some 1) (hfin : (q.2.1 k).2.2.2 = false) (hn : narrow (en_ty ci k) (.long x) = .long x) (hfit : fits (en_ty ci k) (.long x) = true) (hlink : Cond.fieldLink i.1.cls index (q.2.1 k).1 (q.2.1 k).2.1 (q.2.1 k).2.2.1 ∈ gtb) (hτ : sL σ j k x = τ) (hd : decode i.2.1 pc = .ok (.putfield index, 3)) (kk : V S g M i Q (pc + 3) lv st τ) : V S g M i Q pc lv (.long x :: .ref (gad g j) :: st) σ := by
  subst hτ
  exact v_putL k hC hS hc (by simpa [Nat.blt_eq] using hk) ht hfin hn hfit hlink hd kk
theorem v_gt {index j ci t : Nat} {ks : List Nat} {q : vw_C} (k : Nat) (v : Value) (hC : Cx S g M i rm) (hS : S[j]? = some (.inr (ci, ks))) (hc : classes[ci]? = some q) (hk : Nat.blt k q.2.2 = true) (ht : ks[k]? = some t) (hv : fv g σ j k t = v) (hlink : Cond.fieldLink i.1.cls index (q.2.1 k).1 (q.2.1 k).2.1 (q.2.1 k).2.2.1 ∈ gtb) (hd : decode i.2.1 pc = .ok (.getfield index, 3)) (kk : V S g M i Q (pc + 3) lv (v :: st) σ) : V S g M i Q pc lv (.ref (gad g j) :: st) σ := v_get k hC hS hc (by simpa [Nat.blt_eq] using hk) ht hv hlink hd kk
theorem v_gtN {index j ci t : Nat} {ks : List Nat} {q : vw_C} {host : String} (k : Nat) (v : Value) (hC : Cx S g M i rm) (hS : S[j]? = some (.inr (ci, ks))) (hc : classes[ci]? = some q) (hk : Nat.blt k q.2.2 = true) (ht : ks[k]? = some t) (hv : fv g σ j k t = v) (hlink : Cond.fieldLinkNest i.1.cls index (q.2.1 k).1 (q.2.1 k).2.1 (q.2.1 k).2.2.1 host ∈ nst) (hd : decode i.2.1 pc = .ok (.getfield index, 3)) (kk : V S g M i Q (pc + 3) lv (v :: st) σ) : V S g M i Q pc lv (.ref (gad g j) :: st) σ := v_getN k hC hS hc (by simpa [Nat.blt_eq] using hk) ht hv hlink hd kk
theorem v_loop {α β : Type} {body : α → Sg → Option ((α ⊕ β) × Sg)} (lvH : α → List (Option Value)) (X : β → Sg → Prop) (hb : ∀ (a : α) (σ : Sg) (u : (α ⊕ β) × Sg), body a σ = some u → (∀ a', u.1 = .inl a' → V S g M i Q pc (lvH a') st u.2) → (∀ b, u.1 = .inr b → X b u.2) → V S g M i Q pc (lvH a) st σ) : ∀ (n : Nat) (a : α) (σ : Sg) (w : β × Sg), lpG body n a σ = some w → X w.1 w.2 → V S g M i Q pc (lvH a) st σ
  | 0, a, σ, w, h, _ => by cases h
  | n + 1, a, σ, w, h, hx => by
    unfold lpG at h
    cases hb1 : body a σ with
    | none => rw [hb1] at h; cases h
    | some u =>
      obtain ⟨u1, u2⟩ := u
      rw [hb1] at h
      cases u1 with
      | inl a' =>
        refine hb a σ _ hb1 (fun a2 e => ?_) (fun b e => by cases e)
        obtain rfl := Sum.inl.inj e
        exact v_loop lvH X hb n a' u2 w h hx
      | inr b =>
        refine hb a σ _ hb1 (fun a2 e => by cases e) (fun b2 e => ?_)
        obtain rfl := Sum.inr.inj e
        have e2 := Option.some.inj h
        subst e2
        exact hx
theorem v_loopR {α ρ ε : Type} {body : α → Sg → Option ((α ⊕ (ρ ⊕ ε)) × Sg)} (lvH : α → List (Option Value)) (Y : ρ → Sg → Prop) (X : ε → Sg → Prop) (hb : ∀ (a : α) (σ : Sg) (u : (α ⊕ (ρ ⊕ ε)) × Sg), body a σ = some u → (∀ a', u.1 = .inl a' → V S g M i Q pc (lvH a') st u.2) → (∀ r, u.1 = .inr (.inl r) → Y r u.2) → (∀ b, u.1 = .inr (.inr b) → X b u.2) → V S g M i Q pc (lvH a) st σ) (n : Nat) (a : α) (σ : Sg) (w : (ρ ⊕ ε) × Sg) (h : lpG body n a σ = some w) (h1 : ∀ r, w.1 = .inl r → Y r w.2) (h2 : ∀ b, w.1 = .inr b → X b w.2) : V S g M i Q pc (lvH a) st σ := by
  refine v_loop lvH (fun b τ => Sum.elim (fun r => Y r τ) (fun x => X x τ) b) (fun a σ u hu k1 k2 => hb a σ u hu k1 (fun r e => k2 _ e) (fun b e => k2 _ e)) n a σ w h ?_
  obtain ⟨w1, w2⟩ := w
  cases w1 with
  | inl r => exact h1 r rfl
  | inr b => exact h2 b rfl
theorem v_cS {index n fr lo fr' lo' : Nat} {stk as : List Value} {r : Option Value} (rest stk' : List Value) (hG : GmS i' n) (hC : Cx S g M i { frames := fr, cells := 0, slots := 0, locals := lo }) (hc : Ct S g i' fr' lo' as σ (Dt r τ)) (hl : Cond.methodLink i.1.cls index i'.1 ∈ gtb) (hn : as.length = n) (hR : Nat.ble (fr' + 1) fr = true) (hR2 : Nat.ble (8 + (i'.2.2.1 + 11) + lo') lo = true) (hstk : stk = as.reverse ++ rest) (hW : Nat.ble (rest.map fun v => v.category).sum 8 = true) (he : r.toList ++ rest = stk') (hd : decode i.2.1 pc = .ok (.invokestatic index, 3)) (kk : V S g M i Q (pc + 3) lv stk' τ) : V S g M i Q pc lv stk σ := v_callS hG hC hc hl hn hR hR2 hstk hW hd (he ▸ kk)
theorem v_cSN {index n fr lo fr' lo' : Nat} {host : String} {stk as : List Value} {r : Option Value} (rest stk' : List Value) (hG : GmS i' n) (hC : Cx S g M i { frames := fr, cells := 0, slots := 0, locals := lo }) (hc : Ct S g i' fr' lo' as σ (Dt r τ)) (hl : Cond.methodLinkNest i.1.cls index i'.1 host ∈ nst) (hn : as.length = n) (hR : Nat.ble (fr' + 1) fr = true) (hR2 : Nat.ble (8 + (i'.2.2.1 + 11) + lo') lo = true) (hstk : stk = as.reverse ++ rest) (hW : Nat.ble (rest.map fun v => v.category).sum 8 = true) (he : r.toList ++ rest = stk') (hd : decode i.2.1 pc = .ok (.invokestatic index, 3)) (kk : V S g M i Q (pc + 3) lv stk' τ) : V S g M i Q pc lv stk σ := v_callSN hG hC hc hl hn hR hR2 hstk hW hd (he ▸ kk)
theorem v_cV {index n fr lo fr' lo' j ci : Nat} {ks : List Nat} {q : vw_C} {stk as : List Value} {r : Option Value} (rest stk' : List Value) (hG : GmV i' n) (hC : Cx S g M i { frames := fr, cells := 0, slots := 0, locals := lo }) (hS0 : S[j]? = some (.inr (ci, ks))) (hq : classes[ci]? = some q) (hq1 : q.1 = i'.1.cls) (hc : Ct S g i' fr' lo' (.ref (gad g j) :: as) σ (Dt r τ)) (hl : Cond.methodLink i.1.cls index i'.1 ∈ gtb) (hn : as.length = n) (hR : Nat.ble (fr' + 1) fr = true) (hR2 : Nat.ble (8 + (i'.2.2.1 + 11) + lo') lo = true) (hstk : stk = as.reverse ++ .ref (gad g j) :: rest) (hW : Nat.ble (rest.map fun v => v.category).sum 8 = true) (he : r.toList ++ rest = stk') (hd : decode i.2.1 pc = .ok (.invokevirtual index, 3)) (kk : V S g M i Q (pc + 3) lv stk' τ) : V S g M i Q pc lv stk σ := v_callV hG hC hS0 hq hq1 hc hl hn hR hR2 hstk hW hd (he ▸ kk)
theorem v_cVN {index n fr lo fr' lo' j ci : Nat} {host : String} {ks : List Nat} {q : vw_C} {stk as : List Value} {r : Option Value} (rest stk' : List Value) (hG : GmV i' n) (hC : Cx S g M i { frames := fr, cells := 0, slots := 0, locals := lo }) (hS0 : S[j]? = some (.inr (ci, ks))) (hq : classes[ci]? = some q) (hq1 : q.1 = i'.1.cls) (hc : Ct S g i' fr' lo' (.ref (gad g j) :: as) σ (Dt r τ)) (hl : Cond.methodLinkNest i.1.cls index i'.1 host ∈ nst) (hn : as.length = n) (hR : Nat.ble (fr' + 1) fr = true) (hR2 : Nat.ble (8 + (i'.2.2.1 + 11) + lo') lo = true) (hstk : stk = as.reverse ++ .ref (gad g j) :: rest) (hW : Nat.ble (rest.map fun v => v.category).sum 8 = true) (he : r.toList ++ rest = stk') (hd : decode i.2.1 pc = .ok (.invokevirtual index, 3)) (kk : V S g M i Q (pc + 3) lv stk' τ) : V S g M i Q pc lv stk σ := v_callVN hG hC hS0 hq hq1 hc hl hn hR hR2 hstk hW hd (he ▸ kk)
theorem v_zr {P : Option Value → Sg → Prop} {x v : Int32} (hC : Cx S g M i rm) (hr : i.2.2.2 = some .boolean) (hv : zr x = some v) (hd : decode i.2.1 pc = .ok (.ireturn, 1)) (hp : P (some (.int v)) σ) : V S g M i (PQ S g M P) pc lv [.int x] σ := by
  obtain ⟨rfl, h2⟩ := zr_s hv
  exact v_zret hC hr h2 hd hp
end
theorem ne_toInt {x k : Int32} (h : ¬ x = k) : x.toInt ≠ k.toInt := fun e => h (Int32.toInt_inj.mp e)
end
section
/-! the world: cells 0 .. 48 are the class, from 49 on the reference (printed by wip/whole/gen/gen.py) -/
abbrev SS : List Shp := [.inr (10, [1 + 2, 19 + 2, 25 + 2, 38 + 2, 34 + 2, 35 + 2, 37 + 2, 39 + 2, 48 + 2, 0]), .inr (3, [0, 0, 2 + 2, 3 + 2, 4 + 2, 5 + 2, 6 + 2, 7 + 2, 8 + 2]), .inl (0, 16), .inl (0, 16), .inl (0, 64), .inl (0, 64), .inl (0, 64), .inl (0, 256), .inl (0, 24), .inr (1, [10 + 2, 11 + 2, 12 + 2, 13 + 2, 0, 1, 1]), .inl (0, 8), .inl (1, 8), .inl (1, 8), .inl (0, 8), .inr (1, [15 + 2, 16 + 2, 17 + 2, 18 + 2, 0, 1, 1]), .inl (0, 8), .inl (1, 8), .inl (1, 8), .inl (0, 8), .inr (8, [1 + 2, 9 + 2, 14 + 2, 20 + 2, 21 + 2, 22 + 2, 0, 0, 23 + 2, 24 + 2]), .inl (2, 64), .inl (0, 64), .inl (0, 10), .inl (1, 7), .inl (0, 7), .inr (6, [1 + 2, 14 + 2, 26 + 2, 27 + 2, 28 + 2, 0, 29 + 2, 1]), .inl (0, 64), .inl (0, 256), .inl (0, 8), .inl (1, 64), .inr (7, [31 + 2, 0]), .inl (0, 8), .inr (7, [33 + 2, 0]), .inl (0, 60), .inr (4, [30 + 2]), .inr (9, [32 + 2, 36 + 2, 0, 0]), .inl (0, 10), .inr (2, [1 + 2, 34 + 2, 35 + 2, 0]), .inl (3, 2), .inl (4, 4), .inr (5, [0, 0, 0, 41 + 2]), .inl (0, 48), .inr (5, [0, 0, 0, 43 + 2]), .inl (0, 48), .inr (5, [0, 0, 0, 45 + 2]), .inl (0, 48), .inr (5, [0, 0, 0, 47 + 2]), .inl (0, 48), .inr (0, [1, 1]), .inr (11, [0, 50 + 2, 51 + 2, 0, 52 + 2, 53 + 2, 54 + 2, 55 + 2, 56 + 2, 57 + 2, 58 + 2, 59 + 2, 60 + 2, 1, 1, 61 + 2, 62 + 2, 63 + 2, 64 + 2, 65 + 2, 66 + 2, 67 + 2, 68 + 2, 0, 0, 0, 0, 0, 69 + 2, 70 + 2, 71 + 2, 72 + 2, 73 + 2, 0]), .inl (0, 16), .inl (0, 16), .inl (0, 64), .inl (0, 64), .inl (0, 64), .inl (0, 256), .inl (0, 24), .inl (1, 8), .inl (1, 8), .inl (1, 8), .inl (1, 8), .inl (1, 8), .inl (0, 8), .inl (0, 64), .inl (0, 256), .inl (0, 120), .inl (0, 2), .inl (0, 8), .inl (0, 8), .inl (2, 4), .inl (0, 4), .inl (0, 4), .inl (0, 192), .inl (0, 48)]
theorem s_0 : SS[0]? = some (.inr (10, [1 + 2, 19 + 2, 25 + 2, 38 + 2, 34 + 2, 35 + 2, 37 + 2, 39 + 2, 48 + 2, 0])) := rfl
theorem s_1 : SS[1]? = some (.inr (3, [0, 0, 2 + 2, 3 + 2, 4 + 2, 5 + 2, 6 + 2, 7 + 2, 8 + 2])) := rfl
theorem s_2 : SS[2]? = some (.inl (0, 16)) := rfl
theorem s_3 : SS[3]? = some (.inl (0, 16)) := rfl
theorem s_4 : SS[4]? = some (.inl (0, 64)) := rfl
theorem s_5 : SS[5]? = some (.inl (0, 64)) := rfl
theorem s_6 : SS[6]? = some (.inl (0, 64)) := rfl
theorem s_7 : SS[7]? = some (.inl (0, 256)) := rfl
theorem s_8 : SS[8]? = some (.inl (0, 24)) := rfl
theorem s_9 : SS[9]? = some (.inr (1, [10 + 2, 11 + 2, 12 + 2, 13 + 2, 0, 1, 1])) := rfl
theorem s_10 : SS[10]? = some (.inl (0, 8)) := rfl
theorem s_11 : SS[11]? = some (.inl (1, 8)) := rfl
theorem s_12 : SS[12]? = some (.inl (1, 8)) := rfl
theorem s_13 : SS[13]? = some (.inl (0, 8)) := rfl
theorem s_14 : SS[14]? = some (.inr (1, [15 + 2, 16 + 2, 17 + 2, 18 + 2, 0, 1, 1])) := rfl
theorem s_15 : SS[15]? = some (.inl (0, 8)) := rfl
theorem s_16 : SS[16]? = some (.inl (1, 8)) := rfl
theorem s_17 : SS[17]? = some (.inl (1, 8)) := rfl
theorem s_18 : SS[18]? = some (.inl (0, 8)) := rfl
theorem s_19 : SS[19]? = some (.inr (8, [1 + 2, 9 + 2, 14 + 2, 20 + 2, 21 + 2, 22 + 2, 0, 0, 23 + 2, 24 + 2])) := rfl
theorem s_20 : SS[20]? = some (.inl (2, 64)) := rfl
theorem s_21 : SS[21]? = some (.inl (0, 64)) := rfl
theorem s_22 : SS[22]? = some (.inl (0, 10)) := rfl
theorem s_23 : SS[23]? = some (.inl (1, 7)) := rfl
theorem s_24 : SS[24]? = some (.inl (0, 7)) := rfl
theorem s_25 : SS[25]? = some (.inr (6, [1 + 2, 14 + 2, 26 + 2, 27 + 2, 28 + 2, 0, 29 + 2, 1])) := rfl
theorem s_26 : SS[26]? = some (.inl (0, 64)) := rfl
theorem s_27 : SS[27]? = some (.inl (0, 256)) := rfl
theorem s_28 : SS[28]? = some (.inl (0, 8)) := rfl
theorem s_29 : SS[29]? = some (.inl (1, 64)) := rfl
theorem s_30 : SS[30]? = some (.inr (7, [31 + 2, 0])) := rfl
theorem s_31 : SS[31]? = some (.inl (0, 8)) := rfl
theorem s_32 : SS[32]? = some (.inr (7, [33 + 2, 0])) := rfl
theorem s_33 : SS[33]? = some (.inl (0, 60)) := rfl
theorem s_34 : SS[34]? = some (.inr (4, [30 + 2])) := rfl
theorem s_35 : SS[35]? = some (.inr (9, [32 + 2, 36 + 2, 0, 0])) := rfl
theorem s_36 : SS[36]? = some (.inl (0, 10)) := rfl
theorem s_37 : SS[37]? = some (.inr (2, [1 + 2, 34 + 2, 35 + 2, 0])) := rfl
theorem s_38 : SS[38]? = some (.inl (3, 2)) := rfl
theorem s_39 : SS[39]? = some (.inl (4, 4)) := rfl
theorem s_40 : SS[40]? = some (.inr (5, [0, 0, 0, 41 + 2])) := rfl
theorem s_41 : SS[41]? = some (.inl (0, 48)) := rfl
theorem s_42 : SS[42]? = some (.inr (5, [0, 0, 0, 43 + 2])) := rfl
theorem s_43 : SS[43]? = some (.inl (0, 48)) := rfl
theorem s_44 : SS[44]? = some (.inr (5, [0, 0, 0, 45 + 2])) := rfl
theorem s_45 : SS[45]? = some (.inl (0, 48)) := rfl
theorem s_46 : SS[46]? = some (.inr (5, [0, 0, 0, 47 + 2])) := rfl
theorem s_47 : SS[47]? = some (.inl (0, 48)) := rfl
theorem s_48 : SS[48]? = some (.inr (0, [1, 1])) := rfl
theorem s_49 : SS[49]? = some (.inr (11, [0, 50 + 2, 51 + 2, 0, 52 + 2, 53 + 2, 54 + 2, 55 + 2, 56 + 2, 57 + 2, 58 + 2, 59 + 2, 60 + 2, 1, 1, 61 + 2, 62 + 2, 63 + 2, 64 + 2, 65 + 2, 66 + 2, 67 + 2, 68 + 2, 0, 0, 0, 0, 0, 69 + 2, 70 + 2, 71 + 2, 72 + 2, 73 + 2, 0])) := rfl
theorem s_50 : SS[50]? = some (.inl (0, 16)) := rfl
theorem s_51 : SS[51]? = some (.inl (0, 16)) := rfl
theorem s_52 : SS[52]? = some (.inl (0, 64)) := rfl
theorem s_53 : SS[53]? = some (.inl (0, 64)) := rfl
theorem s_54 : SS[54]? = some (.inl (0, 64)) := rfl
theorem s_55 : SS[55]? = some (.inl (0, 256)) := rfl
theorem s_56 : SS[56]? = some (.inl (0, 24)) := rfl
theorem s_57 : SS[57]? = some (.inl (1, 8)) := rfl
theorem s_58 : SS[58]? = some (.inl (1, 8)) := rfl
theorem s_59 : SS[59]? = some (.inl (1, 8)) := rfl
theorem s_60 : SS[60]? = some (.inl (1, 8)) := rfl
theorem s_61 : SS[61]? = some (.inl (1, 8)) := rfl
theorem s_62 : SS[62]? = some (.inl (0, 8)) := rfl
theorem s_63 : SS[63]? = some (.inl (0, 64)) := rfl
theorem s_64 : SS[64]? = some (.inl (0, 256)) := rfl
theorem s_65 : SS[65]? = some (.inl (0, 120)) := rfl
theorem s_66 : SS[66]? = some (.inl (0, 2)) := rfl
theorem s_67 : SS[67]? = some (.inl (0, 8)) := rfl
theorem s_68 : SS[68]? = some (.inl (0, 8)) := rfl
theorem s_69 : SS[69]? = some (.inl (2, 4)) := rfl
theorem s_70 : SS[70]? = some (.inl (0, 4)) := rfl
theorem s_71 : SS[71]? = some (.inl (0, 4)) := rfl
theorem s_72 : SS[72]? = some (.inl (0, 192)) := rfl
theorem s_73 : SS[73]? = some (.inl (0, 48)) := rfl
def isLv (b : Nat) : Prop := SS[b]? = some (.inr (1, [b + 1 + 2, b + 2 + 2, b + 3 + 2, b + 4 + 2, 0, 1, 1])) ∧ SS[b + 1]? = some (.inl (0, 8)) ∧ SS[b + 2]? = some (.inl (1, 8)) ∧ SS[b + 3]? = some (.inl (1, 8)) ∧ SS[b + 4]? = some (.inl (0, 8))
def isTx (b n : Nat) : Prop := SS[b]? = some (.inr (7, [b + 1 + 2, 0])) ∧ SS[b + 1]? = some (.inl (0, n))
def isSh (b : Nat) : Prop := SS[b]? = some (.inr (5, [0, 0, 0, b + 1 + 2])) ∧ SS[b + 1]? = some (.inl (0, 48))
theorem lv_9 : isLv 9 := ⟨rfl, rfl, rfl, rfl, rfl⟩
theorem lv_14 : isLv 14 := ⟨rfl, rfl, rfl, rfl, rfl⟩
def tlen (k : Nat) : Nat := match k with
  | 0 => 8
  | _ => 60
theorem tx_30 : isTx 30 8 := ⟨rfl, rfl⟩
theorem tx_32 : isTx 32 60 := ⟨rfl, rfl⟩
theorem tx_of {k : Nat} (h : k < 2) : isTx (rix 0 k) (tlen k) := by
  match k, h with
  | 0, _ => exact tx_30
  | 1, _ => exact tx_32
theorem sh_of {k : Nat} (h : k < 4) : isSh (rix 1 k) := by
  match k, h with
  | 0, _ => exact ⟨rfl, rfl⟩
  | 1, _ => exact ⟨rfl, rfl⟩
  | 2, _ => exact ⟨rfl, rfl⟩
  | 3, _ => exact ⟨rfl, rfl⟩
end
section
/-! words: links, and what a caller knows of each method (printed by wip/whole/gen/gen.py) -/
def RL : String := "LaneFourLaw"
theorem in_X0 : Cond.initialized RX0 ∈ gtb := gtb_m (List.mem_of_getElem? (i := 91) (by decide +kernel)) rfl
theorem in_X1 : Cond.initialized RX1 ∈ gtb := gtb_m (List.mem_of_getElem? (i := 82) (by decide +kernel)) rfl
theorem in_X2 : Cond.initialized RX2 ∈ gtb := gtb_m (List.mem_of_getElem? (i := 89) (by decide +kernel)) rfl
theorem in_X3 : Cond.initialized RX3 ∈ gtb := gtb_m (List.mem_of_getElem? (i := 81) (by decide +kernel)) rfl
theorem in_X4 : Cond.initialized RX4 ∈ gtb := gtb_m (List.mem_of_getElem? (i := 85) (by decide +kernel)) rfl
theorem in_X5 : Cond.initialized RX5 ∈ gtb := gtb_m (List.mem_of_getElem? (i := 90) (by decide +kernel)) rfl
theorem in_X6 : Cond.initialized RX6 ∈ gtb := gtb_m (List.mem_of_getElem? (i := 88) (by decide +kernel)) rfl
theorem in_X7 : Cond.initialized RX7 ∈ gtb := gtb_m (List.mem_of_getElem? (i := 83) (by decide +kernel)) rfl
theorem in_X8 : Cond.initialized RX8 ∈ gtb := gtb_m (List.mem_of_getElem? (i := 87) (by decide +kernel)) rfl
theorem in_X9 : Cond.initialized RX9 ∈ gtb := gtb_m (List.mem_of_getElem? (i := 86) (by decide +kernel)) rfl
theorem in_X10 : Cond.initialized RX10 ∈ gtb := gtb_m (List.mem_of_getElem? (i := 80) (by decide +kernel)) rfl
theorem in_X11 : Cond.initialized RX11 ∈ gtb := gtb_m (List.mem_of_getElem? (i := 92) (by decide +kernel)) rfl
theorem in_J6 : Cond.initialized RJ6 ∈ gtb := gtb_m (List.mem_of_getElem? (i := 93) (by decide +kernel)) rfl
theorem in_J9 : Cond.initialized RJ9 ∈ gtb := gtb_m (List.mem_of_getElem? (i := 84) (by decide +kernel)) rfl
theorem z_acn : Cond.native arraycopyName ∈ gtb := gtb_m (List.mem_of_getElem? (i := 929) (by decide +kernel)) rfl
theorem z_acs : Cond.static arraycopyName ∈ gtb := gtb_m (List.mem_of_getElem? (i := 928) (by decide +kernel)) rfl
theorem z_aci : Cond.initialized "java/lang/System" ∈ gtb := gtb_m (List.mem_of_getElem? (i := 94) (by decide +kernel)) rfl
theorem fl_X3_9 : Cond.fieldLink RX3 9 (TX3 0).1 (TX3 0).2.1 (TX3 0).2.2.1 ∈ gtb := gtb_m (List.mem_of_getElem? (i := 109) (by decide +kernel)) rfl
theorem fl_X3_15 : Cond.fieldLink RX3 15 (TX3 1).1 (TX3 1).2.1 (TX3 1).2.2.1 ∈ gtb := gtb_m (List.mem_of_getElem? (i := 111) (by decide +kernel)) rfl
theorem fl_X3_18 : Cond.fieldLink RX3 18 (TX3 2).1 (TX3 2).2.1 (TX3 2).2.2.1 ∈ gtb := gtb_m (List.mem_of_getElem? (i := 116) (by decide +kernel)) rfl
theorem fl_X3_22 : Cond.fieldLink RX3 22 (TX3 3).1 (TX3 3).2.1 (TX3 3).2.2.1 ∈ gtb := gtb_m (List.mem_of_getElem? (i := 118) (by decide +kernel)) rfl
theorem fl_X3_25 : Cond.fieldLink RX3 25 (TX3 4).1 (TX3 4).2.1 (TX3 4).2.2.1 ∈ gtb := gtb_m (List.mem_of_getElem? (i := 121) (by decide +kernel)) rfl
theorem fl_X3_28 : Cond.fieldLink RX3 28 (TX3 5).1 (TX3 5).2.1 (TX3 5).2.2.1 ∈ gtb := gtb_m (List.mem_of_getElem? (i := 126) (by decide +kernel)) rfl
theorem fl_X3_31 : Cond.fieldLink RX3 31 (TX3 6).1 (TX3 6).2.1 (TX3 6).2.2.1 ∈ gtb := gtb_m (List.mem_of_getElem? (i := 131) (by decide +kernel)) rfl
theorem fl_X3_34 : Cond.fieldLink RX3 34 (TX3 7).1 (TX3 7).2.1 (TX3 7).2.2.1 ∈ gtb := gtb_m (List.mem_of_getElem? (i := 136) (by decide +kernel)) rfl
theorem fl_X3_37 : Cond.fieldLink RX3 37 (TX3 8).1 (TX3 8).2.1 (TX3 8).2.2.1 ∈ gtb := gtb_m (List.mem_of_getElem? (i := 137) (by decide +kernel)) rfl
theorem fl_X1_9 : Cond.fieldLink RX1 9 (TX1 0).1 (TX1 0).2.1 (TX1 0).2.2.1 ∈ gtb := gtb_m (List.mem_of_getElem? (i := 166) (by decide +kernel)) rfl
theorem fl_X1_15 : Cond.fieldLink RX1 15 (TX1 1).1 (TX1 1).2.1 (TX1 1).2.2.1 ∈ gtb := gtb_m (List.mem_of_getElem? (i := 170) (by decide +kernel)) rfl
theorem fl_X1_19 : Cond.fieldLink RX1 19 (TX1 2).1 (TX1 2).2.1 (TX1 2).2.2.1 ∈ gtb := gtb_m (List.mem_of_getElem? (i := 172) (by decide +kernel)) rfl
theorem fl_X1_22 : Cond.fieldLink RX1 22 (TX1 3).1 (TX1 3).2.1 (TX1 3).2.2.1 ∈ gtb := gtb_m (List.mem_of_getElem? (i := 175) (by decide +kernel)) rfl
theorem fl_X1_25 : Cond.fieldLink RX1 25 (TX1 4).1 (TX1 4).2.1 (TX1 4).2.2.1 ∈ gtb := gtb_m (List.mem_of_getElem? (i := 176) (by decide +kernel)) rfl
theorem fl_X1_29 : Cond.fieldLink RX1 29 (TX1 5).1 (TX1 5).2.1 (TX1 5).2.2.1 ∈ gtb := gtb_m (List.mem_of_getElem? (i := 180) (by decide +kernel)) rfl
theorem fl_X1_33 : Cond.fieldLink RX1 33 (TX1 6).1 (TX1 6).2.1 (TX1 6).2.2.1 ∈ gtb := gtb_m (List.mem_of_getElem? (i := 184) (by decide +kernel)) rfl
theorem fl_X7_13 : Cond.fieldLink RX7 13 (TX7 0).1 (TX7 0).2.1 (TX7 0).2.2.1 ∈ gtb := gtb_m (List.mem_of_getElem? (i := 210) (by decide +kernel)) rfl
theorem fl_X7_19 : Cond.fieldLink RX7 19 (TX7 1).1 (TX7 1).2.1 (TX7 1).2.2.1 ∈ gtb := gtb_m (List.mem_of_getElem? (i := 213) (by decide +kernel)) rfl
theorem fl_X4_9 : Cond.fieldLink RX4 9 (TX4 0).1 (TX4 0).2.1 (TX4 0).2.2.1 ∈ gtb := gtb_m (List.mem_of_getElem? (i := 228) (by decide +kernel)) rfl
theorem fl_X9_9 : Cond.fieldLink RX9 9 (TX9 0).1 (TX9 0).2.1 (TX9 0).2.2.1 ∈ gtb := gtb_m (List.mem_of_getElem? (i := 238) (by decide +kernel)) rfl
theorem fl_X9_15 : Cond.fieldLink RX9 15 (TX9 1).1 (TX9 1).2.1 (TX9 1).2.2.1 ∈ gtb := gtb_m (List.mem_of_getElem? (i := 239) (by decide +kernel)) rfl
theorem fl_X9_19 : Cond.fieldLink RX9 19 (TX9 2).1 (TX9 2).2.1 (TX9 2).2.2.1 ∈ gtb := gtb_m (List.mem_of_getElem? (i := 242) (by decide +kernel)) rfl
theorem fl_X9_23 : Cond.fieldLink RX9 23 (TX9 3).1 (TX9 3).2.1 (TX9 3).2.2.1 ∈ gtb := gtb_m (List.mem_of_getElem? (i := 243) (by decide +kernel)) rfl
theorem fl_X8_9 : Cond.fieldLink RX8 9 (TX8 0).1 (TX8 0).2.1 (TX8 0).2.2.1 ∈ gtb := gtb_m (List.mem_of_getElem? (i := 261) (by decide +kernel)) rfl
theorem fl_X8_18 : Cond.fieldLink RX8 18 (TX8 1).1 (TX8 1).2.1 (TX8 1).2.2.1 ∈ gtb := gtb_m (List.mem_of_getElem? (i := 262) (by decide +kernel)) rfl
theorem fl_X8_22 : Cond.fieldLink RX8 22 (TX8 2).1 (TX8 2).2.1 (TX8 2).2.2.1 ∈ gtb := gtb_m (List.mem_of_getElem? (i := 264) (by decide +kernel)) rfl
theorem fl_X8_25 : Cond.fieldLink RX8 25 (TX8 3).1 (TX8 3).2.1 (TX8 3).2.2.1 ∈ gtb := gtb_m (List.mem_of_getElem? (i := 266) (by decide +kernel)) rfl
theorem fl_X8_29 : Cond.fieldLink RX8 29 (TX8 4).1 (TX8 4).2.1 (TX8 4).2.2.1 ∈ gtb := gtb_m (List.mem_of_getElem? (i := 267) (by decide +kernel)) rfl
theorem fl_X8_33 : Cond.fieldLink RX8 33 (TX8 5).1 (TX8 5).2.1 (TX8 5).2.2.1 ∈ gtb := gtb_m (List.mem_of_getElem? (i := 268) (by decide +kernel)) rfl
theorem fl_X8_36 : Cond.fieldLink RX8 36 (TX8 6).1 (TX8 6).2.1 (TX8 6).2.2.1 ∈ gtb := gtb_m (List.mem_of_getElem? (i := 269) (by decide +kernel)) rfl
theorem fl_X8_40 : Cond.fieldLink RX8 40 (TX8 7).1 (TX8 7).2.1 (TX8 7).2.2.1 ∈ gtb := gtb_m (List.mem_of_getElem? (i := 271) (by decide +kernel)) rfl
theorem fl_X8_43 : Cond.fieldLink RX8 43 (TX8 8).1 (TX8 8).2.1 (TX8 8).2.2.1 ∈ gtb := gtb_m (List.mem_of_getElem? (i := 273) (by decide +kernel)) rfl
theorem fl_X8_47 : Cond.fieldLink RX8 47 (TX8 9).1 (TX8 9).2.1 (TX8 9).2.2.1 ∈ gtb := gtb_m (List.mem_of_getElem? (i := 274) (by decide +kernel)) rfl
theorem fl_X6_9 : Cond.fieldLink RX6 9 (TX6 0).1 (TX6 0).2.1 (TX6 0).2.2.1 ∈ gtb := gtb_m (List.mem_of_getElem? (i := 303) (by decide +kernel)) rfl
theorem fl_X6_15 : Cond.fieldLink RX6 15 (TX6 1).1 (TX6 1).2.1 (TX6 1).2.2.1 ∈ gtb := gtb_m (List.mem_of_getElem? (i := 304) (by decide +kernel)) rfl
theorem fl_X6_19 : Cond.fieldLink RX6 19 (TX6 2).1 (TX6 2).2.1 (TX6 2).2.2.1 ∈ gtb := gtb_m (List.mem_of_getElem? (i := 305) (by decide +kernel)) rfl
theorem fl_X6_23 : Cond.fieldLink RX6 23 (TX6 3).1 (TX6 3).2.1 (TX6 3).2.2.1 ∈ gtb := gtb_m (List.mem_of_getElem? (i := 307) (by decide +kernel)) rfl
theorem fl_X6_26 : Cond.fieldLink RX6 26 (TX6 4).1 (TX6 4).2.1 (TX6 4).2.2.1 ∈ gtb := gtb_m (List.mem_of_getElem? (i := 308) (by decide +kernel)) rfl
theorem fl_X6_29 : Cond.fieldLink RX6 29 (TX6 5).1 (TX6 5).2.1 (TX6 5).2.2.1 ∈ gtb := gtb_m (List.mem_of_getElem? (i := 310) (by decide +kernel)) rfl
theorem fl_X6_33 : Cond.fieldLink RX6 33 (TX6 6).1 (TX6 6).2.1 (TX6 6).2.2.1 ∈ gtb := gtb_m (List.mem_of_getElem? (i := 312) (by decide +kernel)) rfl
theorem fl_X6_37 : Cond.fieldLink RX6 37 (TX6 7).1 (TX6 7).2.1 (TX6 7).2.2.1 ∈ gtb := gtb_m (List.mem_of_getElem? (i := 314) (by decide +kernel)) rfl
theorem fl_X2_9 : Cond.fieldLink RX2 9 (TX2 0).1 (TX2 0).2.1 (TX2 0).2.2.1 ∈ gtb := gtb_m (List.mem_of_getElem? (i := 340) (by decide +kernel)) rfl
theorem fl_X2_15 : Cond.fieldLink RX2 15 (TX2 1).1 (TX2 1).2.1 (TX2 1).2.2.1 ∈ gtb := gtb_m (List.mem_of_getElem? (i := 341) (by decide +kernel)) rfl
theorem fl_X2_19 : Cond.fieldLink RX2 19 (TX2 2).1 (TX2 2).2.1 (TX2 2).2.2.1 ∈ gtb := gtb_m (List.mem_of_getElem? (i := 342) (by decide +kernel)) rfl
theorem fl_X2_23 : Cond.fieldLink RX2 23 (TX2 3).1 (TX2 3).2.1 (TX2 3).2.2.1 ∈ gtb := gtb_m (List.mem_of_getElem? (i := 343) (by decide +kernel)) rfl
theorem fl_X5_9 : Cond.fieldLink RX5 9 (TX5 0).1 (TX5 0).2.1 (TX5 0).2.2.1 ∈ gtb := gtb_m (List.mem_of_getElem? (i := 360) (by decide +kernel)) rfl
theorem fl_X5_15 : Cond.fieldLink RX5 15 (TX5 1).1 (TX5 1).2.1 (TX5 1).2.2.1 ∈ gtb := gtb_m (List.mem_of_getElem? (i := 362) (by decide +kernel)) rfl
theorem fl_X5_19 : Cond.fieldLink RX5 19 (TX5 2).1 (TX5 2).2.1 (TX5 2).2.2.1 ∈ gtb := gtb_m (List.mem_of_getElem? (i := 364) (by decide +kernel)) rfl
theorem fl_X5_22 : Cond.fieldLink RX5 22 (TX5 3).1 (TX5 3).2.1 (TX5 3).2.2.1 ∈ gtb := gtb_m (List.mem_of_getElem? (i := 366) (by decide +kernel)) rfl
theorem fl_X0_7 : Cond.fieldLink RX0 7 (TX0 0).1 (TX0 0).2.1 (TX0 0).2.2.1 ∈ gtb := gtb_m (List.mem_of_getElem? (i := 383) (by decide +kernel)) rfl
theorem fl_X0_13 : Cond.fieldLink RX0 13 (TX0 1).1 (TX0 1).2.1 (TX0 1).2.2.1 ∈ gtb := gtb_m (List.mem_of_getElem? (i := 385) (by decide +kernel)) rfl
theorem fl_X10_28 : Cond.fieldLink RX10 28 (TX10 0).1 (TX10 0).2.1 (TX10 0).2.2.1 ∈ gtb := gtb_m (List.mem_of_getElem? (i := 392) (by decide +kernel)) rfl
theorem fl_X10_37 : Cond.fieldLink RX10 37 (TX10 1).1 (TX10 1).2.1 (TX10 1).2.2.1 ∈ gtb := gtb_m (List.mem_of_getElem? (i := 393) (by decide +kernel)) rfl
theorem fl_X10_44 : Cond.fieldLink RX10 44 (TX10 2).1 (TX10 2).2.1 (TX10 2).2.2.1 ∈ gtb := gtb_m (List.mem_of_getElem? (i := 394) (by decide +kernel)) rfl
theorem fl_X10_48 : Cond.fieldLink RX10 48 (TX10 3).1 (TX10 3).2.1 (TX10 3).2.2.1 ∈ gtb := gtb_m (List.mem_of_getElem? (i := 395) (by decide +kernel)) rfl
theorem fl_X10_52 : Cond.fieldLink RX10 52 (TX10 4).1 (TX10 4).2.1 (TX10 4).2.2.1 ∈ gtb := gtb_m (List.mem_of_getElem? (i := 396) (by decide +kernel)) rfl
theorem fl_X10_56 : Cond.fieldLink RX10 56 (TX10 5).1 (TX10 5).2.1 (TX10 5).2.2.1 ∈ gtb := gtb_m (List.mem_of_getElem? (i := 397) (by decide +kernel)) rfl
theorem fl_X10_65 : Cond.fieldLink RX10 65 (TX10 6).1 (TX10 6).2.1 (TX10 6).2.2.1 ∈ gtb := gtb_m (List.mem_of_getElem? (i := 398) (by decide +kernel)) rfl
theorem fl_X10_71 : Cond.fieldLink RX10 71 (TX10 7).1 (TX10 7).2.1 (TX10 7).2.2.1 ∈ gtb := gtb_m (List.mem_of_getElem? (i := 399) (by decide +kernel)) rfl
theorem fl_X10_79 : Cond.fieldLink RX10 79 (TX10 8).1 (TX10 8).2.1 (TX10 8).2.2.1 ∈ gtb := gtb_m (List.mem_of_getElem? (i := 400) (by decide +kernel)) rfl
theorem fl_X10_83 : Cond.fieldLink RX10 83 (TX10 9).1 (TX10 9).2.1 (TX10 9).2.2.1 ∈ gtb := gtb_m (List.mem_of_getElem? (i := 401) (by decide +kernel)) rfl
theorem fl_X11_90 : Cond.fieldLink RX11 90 (TX11 0).1 (TX11 0).2.1 (TX11 0).2.2.1 ∈ gtb := gtb_m (List.mem_of_getElem? (i := 989) (by decide +kernel)) rfl
theorem fl_X11_7 : Cond.fieldLink RX11 7 (TX11 1).1 (TX11 1).2.1 (TX11 1).2.2.1 ∈ gtb := gtb_m (List.mem_of_getElem? (i := 990) (by decide +kernel)) rfl
theorem fl_X11_13 : Cond.fieldLink RX11 13 (TX11 2).1 (TX11 2).2.1 (TX11 2).2.2.1 ∈ gtb := gtb_m (List.mem_of_getElem? (i := 991) (by decide +kernel)) rfl
theorem fl_X11_98 : Cond.fieldLink RX11 98 (TX11 3).1 (TX11 3).2.1 (TX11 3).2.2.1 ∈ gtb := gtb_m (List.mem_of_getElem? (i := 992) (by decide +kernel)) rfl
theorem fl_X11_16 : Cond.fieldLink RX11 16 (TX11 4).1 (TX11 4).2.1 (TX11 4).2.2.1 ∈ gtb := gtb_m (List.mem_of_getElem? (i := 993) (by decide +kernel)) rfl
theorem fl_X11_19 : Cond.fieldLink RX11 19 (TX11 5).1 (TX11 5).2.1 (TX11 5).2.2.1 ∈ gtb := gtb_m (List.mem_of_getElem? (i := 994) (by decide +kernel)) rfl
theorem fl_X11_22 : Cond.fieldLink RX11 22 (TX11 6).1 (TX11 6).2.1 (TX11 6).2.2.1 ∈ gtb := gtb_m (List.mem_of_getElem? (i := 995) (by decide +kernel)) rfl
theorem fl_X11_25 : Cond.fieldLink RX11 25 (TX11 7).1 (TX11 7).2.1 (TX11 7).2.2.1 ∈ gtb := gtb_m (List.mem_of_getElem? (i := 996) (by decide +kernel)) rfl
theorem fl_X11_28 : Cond.fieldLink RX11 28 (TX11 8).1 (TX11 8).2.1 (TX11 8).2.2.1 ∈ gtb := gtb_m (List.mem_of_getElem? (i := 997) (by decide +kernel)) rfl
theorem fl_X11_31 : Cond.fieldLink RX11 31 (TX11 9).1 (TX11 9).2.1 (TX11 9).2.2.1 ∈ gtb := gtb_m (List.mem_of_getElem? (i := 998) (by decide +kernel)) rfl
theorem fl_X11_35 : Cond.fieldLink RX11 35 (TX11 10).1 (TX11 10).2.1 (TX11 10).2.2.1 ∈ gtb := gtb_m (List.mem_of_getElem? (i := 999) (by decide +kernel)) rfl
theorem fl_X11_38 : Cond.fieldLink RX11 38 (TX11 11).1 (TX11 11).2.1 (TX11 11).2.2.1 ∈ gtb := gtb_m (List.mem_of_getElem? (i := 1000) (by decide +kernel)) rfl
theorem fl_X11_41 : Cond.fieldLink RX11 41 (TX11 12).1 (TX11 12).2.1 (TX11 12).2.2.1 ∈ gtb := gtb_m (List.mem_of_getElem? (i := 1001) (by decide +kernel)) rfl
theorem fl_X11_167 : Cond.fieldLink RX11 167 (TX11 13).1 (TX11 13).2.1 (TX11 13).2.2.1 ∈ gtb := gtb_m (List.mem_of_getElem? (i := 1002) (by decide +kernel)) rfl
theorem fl_X11_171 : Cond.fieldLink RX11 171 (TX11 14).1 (TX11 14).2.1 (TX11 14).2.2.1 ∈ gtb := gtb_m (List.mem_of_getElem? (i := 1003) (by decide +kernel)) rfl
theorem fl_X11_44 : Cond.fieldLink RX11 44 (TX11 15).1 (TX11 15).2.1 (TX11 15).2.2.1 ∈ gtb := gtb_m (List.mem_of_getElem? (i := 1004) (by decide +kernel)) rfl
theorem fl_X11_47 : Cond.fieldLink RX11 47 (TX11 16).1 (TX11 16).2.1 (TX11 16).2.2.1 ∈ gtb := gtb_m (List.mem_of_getElem? (i := 1005) (by decide +kernel)) rfl
theorem fl_X11_50 : Cond.fieldLink RX11 50 (TX11 17).1 (TX11 17).2.1 (TX11 17).2.2.1 ∈ gtb := gtb_m (List.mem_of_getElem? (i := 1006) (by decide +kernel)) rfl
theorem fl_X11_53 : Cond.fieldLink RX11 53 (TX11 18).1 (TX11 18).2.1 (TX11 18).2.2.1 ∈ gtb := gtb_m (List.mem_of_getElem? (i := 1007) (by decide +kernel)) rfl
theorem fl_X11_56 : Cond.fieldLink RX11 56 (TX11 19).1 (TX11 19).2.1 (TX11 19).2.2.1 ∈ gtb := gtb_m (List.mem_of_getElem? (i := 1008) (by decide +kernel)) rfl
theorem fl_X11_59 : Cond.fieldLink RX11 59 (TX11 20).1 (TX11 20).2.1 (TX11 20).2.2.1 ∈ gtb := gtb_m (List.mem_of_getElem? (i := 1009) (by decide +kernel)) rfl
theorem fl_X11_62 : Cond.fieldLink RX11 62 (TX11 21).1 (TX11 21).2.1 (TX11 21).2.2.1 ∈ gtb := gtb_m (List.mem_of_getElem? (i := 1010) (by decide +kernel)) rfl
theorem fl_X11_65 : Cond.fieldLink RX11 65 (TX11 22).1 (TX11 22).2.1 (TX11 22).2.2.1 ∈ gtb := gtb_m (List.mem_of_getElem? (i := 1011) (by decide +kernel)) rfl
theorem fl_X11_267 : Cond.fieldLink RX11 267 (TX11 23).1 (TX11 23).2.1 (TX11 23).2.2.1 ∈ gtb := gtb_m (List.mem_of_getElem? (i := 1012) (by decide +kernel)) rfl
theorem fl_X11_270 : Cond.fieldLink RX11 270 (TX11 24).1 (TX11 24).2.1 (TX11 24).2.2.1 ∈ gtb := gtb_m (List.mem_of_getElem? (i := 1013) (by decide +kernel)) rfl
theorem fl_X11_252 : Cond.fieldLink RX11 252 (TX11 25).1 (TX11 25).2.1 (TX11 25).2.2.1 ∈ gtb := gtb_m (List.mem_of_getElem? (i := 1014) (by decide +kernel)) rfl
theorem fl_X11_255 : Cond.fieldLink RX11 255 (TX11 26).1 (TX11 26).2.1 (TX11 26).2.2.1 ∈ gtb := gtb_m (List.mem_of_getElem? (i := 1015) (by decide +kernel)) rfl
theorem fl_X11_302 : Cond.fieldLink RX11 302 (TX11 27).1 (TX11 27).2.1 (TX11 27).2.2.1 ∈ gtb := gtb_m (List.mem_of_getElem? (i := 1016) (by decide +kernel)) rfl
theorem fl_X11_68 : Cond.fieldLink RX11 68 (TX11 28).1 (TX11 28).2.1 (TX11 28).2.2.1 ∈ gtb := gtb_m (List.mem_of_getElem? (i := 1017) (by decide +kernel)) rfl
theorem fl_X11_72 : Cond.fieldLink RX11 72 (TX11 29).1 (TX11 29).2.1 (TX11 29).2.2.1 ∈ gtb := gtb_m (List.mem_of_getElem? (i := 1018) (by decide +kernel)) rfl
theorem fl_X11_75 : Cond.fieldLink RX11 75 (TX11 30).1 (TX11 30).2.1 (TX11 30).2.2.1 ∈ gtb := gtb_m (List.mem_of_getElem? (i := 1019) (by decide +kernel)) rfl
theorem fl_X11_78 : Cond.fieldLink RX11 78 (TX11 31).1 (TX11 31).2.1 (TX11 31).2.2.1 ∈ gtb := gtb_m (List.mem_of_getElem? (i := 1020) (by decide +kernel)) rfl
theorem fl_X11_81 : Cond.fieldLink RX11 81 (TX11 32).1 (TX11 32).2.1 (TX11 32).2.2.1 ∈ gtb := gtb_m (List.mem_of_getElem? (i := 1021) (by decide +kernel)) rfl
theorem fl_X11_308 : Cond.fieldLink RX11 308 (TX11 33).1 (TX11 33).2.1 (TX11 33).2.2.1 ∈ gtb := gtb_m (List.mem_of_getElem? (i := 1022) (by decide +kernel)) rfl
theorem fl_X10_91 : Cond.fieldLinkNest RX10 91 (TX3 0).1 (TX3 0).2.1 (TX3 0).2.2.1 "LaneFour" ∈ nst := nst_m (List.mem_of_getElem? (i := 110) (by decide +kernel)) rfl
theorem fl_X8_53 : Cond.fieldLinkNest RX8 53 (TX3 1).1 (TX3 1).2.1 (TX3 1).2.2.1 "LaneFour" ∈ nst := nst_m (List.mem_of_getElem? (i := 112) (by decide +kernel)) rfl
theorem fl_X6_41 : Cond.fieldLinkNest RX6 41 (TX3 1).1 (TX3 1).2.1 (TX3 1).2.2.1 "LaneFour" ∈ nst := nst_m (List.mem_of_getElem? (i := 113) (by decide +kernel)) rfl
theorem fl_X10_112 : Cond.fieldLinkNest RX10 112 (TX3 1).1 (TX3 1).2.1 (TX3 1).2.2.1 "LaneFour" ∈ nst := nst_m (List.mem_of_getElem? (i := 114) (by decide +kernel)) rfl
theorem fl_X4_29 : Cond.fieldLinkNest RX4 29 (TX3 1).1 (TX3 1).2.1 (TX3 1).2.2.1 "LaneFour" ∈ nst := nst_m (List.mem_of_getElem? (i := 115) (by decide +kernel)) rfl
theorem fl_X6_100 : Cond.fieldLinkNest RX6 100 (TX3 2).1 (TX3 2).2.1 (TX3 2).2.2.1 "LaneFour" ∈ nst := nst_m (List.mem_of_getElem? (i := 117) (by decide +kernel)) rfl
theorem fl_X8_85 : Cond.fieldLinkNest RX8 85 (TX3 3).1 (TX3 3).2.1 (TX3 3).2.2.1 "LaneFour" ∈ nst := nst_m (List.mem_of_getElem? (i := 119) (by decide +kernel)) rfl
theorem fl_X10_173 : Cond.fieldLinkNest RX10 173 (TX3 3).1 (TX3 3).2.1 (TX3 3).2.2.1 "LaneFour" ∈ nst := nst_m (List.mem_of_getElem? (i := 120) (by decide +kernel)) rfl
theorem fl_X8_82 : Cond.fieldLinkNest RX8 82 (TX3 4).1 (TX3 4).2.1 (TX3 4).2.2.1 "LaneFour" ∈ nst := nst_m (List.mem_of_getElem? (i := 122) (by decide +kernel)) rfl
theorem fl_X4_34 : Cond.fieldLinkNest RX4 34 (TX3 4).1 (TX3 4).2.1 (TX3 4).2.2.1 "LaneFour" ∈ nst := nst_m (List.mem_of_getElem? (i := 123) (by decide +kernel)) rfl
theorem fl_X10_164 : Cond.fieldLinkNest RX10 164 (TX3 4).1 (TX3 4).2.1 (TX3 4).2.2.1 "LaneFour" ∈ nst := nst_m (List.mem_of_getElem? (i := 124) (by decide +kernel)) rfl
theorem fl_X6_97 : Cond.fieldLinkNest RX6 97 (TX3 4).1 (TX3 4).2.1 (TX3 4).2.2.1 "LaneFour" ∈ nst := nst_m (List.mem_of_getElem? (i := 125) (by decide +kernel)) rfl
theorem fl_X6_54 : Cond.fieldLinkNest RX6 54 (TX3 5).1 (TX3 5).2.1 (TX3 5).2.2.1 "LaneFour" ∈ nst := nst_m (List.mem_of_getElem? (i := 127) (by decide +kernel)) rfl
theorem fl_X4_48 : Cond.fieldLinkNest RX4 48 (TX3 5).1 (TX3 5).2.1 (TX3 5).2.2.1 "LaneFour" ∈ nst := nst_m (List.mem_of_getElem? (i := 128) (by decide +kernel)) rfl
theorem fl_X10_167 : Cond.fieldLinkNest RX10 167 (TX3 5).1 (TX3 5).2.1 (TX3 5).2.2.1 "LaneFour" ∈ nst := nst_m (List.mem_of_getElem? (i := 129) (by decide +kernel)) rfl
theorem fl_X8_120 : Cond.fieldLinkNest RX8 120 (TX3 5).1 (TX3 5).2.1 (TX3 5).2.2.1 "LaneFour" ∈ nst := nst_m (List.mem_of_getElem? (i := 130) (by decide +kernel)) rfl
theorem fl_X8_69 : Cond.fieldLinkNest RX8 69 (TX3 6).1 (TX3 6).2.1 (TX3 6).2.2.1 "LaneFour" ∈ nst := nst_m (List.mem_of_getElem? (i := 132) (by decide +kernel)) rfl
theorem fl_X6_61 : Cond.fieldLinkNest RX6 61 (TX3 6).1 (TX3 6).2.1 (TX3 6).2.2.1 "LaneFour" ∈ nst := nst_m (List.mem_of_getElem? (i := 133) (by decide +kernel)) rfl
theorem fl_X4_37 : Cond.fieldLinkNest RX4 37 (TX3 6).1 (TX3 6).2.1 (TX3 6).2.2.1 "LaneFour" ∈ nst := nst_m (List.mem_of_getElem? (i := 134) (by decide +kernel)) rfl
theorem fl_X10_170 : Cond.fieldLinkNest RX10 170 (TX3 6).1 (TX3 6).2.1 (TX3 6).2.2.1 "LaneFour" ∈ nst := nst_m (List.mem_of_getElem? (i := 135) (by decide +kernel)) rfl
theorem fl_X2_73 : Cond.fieldLinkNest RX2 73 (TX3 8).1 (TX3 8).2.1 (TX3 8).2.2.1 "LaneFour" ∈ nst := nst_m (List.mem_of_getElem? (i := 138) (by decide +kernel)) rfl
theorem fl_X10_161 : Cond.fieldLinkNest RX10 161 (TX3 8).1 (TX3 8).2.1 (TX3 8).2.2.1 "LaneFour" ∈ nst := nst_m (List.mem_of_getElem? (i := 139) (by decide +kernel)) rfl
theorem fl_X8_66 : Cond.fieldLinkNest RX8 66 (TX1 0).1 (TX1 0).2.1 (TX1 0).2.2.1 "LaneFour" ∈ nst := nst_m (List.mem_of_getElem? (i := 167) (by decide +kernel)) rfl
theorem fl_X6_86 : Cond.fieldLinkNest RX6 86 (TX1 0).1 (TX1 0).2.1 (TX1 0).2.2.1 "LaneFour" ∈ nst := nst_m (List.mem_of_getElem? (i := 168) (by decide +kernel)) rfl
theorem fl_X10_215 : Cond.fieldLinkNest RX10 215 (TX1 0).1 (TX1 0).2.1 (TX1 0).2.2.1 "LaneFour" ∈ nst := nst_m (List.mem_of_getElem? (i := 169) (by decide +kernel)) rfl
theorem fl_X8_72 : Cond.fieldLinkNest RX8 72 (TX1 1).1 (TX1 1).2.1 (TX1 1).2.2.1 "LaneFour" ∈ nst := nst_m (List.mem_of_getElem? (i := 171) (by decide +kernel)) rfl
theorem fl_X8_103 : Cond.fieldLinkNest RX8 103 (TX1 2).1 (TX1 2).2.1 (TX1 2).2.2.1 "LaneFour" ∈ nst := nst_m (List.mem_of_getElem? (i := 173) (by decide +kernel)) rfl
theorem fl_X10_393 : Cond.fieldLinkNest RX10 393 (TX1 2).1 (TX1 2).2.1 (TX1 2).2.2.1 "LaneFour" ∈ nst := nst_m (List.mem_of_getElem? (i := 174) (by decide +kernel)) rfl
theorem fl_X8_100 : Cond.fieldLinkNest RX8 100 (TX1 4).1 (TX1 4).2.1 (TX1 4).2.2.1 "LaneFour" ∈ nst := nst_m (List.mem_of_getElem? (i := 177) (by decide +kernel)) rfl
theorem fl_X6_76 : Cond.fieldLinkNest RX6 76 (TX1 4).1 (TX1 4).2.1 (TX1 4).2.2.1 "LaneFour" ∈ nst := nst_m (List.mem_of_getElem? (i := 178) (by decide +kernel)) rfl
theorem fl_X10_390 : Cond.fieldLinkNest RX10 390 (TX1 4).1 (TX1 4).2.1 (TX1 4).2.2.1 "LaneFour" ∈ nst := nst_m (List.mem_of_getElem? (i := 179) (by decide +kernel)) rfl
theorem fl_X6_83 : Cond.fieldLinkNest RX6 83 (TX1 5).1 (TX1 5).2.1 (TX1 5).2.2.1 "LaneFour" ∈ nst := nst_m (List.mem_of_getElem? (i := 181) (by decide +kernel)) rfl
theorem fl_X8_123 : Cond.fieldLinkNest RX8 123 (TX1 5).1 (TX1 5).2.1 (TX1 5).2.2.1 "LaneFour" ∈ nst := nst_m (List.mem_of_getElem? (i := 182) (by decide +kernel)) rfl
theorem fl_X10_387 : Cond.fieldLinkNest RX10 387 (TX1 5).1 (TX1 5).2.1 (TX1 5).2.2.1 "LaneFour" ∈ nst := nst_m (List.mem_of_getElem? (i := 183) (by decide +kernel)) rfl
theorem fl_X4_21 : Cond.fieldLinkNest RX4 21 (TX7 0).1 (TX7 0).2.1 (TX7 0).2.2.1 "LaneFour" ∈ nst := nst_m (List.mem_of_getElem? (i := 211) (by decide +kernel)) rfl
theorem fl_X9_34 : Cond.fieldLinkNest RX9 34 (TX7 0).1 (TX7 0).2.1 (TX7 0).2.2.1 "LaneFour" ∈ nst := nst_m (List.mem_of_getElem? (i := 212) (by decide +kernel)) rfl
theorem fl_X4_15 : Cond.fieldLinkNest RX4 15 (TX7 1).1 (TX7 1).2.1 (TX7 1).2.2.1 "LaneFour" ∈ nst := nst_m (List.mem_of_getElem? (i := 214) (by decide +kernel)) rfl
theorem fl_X9_29 : Cond.fieldLinkNest RX9 29 (TX7 1).1 (TX7 1).2.1 (TX7 1).2.2.1 "LaneFour" ∈ nst := nst_m (List.mem_of_getElem? (i := 215) (by decide +kernel)) rfl
theorem fl_X10_350 : Cond.fieldLinkNest RX10 350 (TX7 1).1 (TX7 1).2.1 (TX7 1).2.2.1 "LaneFour" ∈ nst := nst_m (List.mem_of_getElem? (i := 216) (by decide +kernel)) rfl
theorem fl_X2_66 : Cond.fieldLinkNest RX2 66 (TX9 1).1 (TX9 1).2.1 (TX9 1).2.2.1 "LaneFour" ∈ nst := nst_m (List.mem_of_getElem? (i := 240) (by decide +kernel)) rfl
theorem fl_X10_311 : Cond.fieldLinkNest RX10 311 (TX9 1).1 (TX9 1).2.1 (TX9 1).2.2.1 "LaneFour" ∈ nst := nst_m (List.mem_of_getElem? (i := 241) (by decide +kernel)) rfl
theorem fl_X10_211 : Cond.fieldLinkNest RX10 211 (TX8 1).1 (TX8 1).2.1 (TX8 1).2.2.1 "LaneFour" ∈ nst := nst_m (List.mem_of_getElem? (i := 263) (by decide +kernel)) rfl
theorem fl_X10_381 : Cond.fieldLinkNest RX10 381 (TX8 2).1 (TX8 2).2.1 (TX8 2).2.2.1 "LaneFour" ∈ nst := nst_m (List.mem_of_getElem? (i := 265) (by decide +kernel)) rfl
theorem fl_X10_231 : Cond.fieldLinkNest RX10 231 (TX8 6).1 (TX8 6).2.1 (TX8 6).2.2.1 "LaneFour" ∈ nst := nst_m (List.mem_of_getElem? (i := 270) (by decide +kernel)) rfl
theorem fl_X10_234 : Cond.fieldLinkNest RX10 234 (TX8 7).1 (TX8 7).2.1 (TX8 7).2.2.1 "LaneFour" ∈ nst := nst_m (List.mem_of_getElem? (i := 272) (by decide +kernel)) rfl
theorem fl_X10_249 : Cond.fieldLinkNest RX10 249 (TX6 2).1 (TX6 2).2.1 (TX6 2).2.2.1 "LaneFour" ∈ nst := nst_m (List.mem_of_getElem? (i := 306) (by decide +kernel)) rfl
theorem fl_X10_258 : Cond.fieldLinkNest RX10 258 (TX6 4).1 (TX6 4).2.1 (TX6 4).2.2.1 "LaneFour" ∈ nst := nst_m (List.mem_of_getElem? (i := 309) (by decide +kernel)) rfl
theorem fl_X10_255 : Cond.fieldLinkNest RX10 255 (TX6 5).1 (TX6 5).2.1 (TX6 5).2.2.1 "LaneFour" ∈ nst := nst_m (List.mem_of_getElem? (i := 311) (by decide +kernel)) rfl
theorem fl_X10_267 : Cond.fieldLinkNest RX10 267 (TX6 6).1 (TX6 6).2.1 (TX6 6).2.2.1 "LaneFour" ∈ nst := nst_m (List.mem_of_getElem? (i := 313) (by decide +kernel)) rfl
theorem fl_X10_271 : Cond.fieldLinkNest RX10 271 (TX6 7).1 (TX6 7).2.1 (TX6 7).2.2.1 "LaneFour" ∈ nst := nst_m (List.mem_of_getElem? (i := 315) (by decide +kernel)) rfl
theorem fl_X10_142 : Cond.fieldLinkNest RX10 142 (TX5 0).1 (TX5 0).2.1 (TX5 0).2.2.1 "LaneFour" ∈ nst := nst_m (List.mem_of_getElem? (i := 361) (by decide +kernel)) rfl
theorem fl_X10_332 : Cond.fieldLinkNest RX10 332 (TX5 1).1 (TX5 1).2.1 (TX5 1).2.2.1 "LaneFour" ∈ nst := nst_m (List.mem_of_getElem? (i := 363) (by decide +kernel)) rfl
theorem fl_X10_149 : Cond.fieldLinkNest RX10 149 (TX5 2).1 (TX5 2).2.1 (TX5 2).2.2.1 "LaneFour" ∈ nst := nst_m (List.mem_of_getElem? (i := 365) (by decide +kernel)) rfl
theorem fl_X10_157 : Cond.fieldLinkNest RX10 157 (TX5 3).1 (TX5 3).2.1 (TX5 3).2.2.1 "LaneFour" ∈ nst := nst_m (List.mem_of_getElem? (i := 367) (by decide +kernel)) rfl
theorem fl_X10_241 : Cond.fieldLinkNest RX10 241 (TX0 0).1 (TX0 0).2.1 (TX0 0).2.2.1 "LaneFour" ∈ nst := nst_m (List.mem_of_getElem? (i := 384) (by decide +kernel)) rfl
theorem fl_X10_245 : Cond.fieldLinkNest RX10 245 (TX0 1).1 (TX0 1).2.1 (TX0 1).2.2.1 "LaneFour" ∈ nst := nst_m (List.mem_of_getElem? (i := 386) (by decide +kernel)) rfl
theorem ml_X7_7 : Cond.methodLink RX7 7 yJ9_max_7cf53 ∈ gtb := gtb_m (List.mem_of_getElem? (i := 207) (by decide +kernel)) rfl
theorem ml_L_13 : Cond.methodLink RL 13 yX10_race ∈ gtb := gtb_m (List.mem_of_getElem? (i := 423) (by decide +kernel)) rfl
theorem ml_X10_87 : Cond.methodLink RX10 87 yX10_mayBeRace ∈ gtb := gtb_m (List.mem_of_getElem? (i := 427) (by decide +kernel)) rfl
theorem ml_X10_126 : Cond.methodLink RX10 126 yX10_within ∈ gtb := gtb_m (List.mem_of_getElem? (i := 430) (by decide +kernel)) rfl
theorem ml_X10_218 : Cond.methodLink RX10 218 yX10_isDay ∈ gtb := gtb_m (List.mem_of_getElem? (i := 433) (by decide +kernel)) rfl
theorem ml_X10_94 : Cond.methodLink RX10 94 yX3_addRace ∈ gtb := gtb_m (List.mem_of_getElem? (i := 436) (by decide +kernel)) rfl
theorem ml_L_18 : Cond.methodLink RL 18 yX10_swim ∈ gtb := gtb_m (List.mem_of_getElem? (i := 440) (by decide +kernel)) rfl
theorem ml_X10_98 : Cond.methodLink RX10 98 yX3_hasRace ∈ gtb := gtb_m (List.mem_of_getElem? (i := 444) (by decide +kernel)) rfl
theorem ml_X10_102 : Cond.methodLink RX10 102 yX10_isSwimmer ∈ gtb := gtb_m (List.mem_of_getElem? (i := 448) (by decide +kernel)) rfl
theorem ml_X10_105 : Cond.methodLink RX10 105 yX10_isLane ∈ gtb := gtb_m (List.mem_of_getElem? (i := 451) (by decide +kernel)) rfl
theorem ml_X10_108 : Cond.methodLink RX10 108 yX3_isTaken ∈ gtb := gtb_m (List.mem_of_getElem? (i := 454) (by decide +kernel)) rfl
theorem ml_X10_115 : Cond.methodLink RX10 115 yX3_addSwim ∈ gtb := gtb_m (List.mem_of_getElem? (i := 458) (by decide +kernel)) rfl
theorem ml_L_23 : Cond.methodLink RL 23 yX10_time ∈ gtb := gtb_m (List.mem_of_getElem? (i := 462) (by decide +kernel)) rfl
theorem ml_X10_119 : Cond.methodLink RX10 119 yX3_hasSwim ∈ gtb := gtb_m (List.mem_of_getElem? (i := 466) (by decide +kernel)) rfl
theorem ml_X10_122 : Cond.methodLink RX10 122 yX3_lengthsOf ∈ gtb := gtb_m (List.mem_of_getElem? (i := 470) (by decide +kernel)) rfl
theorem ml_X10_129 : Cond.methodLink RX10 129 yX10_mayBeTime ∈ gtb := gtb_m (List.mem_of_getElem? (i := 474) (by decide +kernel)) rfl
theorem ml_X10_132 : Cond.methodLink RX10 132 yX3_timeOf ∈ gtb := gtb_m (List.mem_of_getElem? (i := 477) (by decide +kernel)) rfl
theorem ml_X10_135 : Cond.methodLink RX10 135 yX3_setTime ∈ gtb := gtb_m (List.mem_of_getElem? (i := 481) (by decide +kernel)) rfl
theorem ml_L_27 : Cond.methodLink RL 27 yX10_read ∈ gtb := gtb_m (List.mem_of_getElem? (i := 485) (by decide +kernel)) rfl
theorem ml_X10_139 : Cond.methodLink RX10 139 yX10_isSheet ∈ gtb := gtb_m (List.mem_of_getElem? (i := 489) (by decide +kernel)) rfl
theorem ml_X10_146 : Cond.methodLink RX10 146 yX10_found ∈ gtb := gtb_m (List.mem_of_getElem? (i := 492) (by decide +kernel)) rfl
theorem ml_X10_152 : Cond.methodLink RX10 152 yJ9_min_7cf53 ∈ gtb := gtb_m (List.mem_of_getElem? (i := 496) (by decide +kernel)) rfl
theorem ml_L_31 : Cond.methodLink RL 31 yX10_seeds ∈ gtb := gtb_m (List.mem_of_getElem? (i := 499) (by decide +kernel)) rfl
theorem ml_L_35 : Cond.methodLink RL 35 yX10_about ∈ gtb := gtb_m (List.mem_of_getElem? (i := 503) (by decide +kernel)) rfl
theorem ml_X10_176 : Cond.methodLink RX10 176 yX3_feltIn ∈ gtb := gtb_m (List.mem_of_getElem? (i := 507) (by decide +kernel)) rfl
theorem ml_X3_40 : Cond.methodLink RX3 40 yX3_timeOf ∈ gtb := gtb_m (List.mem_of_getElem? (i := 511) (by decide +kernel)) rfl
theorem ml_X10_179 : Cond.methodLink RX10 179 yX3_togetherIn ∈ gtb := gtb_m (List.mem_of_getElem? (i := 512) (by decide +kernel)) rfl
theorem ml_L_39 : Cond.methodLink RL 39 yX10_diff ∈ gtb := gtb_m (List.mem_of_getElem? (i := 516) (by decide +kernel)) rfl
theorem ml_X10_182 : Cond.methodLink RX10 182 yX10_isPart ∈ gtb := gtb_m (List.mem_of_getElem? (i := 520) (by decide +kernel)) rfl
theorem ml_X10_185 : Cond.methodLink RX10 185 yX10_refusal ∈ gtb := gtb_m (List.mem_of_getElem? (i := 523) (by decide +kernel)) rfl
theorem ml_X10_189 : Cond.methodLink RX10 189 yX3_hasDiff ∈ gtb := gtb_m (List.mem_of_getElem? (i := 527) (by decide +kernel)) rfl
theorem ml_X3_48 : Cond.methodLink RX3 48 yX3_doubledMean ∈ gtb := gtb_m (List.mem_of_getElem? (i := 531) (by decide +kernel)) rfl
theorem ml_X10_192 : Cond.methodLink RX10 192 yX3_doubledDiff ∈ gtb := gtb_m (List.mem_of_getElem? (i := 535) (by decide +kernel)) rfl
theorem ml_X10_197 : Cond.methodLink RX10 197 yX0_set ∈ gtb := gtb_m (List.mem_of_getElem? (i := 540) (by decide +kernel)) rfl
theorem ml_X0_16 : Cond.methodLink RX0 16 yJ9_abs_067f4 ∈ gtb := gtb_m (List.mem_of_getElem? (i := 544) (by decide +kernel)) rfl
theorem ml_X0_22 : Cond.methodLink RX0 22 yX0_commonPart ∈ gtb := gtb_m (List.mem_of_getElem? (i := 547) (by decide +kernel)) rfl
theorem ml_X10_201 : Cond.methodLink RX10 201 yX0_part ∈ gtb := gtb_m (List.mem_of_getElem? (i := 550) (by decide +kernel)) rfl
theorem ml_L_44 : Cond.methodLink RL 44 yX10_lane ∈ gtb := gtb_m (List.mem_of_getElem? (i := 554) (by decide +kernel)) rfl
theorem ml_X10_204 : Cond.methodLink RX10 204 yX8_survey ∈ gtb := gtb_m (List.mem_of_getElem? (i := 558) (by decide +kernel)) rfl
theorem ml_X8_50 : Cond.methodLink RX8 50 yX1_clear ∈ gtb := gtb_m (List.mem_of_getElem? (i := 562) (by decide +kernel)) rfl
theorem ml_X8_58 : Cond.methodLink RX8 58 yX3_hasDiff ∈ gtb := gtb_m (List.mem_of_getElem? (i := 566) (by decide +kernel)) rfl
theorem ml_X8_62 : Cond.methodLink RX8 62 yX3_doubledDiff ∈ gtb := gtb_m (List.mem_of_getElem? (i := 567) (by decide +kernel)) rfl
theorem ml_X8_75 : Cond.methodLink RX8 75 yX1_settle ∈ gtb := gtb_m (List.mem_of_getElem? (i := 568) (by decide +kernel)) rfl
theorem ml_X1_36 : Cond.methodLink RX1 36 yX0_commonMultiple ∈ gtb := gtb_m (List.mem_of_getElem? (i := 572) (by decide +kernel)) rfl
theorem ml_X8_78 : Cond.methodLink RX8 78 yX1_becomeShapeOf ∈ gtb := gtb_m (List.mem_of_getElem? (i := 575) (by decide +kernel)) rfl
theorem ml_X1_42 : Cond.methodLink RX1 42 yX1_joinFirstFall ∈ gtb := gtb_m (List.mem_of_getElem? (i := 579) (by decide +kernel)) rfl
theorem ml_X1_49 : Cond.methodLink RX1 49 yX1_join ∈ gtb := gtb_m (List.mem_of_getElem? (i := 583) (by decide +kernel)) rfl
theorem ml_X1_46 : Cond.methodLink RX1 46 yX1_settle ∈ gtb := gtb_m (List.mem_of_getElem? (i := 587) (by decide +kernel)) rfl
theorem ml_X10_207 : Cond.methodLink RX10 207 yX10_ofLane ∈ gtb := gtb_m (List.mem_of_getElem? (i := 588) (by decide +kernel)) rfl
theorem ml_X10_384 : Cond.methodLink RX10 384 yX1_aboveMean ∈ gtb := gtb_m (List.mem_of_getElem? (i := 592) (by decide +kernel)) rfl
theorem ml_L_49 : Cond.methodLink RL 49 yX10_counts ∈ gtb := gtb_m (List.mem_of_getElem? (i := 596) (by decide +kernel)) rfl
theorem ml_L_54 : Cond.methodLink RL 54 yX10_lean ∈ gtb := gtb_m (List.mem_of_getElem? (i := 600) (by decide +kernel)) rfl
theorem ml_X10_221 : Cond.methodLink RX10 221 yX8_surveyDays ∈ gtb := gtb_m (List.mem_of_getElem? (i := 604) (by decide +kernel)) rfl
theorem ml_X8_88 : Cond.methodLink RX8 88 yX8_leanOfPair ∈ gtb := gtb_m (List.mem_of_getElem? (i := 608) (by decide +kernel)) rfl
theorem ml_X8_95 : Cond.methodLink RX8 95 yJ6_compare_7cf53 ∈ gtb := gtb_m (List.mem_of_getElem? (i := 612) (by decide +kernel)) rfl
theorem ml_X8_92 : Cond.methodLink RX8 92 yX8_findRan ∈ gtb := gtb_m (List.mem_of_getElem? (i := 615) (by decide +kernel)) rfl
theorem ml_X10_224 : Cond.methodLink RX10 224 yX8_leanOf ∈ gtb := gtb_m (List.mem_of_getElem? (i := 619) (by decide +kernel)) rfl
theorem ml_L_58 : Cond.methodLink RL 58 yX10_chance ∈ gtb := gtb_m (List.mem_of_getElem? (i := 623) (by decide +kernel)) rfl
theorem ml_X10_227 : Cond.methodLink RX10 227 yX8_chanceOfShape ∈ gtb := gtb_m (List.mem_of_getElem? (i := 627) (by decide +kernel)) rfl
theorem ml_X8_106 : Cond.methodLink RX8 106 yX8_shareOfOrders ∈ gtb := gtb_m (List.mem_of_getElem? (i := 631) (by decide +kernel)) rfl
theorem ml_X8_109 : Cond.methodLink RX8 109 yX8_swap ∈ gtb := gtb_m (List.mem_of_getElem? (i := 635) (by decide +kernel)) rfl
theorem ml_X8_115 : Cond.methodLink RX8 115 yJ9_max_7cf53 ∈ gtb := gtb_m (List.mem_of_getElem? (i := 640) (by decide +kernel)) rfl
theorem ml_L_63 : Cond.methodLink RL 63 yX10_ran ∈ gtb := gtb_m (List.mem_of_getElem? (i := 641) (by decide +kernel)) rfl
theorem ml_L_67 : Cond.methodLink RL 67 yX10_own ∈ gtb := gtb_m (List.mem_of_getElem? (i := 645) (by decide +kernel)) rfl
theorem ml_X10_237 : Cond.methodLink RX10 237 yX8_findOwn ∈ gtb := gtb_m (List.mem_of_getElem? (i := 649) (by decide +kernel)) rfl
theorem ml_X8_129 : Cond.methodLink RX8 129 yX0_set ∈ gtb := gtb_m (List.mem_of_getElem? (i := 654) (by decide +kernel)) rfl
theorem ml_L_71 : Cond.methodLink RL 71 yX10_fast ∈ gtb := gtb_m (List.mem_of_getElem? (i := 655) (by decide +kernel)) rfl
theorem ml_L_75 : Cond.methodLink RL 75 yX10_twice ∈ gtb := gtb_m (List.mem_of_getElem? (i := 659) (by decide +kernel)) rfl
theorem ml_X10_248 : Cond.methodLink RX10 248 yX6_survey ∈ gtb := gtb_m (List.mem_of_getElem? (i := 663) (by decide +kernel)) rfl
theorem ml_X6_46 : Cond.methodLink RX6 46 yX3_isSingle ∈ gtb := gtb_m (List.mem_of_getElem? (i := 667) (by decide +kernel)) rfl
theorem ml_X3_55 : Cond.methodLink RX3 55 yX3_lengthsOf ∈ gtb := gtb_m (List.mem_of_getElem? (i := 671) (by decide +kernel)) rfl
theorem ml_X6_50 : Cond.methodLink RX6 50 yX6_addPairsOf ∈ gtb := gtb_m (List.mem_of_getElem? (i := 672) (by decide +kernel)) rfl
theorem ml_X6_57 : Cond.methodLink RX6 57 yX3_timeOf ∈ gtb := gtb_m (List.mem_of_getElem? (i := 676) (by decide +kernel)) rfl
theorem ml_L_79 : Cond.methodLink RL 79 yX10_order ∈ gtb := gtb_m (List.mem_of_getElem? (i := 677) (by decide +kernel)) rfl
theorem ml_X10_252 : Cond.methodLink RX10 252 yX6_arrange ∈ gtb := gtb_m (List.mem_of_getElem? (i := 681) (by decide +kernel)) rfl
theorem ml_X6_64 : Cond.methodLink RX6 64 yX6_pairsIfFirst ∈ gtb := gtb_m (List.mem_of_getElem? (i := 685) (by decide +kernel)) rfl
theorem ml_X6_67 : Cond.methodLink RX6 67 yJ9_max_7cf53 ∈ gtb := gtb_m (List.mem_of_getElem? (i := 689) (by decide +kernel)) rfl
theorem ml_X6_72 : Cond.methodLink RX6 72 yX6_leastFirst ∈ gtb := gtb_m (List.mem_of_getElem? (i := 690) (by decide +kernel)) rfl
theorem ml_L_83 : Cond.methodLink RL 83 yX10_right ∈ gtb := gtb_m (List.mem_of_getElem? (i := 694) (by decide +kernel)) rfl
theorem ml_X10_261 : Cond.methodLink RX10 261 yX3_isSingle ∈ gtb := gtb_m (List.mem_of_getElem? (i := 698) (by decide +kernel)) rfl
theorem ml_X10_264 : Cond.methodLink RX10 264 yX6_putRight ∈ gtb := gtb_m (List.mem_of_getElem? (i := 699) (by decide +kernel)) rfl
theorem ml_X6_89 : Cond.methodLink RX6 89 yX1_aboveMean ∈ gtb := gtb_m (List.mem_of_getElem? (i := 704) (by decide +kernel)) rfl
theorem ml_L_87 : Cond.methodLink RL 87 yX10_place ∈ gtb := gtb_m (List.mem_of_getElem? (i := 705) (by decide +kernel)) rfl
theorem ml_X10_274 : Cond.methodLink RX10 274 yX6_placeOf ∈ gtb := gtb_m (List.mem_of_getElem? (i := 709) (by decide +kernel)) rfl
theorem ml_X6_93 : Cond.methodLink RX6 93 yX6_slowness ∈ gtb := gtb_m (List.mem_of_getElem? (i := 713) (by decide +kernel)) rfl
theorem ml_L_91 : Cond.methodLink RL 91 yX10_medals ∈ gtb := gtb_m (List.mem_of_getElem? (i := 717) (by decide +kernel)) rfl
theorem ml_X10_277 : Cond.methodLink RX10 277 yX6_changedMedals ∈ gtb := gtb_m (List.mem_of_getElem? (i := 721) (by decide +kernel)) rfl
theorem ml_X6_103 : Cond.methodLink RX6 103 yX6_hasMedal ∈ gtb := gtb_m (List.mem_of_getElem? (i := 725) (by decide +kernel)) rfl
theorem ml_X6_107 : Cond.methodLink RX6 107 yX6_placeOf ∈ gtb := gtb_m (List.mem_of_getElem? (i := 729) (by decide +kernel)) rfl
theorem ml_L_95 : Cond.methodLink RL 95 yX10_type ∈ gtb := gtb_m (List.mem_of_getElem? (i := 730) (by decide +kernel)) rfl
theorem ml_X10_280 : Cond.methodLink RX10 280 yX10_isText ∈ gtb := gtb_m (List.mem_of_getElem? (i := 734) (by decide +kernel)) rfl
theorem ml_X10_283 : Cond.methodLink RX10 283 yX7_isFull ∈ gtb := gtb_m (List.mem_of_getElem? (i := 737) (by decide +kernel)) rfl
theorem ml_X10_287 : Cond.methodLink RX10 287 yX7_append ∈ gtb := gtb_m (List.mem_of_getElem? (i := 741) (by decide +kernel)) rfl
theorem ml_X7_23 : Cond.methodLink RX7 23 yX7_isFull ∈ gtb := gtb_m (List.mem_of_getElem? (i := 745) (by decide +kernel)) rfl
theorem ml_L_99 : Cond.methodLink RL 99 yX10_wipe ∈ gtb := gtb_m (List.mem_of_getElem? (i := 746) (by decide +kernel)) rfl
theorem ml_X10_290 : Cond.methodLink RX10 290 yX7_clear ∈ gtb := gtb_m (List.mem_of_getElem? (i := 750) (by decide +kernel)) rfl
theorem ml_L_103 : Cond.methodLink RL 103 yX10_fault ∈ gtb := gtb_m (List.mem_of_getElem? (i := 754) (by decide +kernel)) rfl
theorem ml_X10_293 : Cond.methodLink RX10 293 yX4_faultAt ∈ gtb := gtb_m (List.mem_of_getElem? (i := 758) (by decide +kernel)) rfl
theorem ml_X10_296 : Cond.methodLink RX10 296 yX9_parse ∈ gtb := gtb_m (List.mem_of_getElem? (i := 763) (by decide +kernel)) rfl
theorem ml_X9_26 : Cond.methodLink RX9 26 yX9_clearValues ∈ gtb := gtb_m (List.mem_of_getElem? (i := 767) (by decide +kernel)) rfl
theorem ml_X9_37 : Cond.methodLink RX9 37 yX9_next ∈ gtb := gtb_m (List.mem_of_getElem? (i := 771) (by decide +kernel)) rfl
theorem ml_X9_41 : Cond.methodLink RX9 41 yX9_open ∈ gtb := gtb_m (List.mem_of_getElem? (i := 775) (by decide +kernel)) rfl
theorem ml_X9_45 : Cond.methodLink RX9 45 yX9_choose ∈ gtb := gtb_m (List.mem_of_getElem? (i := 779) (by decide +kernel)) rfl
theorem ml_X9_52 : Cond.methodLink RX9 52 yX9_turn ∈ gtb := gtb_m (List.mem_of_getElem? (i := 784) (by decide +kernel)) rfl
theorem ml_X9_56 : Cond.methodLink RX9 56 yX9_begin ∈ gtb := gtb_m (List.mem_of_getElem? (i := 788) (by decide +kernel)) rfl
theorem ml_X9_59 : Cond.methodLink RX9 59 yX9_isFigure ∈ gtb := gtb_m (List.mem_of_getElem? (i := 792) (by decide +kernel)) rfl
theorem ml_X9_62 : Cond.methodLink RX9 62 yX9_end ∈ gtb := gtb_m (List.mem_of_getElem? (i := 796) (by decide +kernel)) rfl
theorem ml_X9_65 : Cond.methodLink RX9 65 yX9_close ∈ gtb := gtb_m (List.mem_of_getElem? (i := 800) (by decide +kernel)) rfl
theorem ml_L_107 : Cond.methodLink RL 107 yX10_given ∈ gtb := gtb_m (List.mem_of_getElem? (i := 803) (by decide +kernel)) rfl
theorem ml_X10_299 : Cond.methodLink RX10 299 yX10_givenOf ∈ gtb := gtb_m (List.mem_of_getElem? (i := 807) (by decide +kernel)) rfl
theorem ml_X10_396 : Cond.methodLink RX10 396 yX4_isKeptBy ∈ gtb := gtb_m (List.mem_of_getElem? (i := 811) (by decide +kernel)) rfl
theorem ml_X4_40 : Cond.methodLink RX4 40 yX4_rankOf ∈ gtb := gtb_m (List.mem_of_getElem? (i := 815) (by decide +kernel)) rfl
theorem ml_X4_51 : Cond.methodLink RX4 51 yX3_isBetter ∈ gtb := gtb_m (List.mem_of_getElem? (i := 818) (by decide +kernel)) rfl
theorem ml_X4_44 : Cond.methodLink RX4 44 yX4_laneFor ∈ gtb := gtb_m (List.mem_of_getElem? (i := 822) (by decide +kernel)) rfl
theorem ml_L_111 : Cond.methodLink RL 111 yX10_tenths ∈ gtb := gtb_m (List.mem_of_getElem? (i := 826) (by decide +kernel)) rfl
theorem ml_X10_302 : Cond.methodLink RX10 302 yX3_feltInRace ∈ gtb := gtb_m (List.mem_of_getElem? (i := 830) (by decide +kernel)) rfl
theorem ml_X3_61 : Cond.methodLink RX3 61 yX3_feltIn ∈ gtb := gtb_m (List.mem_of_getElem? (i := 834) (by decide +kernel)) rfl
theorem ml_X10_305 : Cond.methodLink RX10 305 yX3_tenthsInRace ∈ gtb := gtb_m (List.mem_of_getElem? (i := 835) (by decide +kernel)) rfl
theorem ml_X3_64 : Cond.methodLink RX3 64 yX3_tenthsIn ∈ gtb := gtb_m (List.mem_of_getElem? (i := 839) (by decide +kernel)) rfl
theorem ml_X10_308 : Cond.methodLink RX10 308 yX10_chanceOfTenths ∈ gtb := gtb_m (List.mem_of_getElem? (i := 843) (by decide +kernel)) rfl
theorem ml_X10_402 : Cond.methodLink RX10 402 yX10_power ∈ gtb := gtb_m (List.mem_of_getElem? (i := 847) (by decide +kernel)) rfl
theorem ml_L_115 : Cond.methodLink RL 115 yX10_world ∈ gtb := gtb_m (List.mem_of_getElem? (i := 851) (by decide +kernel)) rfl
theorem ml_L_119 : Cond.methodLink RL 119 yX10_made ∈ gtb := gtb_m (List.mem_of_getElem? (i := 855) (by decide +kernel)) rfl
theorem ml_X10_314 : Cond.methodLink RX10 314 yX2_fill ∈ gtb := gtb_m (List.mem_of_getElem? (i := 859) (by decide +kernel)) rfl
theorem ml_X2_27 : Cond.methodLink RX2 27 yX9_parse ∈ gtb := gtb_m (List.mem_of_getElem? (i := 863) (by decide +kernel)) rfl
theorem ml_X2_33 : Cond.methodLink RX2 33 yX4_faultAt ∈ gtb := gtb_m (List.mem_of_getElem? (i := 864) (by decide +kernel)) rfl
theorem ml_X2_38 : Cond.methodLink RX2 38 yX2_rankAmong ∈ gtb := gtb_m (List.mem_of_getElem? (i := 865) (by decide +kernel)) rfl
theorem ml_X2_62 : Cond.methodLink RX2 62 yX3_isBetter ∈ gtb := gtb_m (List.mem_of_getElem? (i := 869) (by decide +kernel)) rfl
theorem ml_X2_42 : Cond.methodLink RX2 42 yX4_laneFor ∈ gtb := gtb_m (List.mem_of_getElem? (i := 870) (by decide +kernel)) rfl
theorem ml_X2_46 : Cond.methodLink RX2 46 yX3_addSwim ∈ gtb := gtb_m (List.mem_of_getElem? (i := 871) (by decide +kernel)) rfl
theorem ml_X2_51 : Cond.methodLink RX2 51 yX3_hasSwim ∈ gtb := gtb_m (List.mem_of_getElem? (i := 872) (by decide +kernel)) rfl
theorem ml_X2_58 : Cond.methodLink RX2 58 yX2_makeTimes ∈ gtb := gtb_m (List.mem_of_getElem? (i := 874) (by decide +kernel)) rfl
theorem ml_X2_70 : Cond.methodLink RX2 70 yX3_lengthsOf ∈ gtb := gtb_m (List.mem_of_getElem? (i := 878) (by decide +kernel)) rfl
theorem ml_X2_76 : Cond.methodLink RX2 76 yX2_lot ∈ gtb := gtb_m (List.mem_of_getElem? (i := 879) (by decide +kernel)) rfl
theorem ml_X2_79 : Cond.methodLink RX2 79 yJ9_min_7cf53 ∈ gtb := gtb_m (List.mem_of_getElem? (i := 884) (by decide +kernel)) rfl
theorem ml_X2_85 : Cond.methodLink RX2 85 yJ9_max_7cf53 ∈ gtb := gtb_m (List.mem_of_getElem? (i := 885) (by decide +kernel)) rfl
theorem ml_X2_88 : Cond.methodLink RX2 88 yX3_setTime ∈ gtb := gtb_m (List.mem_of_getElem? (i := 886) (by decide +kernel)) rfl
theorem ml_L_124 : Cond.methodLink RL 124 yX10_sheet ∈ gtb := gtb_m (List.mem_of_getElem? (i := 887) (by decide +kernel)) rfl
theorem ml_X10_318 : Cond.methodLink RX10 318 yX10_isType ∈ gtb := gtb_m (List.mem_of_getElem? (i := 891) (by decide +kernel)) rfl
theorem ml_X10_321 : Cond.methodLink RX10 321 yX5_renew ∈ gtb := gtb_m (List.mem_of_getElem? (i := 894) (by decide +kernel)) rfl
theorem ml_L_128 : Cond.methodLink RL 128 yX10_lose ∈ gtb := gtb_m (List.mem_of_getElem? (i := 898) (by decide +kernel)) rfl
theorem ml_L_132 : Cond.methodLink RL 132 yX10_put ∈ gtb := gtb_m (List.mem_of_getElem? (i := 902) (by decide +kernel)) rfl
theorem ml_X10_325 : Cond.methodLink RX10 325 yX5_findingAt ∈ gtb := gtb_m (List.mem_of_getElem? (i := 906) (by decide +kernel)) rfl
theorem ml_X10_328 : Cond.methodLink RX10 328 yX5_setItem ∈ gtb := gtb_m (List.mem_of_getElem? (i := 910) (by decide +kernel)) rfl
theorem ml_L_137 : Cond.methodLink RL 137 yX10_get ∈ gtb := gtb_m (List.mem_of_getElem? (i := 914) (by decide +kernel)) rfl
theorem ml_L_141 : Cond.methodLink RL 141 yX10_copy ∈ gtb := gtb_m (List.mem_of_getElem? (i := 919) (by decide +kernel)) rfl
theorem ml_X10_335 : Cond.methodLink RX10 335 yX5_hasItems ∈ gtb := gtb_m (List.mem_of_getElem? (i := 923) (by decide +kernel)) rfl
theorem ml_X10_338 : Cond.methodLink RX10 338 arraycopyName ∈ gtb := gtb_m (List.mem_of_getElem? (i := 927) (by decide +kernel)) rfl
theorem ml_L_145 : Cond.methodLink RL 145 yX10_write ∈ gtb := gtb_m (List.mem_of_getElem? (i := 930) (by decide +kernel)) rfl
theorem ml_L_149 : Cond.methodLink RL 149 yX10_count ∈ gtb := gtb_m (List.mem_of_getElem? (i := 934) (by decide +kernel)) rfl
theorem ml_X10_344 : Cond.methodLink RX10 344 yX3_singlesInAll ∈ gtb := gtb_m (List.mem_of_getElem? (i := 938) (by decide +kernel)) rfl
theorem ml_X3_58 : Cond.methodLink RX3 58 yX3_isSingle ∈ gtb := gtb_m (List.mem_of_getElem? (i := 942) (by decide +kernel)) rfl
theorem ml_X10_347 : Cond.methodLink RX10 347 yX3_diffsInAll ∈ gtb := gtb_m (List.mem_of_getElem? (i := 943) (by decide +kernel)) rfl
theorem ml_X3_51 : Cond.methodLink RX3 51 yX3_hasDiff ∈ gtb := gtb_m (List.mem_of_getElem? (i := 947) (by decide +kernel)) rfl
theorem ml_X10_351 : Cond.methodLink RX10 351 yX3_togetherInAll ∈ gtb := gtb_m (List.mem_of_getElem? (i := 948) (by decide +kernel)) rfl
theorem ml_X3_44 : Cond.methodLink RX3 44 yX3_togetherIn ∈ gtb := gtb_m (List.mem_of_getElem? (i := 952) (by decide +kernel)) rfl
theorem ml_L_153 : Cond.methodLink RL 153 yX10_digest ∈ gtb := gtb_m (List.mem_of_getElem? (i := 953) (by decide +kernel)) rfl
theorem ml_X10_356 : Cond.methodLink RX10 356 yX10_count ∈ gtb := gtb_m (List.mem_of_getElem? (i := 958) (by decide +kernel)) rfl
theorem ml_X10_359 : Cond.methodLink RX10 359 yX10_mix ∈ gtb := gtb_m (List.mem_of_getElem? (i := 959) (by decide +kernel)) rfl
theorem ml_X10_363 : Cond.methodLink RX10 363 yX10_mixLanes ∈ gtb := gtb_m (List.mem_of_getElem? (i := 963) (by decide +kernel)) rfl
theorem ml_X10_367 : Cond.methodLink RX10 367 yX10_mixDays ∈ gtb := gtb_m (List.mem_of_getElem? (i := 967) (by decide +kernel)) rfl
theorem ml_X10_370 : Cond.methodLink RX10 370 yX10_mixOrder ∈ gtb := gtb_m (List.mem_of_getElem? (i := 971) (by decide +kernel)) rfl
theorem ml_X10_373 : Cond.methodLink RX10 373 yX10_mixRaces ∈ gtb := gtb_m (List.mem_of_getElem? (i := 975) (by decide +kernel)) rfl
theorem ml_X10_376 : Cond.methodLink RX10 376 yX10_mixSwims ∈ gtb := gtb_m (List.mem_of_getElem? (i := 979) (by decide +kernel)) rfl
theorem ml_L_17 : Cond.methodLink RL 17 yX11_race ∈ gtb := gtb_m (List.mem_of_getElem? (i := 1092) (by decide +kernel)) rfl
theorem ml_X11_94 : Cond.methodLink RX11 94 yX11_in ∈ gtb := gtb_m (List.mem_of_getElem? (i := 1096) (by decide +kernel)) rfl
theorem ml_X11_101 : Cond.methodLink RX11 101 yX11_raceMore ∈ gtb := gtb_m (List.mem_of_getElem? (i := 1099) (by decide +kernel)) rfl
theorem ml_L_22 : Cond.methodLink RL 22 yX11_swim ∈ gtb := gtb_m (List.mem_of_getElem? (i := 1103) (by decide +kernel)) rfl
theorem ml_X11_105 : Cond.methodLink RX11 105 yX11_isRace ∈ gtb := gtb_m (List.mem_of_getElem? (i := 1107) (by decide +kernel)) rfl
theorem ml_X11_109 : Cond.methodLink RX11 109 yX11_isSwimmer ∈ gtb := gtb_m (List.mem_of_getElem? (i := 1111) (by decide +kernel)) rfl
theorem ml_X11_112 : Cond.methodLink RX11 112 yX11_isLane ∈ gtb := gtb_m (List.mem_of_getElem? (i := 1114) (by decide +kernel)) rfl
theorem ml_X11_115 : Cond.methodLink RX11 115 yX11_swimMore ∈ gtb := gtb_m (List.mem_of_getElem? (i := 1117) (by decide +kernel)) rfl
theorem ml_L_26 : Cond.methodLink RL 26 yX11_time ∈ gtb := gtb_m (List.mem_of_getElem? (i := 1121) (by decide +kernel)) rfl
theorem ml_X11_119 : Cond.methodLink RX11 119 yX11_isSwim ∈ gtb := gtb_m (List.mem_of_getElem? (i := 1125) (by decide +kernel)) rfl
theorem ml_X11_122 : Cond.methodLink RX11 122 yX11_isTime ∈ gtb := gtb_m (List.mem_of_getElem? (i := 1129) (by decide +kernel)) rfl
theorem ml_L_30 : Cond.methodLink RL 30 yX11_read ∈ gtb := gtb_m (List.mem_of_getElem? (i := 1132) (by decide +kernel)) rfl
theorem ml_X11_125 : Cond.methodLink RX11 125 yX11_isSheet ∈ gtb := gtb_m (List.mem_of_getElem? (i := 1136) (by decide +kernel)) rfl
theorem ml_X11_128 : Cond.methodLink RX11 128 yX11_meets ∈ gtb := gtb_m (List.mem_of_getElem? (i := 1139) (by decide +kernel)) rfl
theorem ml_L_34 : Cond.methodLink RL 34 yX11_seeds ∈ gtb := gtb_m (List.mem_of_getElem? (i := 1143) (by decide +kernel)) rfl
theorem ml_L_38 : Cond.methodLink RL 38 yX11_about ∈ gtb := gtb_m (List.mem_of_getElem? (i := 1147) (by decide +kernel)) rfl
theorem ml_X11_132 : Cond.methodLink RX11 132 yX11_feltOf ∈ gtb := gtb_m (List.mem_of_getElem? (i := 1151) (by decide +kernel)) rfl
theorem ml_X11_135 : Cond.methodLink RX11 135 yX11_totalOf ∈ gtb := gtb_m (List.mem_of_getElem? (i := 1155) (by decide +kernel)) rfl
theorem ml_L_43 : Cond.methodLink RL 43 yX11_diff ∈ gtb := gtb_m (List.mem_of_getElem? (i := 1159) (by decide +kernel)) rfl
theorem ml_X11_144 : Cond.methodLink RX11 144 yX11_no ∈ gtb := gtb_m (List.mem_of_getElem? (i := 1163) (by decide +kernel)) rfl
theorem ml_X11_148 : Cond.methodLink RX11 148 yX11_hasDiff ∈ gtb := gtb_m (List.mem_of_getElem? (i := 1167) (by decide +kernel)) rfl
theorem ml_X11_138 : Cond.methodLink RX11 138 yX11_feltOn ∈ gtb := gtb_m (List.mem_of_getElem? (i := 1171) (by decide +kernel)) rfl
theorem ml_X11_151 : Cond.methodLink RX11 151 yX11_twiceDiff ∈ gtb := gtb_m (List.mem_of_getElem? (i := 1175) (by decide +kernel)) rfl
theorem ml_X11_141 : Cond.methodLink RX11 141 yX11_twiceMean ∈ gtb := gtb_m (List.mem_of_getElem? (i := 1179) (by decide +kernel)) rfl
theorem ml_X11_156 : Cond.methodLink RX11 156 yX11_lowest ∈ gtb := gtb_m (List.mem_of_getElem? (i := 1184) (by decide +kernel)) rfl
theorem ml_X11_86 : Cond.methodLink RX11 86 yX11_divisor ∈ gtb := gtb_m (List.mem_of_getElem? (i := 1187) (by decide +kernel)) rfl
theorem ml_L_48 : Cond.methodLink RL 48 yX11_lane ∈ gtb := gtb_m (List.mem_of_getElem? (i := 1190) (by decide +kernel)) rfl
theorem ml_X11_191 : Cond.methodLink RX11 191 yX11_laneNow ∈ gtb := gtb_m (List.mem_of_getElem? (i := 1194) (by decide +kernel)) rfl
theorem ml_X11_185 : Cond.methodLink RX11 185 yX11_laysShape ∈ gtb := gtb_m (List.mem_of_getElem? (i := 1198) (by decide +kernel)) rfl
theorem ml_X11_160 : Cond.methodLink RX11 160 yX11_laysLanes ∈ gtb := gtb_m (List.mem_of_getElem? (i := 1202) (by decide +kernel)) rfl
theorem ml_X11_163 : Cond.methodLink RX11 163 yX11_joins ∈ gtb := gtb_m (List.mem_of_getElem? (i := 1206) (by decide +kernel)) rfl
theorem ml_X11_188 : Cond.methodLink RX11 188 yX11_laysLane ∈ gtb := gtb_m (List.mem_of_getElem? (i := 1210) (by decide +kernel)) rfl
theorem ml_X11_174 : Cond.methodLink RX11 174 yX11_lays ∈ gtb := gtb_m (List.mem_of_getElem? (i := 1214) (by decide +kernel)) rfl
theorem ml_X11_178 : Cond.methodLink RX11 178 yX11_adds ∈ gtb := gtb_m (List.mem_of_getElem? (i := 1218) (by decide +kernel)) rfl
theorem ml_X11_181 : Cond.methodLink RX11 181 yX11_lanesMany ∈ gtb := gtb_m (List.mem_of_getElem? (i := 1222) (by decide +kernel)) rfl
theorem ml_L_53 : Cond.methodLink RL 53 yX11_counts ∈ gtb := gtb_m (List.mem_of_getElem? (i := 1226) (by decide +kernel)) rfl
theorem ml_X11_195 : Cond.methodLink RX11 195 yX11_countsNow ∈ gtb := gtb_m (List.mem_of_getElem? (i := 1230) (by decide +kernel)) rfl
theorem ml_L_57 : Cond.methodLink RL 57 yX11_lean ∈ gtb := gtb_m (List.mem_of_getElem? (i := 1234) (by decide +kernel)) rfl
theorem ml_X11_198 : Cond.methodLink RX11 198 yX11_leanNow ∈ gtb := gtb_m (List.mem_of_getElem? (i := 1238) (by decide +kernel)) rfl
theorem ml_L_62 : Cond.methodLink RL 62 yX11_chance ∈ gtb := gtb_m (List.mem_of_getElem? (i := 1242) (by decide +kernel)) rfl
theorem ml_X11_206 : Cond.methodLink RX11 206 yX11_chanceNow ∈ gtb := gtb_m (List.mem_of_getElem? (i := 1246) (by decide +kernel)) rfl
theorem ml_X11_201 : Cond.methodLink RX11 201 yX11_turns ∈ gtb := gtb_m (List.mem_of_getElem? (i := 1250) (by decide +kernel)) rfl
theorem ml_L_66 : Cond.methodLink RL 66 yX11_ran ∈ gtb := gtb_m (List.mem_of_getElem? (i := 1255) (by decide +kernel)) rfl
theorem ml_X11_209 : Cond.methodLink RX11 209 yX11_ranNow ∈ gtb := gtb_m (List.mem_of_getElem? (i := 1259) (by decide +kernel)) rfl
theorem ml_L_70 : Cond.methodLink RL 70 yX11_own ∈ gtb := gtb_m (List.mem_of_getElem? (i := 1263) (by decide +kernel)) rfl
theorem ml_X11_212 : Cond.methodLink RX11 212 yX11_laysOwn ∈ gtb := gtb_m (List.mem_of_getElem? (i := 1267) (by decide +kernel)) rfl
theorem ml_L_74 : Cond.methodLink RL 74 yX11_fast ∈ gtb := gtb_m (List.mem_of_getElem? (i := 1271) (by decide +kernel)) rfl
theorem ml_L_78 : Cond.methodLink RL 78 yX11_twice ∈ gtb := gtb_m (List.mem_of_getElem? (i := 1275) (by decide +kernel)) rfl
theorem ml_X11_218 : Cond.methodLink RX11 218 yX11_twiceNow ∈ gtb := gtb_m (List.mem_of_getElem? (i := 1279) (by decide +kernel)) rfl
theorem ml_X11_215 : Cond.methodLink RX11 215 yX11_isSingle ∈ gtb := gtb_m (List.mem_of_getElem? (i := 1283) (by decide +kernel)) rfl
theorem ml_L_82 : Cond.methodLink RL 82 yX11_order ∈ gtb := gtb_m (List.mem_of_getElem? (i := 1287) (by decide +kernel)) rfl
theorem ml_X11_231 : Cond.methodLink RX11 231 yX11_orderNow ∈ gtb := gtb_m (List.mem_of_getElem? (i := 1291) (by decide +kernel)) rfl
theorem ml_X11_228 : Cond.methodLink RX11 228 yX11_orders ∈ gtb := gtb_m (List.mem_of_getElem? (i := 1295) (by decide +kernel)) rfl
theorem ml_X11_221 : Cond.methodLink RX11 221 yX11_has ∈ gtb := gtb_m (List.mem_of_getElem? (i := 1299) (by decide +kernel)) rfl
theorem ml_X11_225 : Cond.methodLink RX11 225 yX11_gain ∈ gtb := gtb_m (List.mem_of_getElem? (i := 1302) (by decide +kernel)) rfl
theorem ml_L_86 : Cond.methodLink RL 86 yX11_right ∈ gtb := gtb_m (List.mem_of_getElem? (i := 1306) (by decide +kernel)) rfl
theorem ml_X11_236 : Cond.methodLink RX11 236 yX11_laysRight ∈ gtb := gtb_m (List.mem_of_getElem? (i := 1310) (by decide +kernel)) rfl
theorem ml_L_90 : Cond.methodLink RL 90 yX11_place ∈ gtb := gtb_m (List.mem_of_getElem? (i := 1315) (by decide +kernel)) rfl
theorem ml_X11_243 : Cond.methodLink RX11 243 yX11_placeNow ∈ gtb := gtb_m (List.mem_of_getElem? (i := 1319) (by decide +kernel)) rfl
theorem ml_X11_240 : Cond.methodLink RX11 240 yX11_isRightLess ∈ gtb := gtb_m (List.mem_of_getElem? (i := 1323) (by decide +kernel)) rfl
theorem ml_L_94 : Cond.methodLink RL 94 yX11_medals ∈ gtb := gtb_m (List.mem_of_getElem? (i := 1327) (by decide +kernel)) rfl
theorem ml_X11_246 : Cond.methodLink RX11 246 yX11_medalsNow ∈ gtb := gtb_m (List.mem_of_getElem? (i := 1331) (by decide +kernel)) rfl
theorem ml_L_98 : Cond.methodLink RL 98 yX11_type ∈ gtb := gtb_m (List.mem_of_getElem? (i := 1335) (by decide +kernel)) rfl
theorem ml_X11_249 : Cond.methodLink RX11 249 yX11_isText ∈ gtb := gtb_m (List.mem_of_getElem? (i := 1339) (by decide +kernel)) rfl
theorem ml_L_102 : Cond.methodLink RL 102 yX11_wipe ∈ gtb := gtb_m (List.mem_of_getElem? (i := 1342) (by decide +kernel)) rfl
theorem ml_L_106 : Cond.methodLink RL 106 yX11_fault ∈ gtb := gtb_m (List.mem_of_getElem? (i := 1346) (by decide +kernel)) rfl
theorem ml_X11_279 : Cond.methodLink RX11 279 yX11_ruleFault ∈ gtb := gtb_m (List.mem_of_getElem? (i := 1350) (by decide +kernel)) rfl
theorem ml_X11_282 : Cond.methodLink RX11 282 yX11_worldFault ∈ gtb := gtb_m (List.mem_of_getElem? (i := 1354) (by decide +kernel)) rfl
theorem ml_X11_273 : Cond.methodLink RX11 273 yX11_plain ∈ gtb := gtb_m (List.mem_of_getElem? (i := 1358) (by decide +kernel)) rfl
theorem ml_X11_276 : Cond.methodLink RX11 276 yX11_part ∈ gtb := gtb_m (List.mem_of_getElem? (i := 1362) (by decide +kernel)) rfl
theorem ml_X11_258 : Cond.methodLink RX11 258 yX11_byteNow ∈ gtb := gtb_m (List.mem_of_getElem? (i := 1366) (by decide +kernel)) rfl
theorem ml_X11_261 : Cond.methodLink RX11 261 yX11_expects ∈ gtb := gtb_m (List.mem_of_getElem? (i := 1370) (by decide +kernel)) rfl
theorem ml_X11_264 : Cond.methodLink RX11 264 yX11_number ∈ gtb := gtb_m (List.mem_of_getElem? (i := 1374) (by decide +kernel)) rfl
theorem ml_L_110 : Cond.methodLink RL 110 yX11_given ∈ gtb := gtb_m (List.mem_of_getElem? (i := 1378) (by decide +kernel)) rfl
theorem ml_X11_288 : Cond.methodLink RX11 288 yX11_givenNow ∈ gtb := gtb_m (List.mem_of_getElem? (i := 1382) (by decide +kernel)) rfl
theorem ml_X11_285 : Cond.methodLink RX11 285 yX11_isBetter ∈ gtb := gtb_m (List.mem_of_getElem? (i := 1386) (by decide +kernel)) rfl
theorem ml_L_114 : Cond.methodLink RL 114 yX11_tenths ∈ gtb := gtb_m (List.mem_of_getElem? (i := 1390) (by decide +kernel)) rfl
theorem ml_X11_295 : Cond.methodLink RX11 295 yX11_tenthsNow ∈ gtb := gtb_m (List.mem_of_getElem? (i := 1394) (by decide +kernel)) rfl
theorem ml_L_118 : Cond.methodLink RL 118 yX11_world ∈ gtb := gtb_m (List.mem_of_getElem? (i := 1400) (by decide +kernel)) rfl
theorem ml_X11_298 : Cond.methodLink RX11 298 yX11_worldNow ∈ gtb := gtb_m (List.mem_of_getElem? (i := 1404) (by decide +kernel)) rfl
theorem ml_L_123 : Cond.methodLink RL 123 yX11_made ∈ gtb := gtb_m (List.mem_of_getElem? (i := 1408) (by decide +kernel)) rfl
theorem ml_X11_305 : Cond.methodLink RX11 305 yX11_lot ∈ gtb := gtb_m (List.mem_of_getElem? (i := 1412) (by decide +kernel)) rfl
theorem ml_L_127 : Cond.methodLink RL 127 yX11_sheet ∈ gtb := gtb_m (List.mem_of_getElem? (i := 1417) (by decide +kernel)) rfl
theorem ml_L_131 : Cond.methodLink RL 131 yX11_lose ∈ gtb := gtb_m (List.mem_of_getElem? (i := 1421) (by decide +kernel)) rfl
theorem ml_L_136 : Cond.methodLink RL 136 yX11_put ∈ gtb := gtb_m (List.mem_of_getElem? (i := 1425) (by decide +kernel)) rfl
theorem ml_X11_311 : Cond.methodLink RX11 311 yX11_lacks ∈ gtb := gtb_m (List.mem_of_getElem? (i := 1429) (by decide +kernel)) rfl
theorem ml_X11_314 : Cond.methodLink RX11 314 yX11_keep ∈ gtb := gtb_m (List.mem_of_getElem? (i := 1433) (by decide +kernel)) rfl
theorem ml_L_140 : Cond.methodLink RL 140 yX11_get ∈ gtb := gtb_m (List.mem_of_getElem? (i := 1437) (by decide +kernel)) rfl
theorem ml_L_144 : Cond.methodLink RL 144 yX11_copy ∈ gtb := gtb_m (List.mem_of_getElem? (i := 1442) (by decide +kernel)) rfl
theorem ml_L_148 : Cond.methodLink RL 148 yX11_write ∈ gtb := gtb_m (List.mem_of_getElem? (i := 1446) (by decide +kernel)) rfl
theorem ml_L_152 : Cond.methodLink RL 152 yX11_count ∈ gtb := gtb_m (List.mem_of_getElem? (i := 1450) (by decide +kernel)) rfl
theorem ml_X11_319 : Cond.methodLink RX11 319 yX11_countNow ∈ gtb := gtb_m (List.mem_of_getElem? (i := 1454) (by decide +kernel)) rfl
theorem ml_L_157 : Cond.methodLink RL 157 yX11_digest ∈ gtb := gtb_m (List.mem_of_getElem? (i := 1458) (by decide +kernel)) rfl
theorem ml_X11_326 : Cond.methodLink RX11 326 yX11_count ∈ gtb := gtb_m (List.mem_of_getElem? (i := 1464) (by decide +kernel)) rfl
theorem ml_X4_25 : Cond.methodLinkNest RX4 25 yX10_isLane "LaneFour" ∈ nst := nst_m (List.mem_of_getElem? (i := 762) (by decide +kernel)) rfl
theorem ml_X9_48 : Cond.methodLinkNest RX9 48 yX10_isLane "LaneFour" ∈ nst := nst_m (List.mem_of_getElem? (i := 783) (by decide +kernel)) rfl
theorem ml_X9_68 : Cond.methodLinkNest RX9 68 yX10_within "LaneFour" ∈ nst := nst_m (List.mem_of_getElem? (i := 795) (by decide +kernel)) rfl
theorem ml_X2_55 : Cond.methodLinkNest RX2 55 yX10_isLane "LaneFour" ∈ nst := nst_m (List.mem_of_getElem? (i := 873) (by decide +kernel)) rfl
theorem kc_X2_91 : Cond.constant RX2 91 (1103515245) ∈ gtb := gtb_m (List.mem_of_getElem? (i := 883) (by decide +kernel)) rfl
theorem kc_X10_331 : Cond.constant RX10 331 (-2147483648) ∈ gtb := gtb_m (List.mem_of_getElem? (i := 918) (by decide +kernel)) rfl
theorem kc_X11_301 : Cond.constant RX11 301 (1103515245) ∈ gtb := gtb_m (List.mem_of_getElem? (i := 1416) (by decide +kernel)) rfl
theorem kc_X11_318 : Cond.constant RX11 318 (-2147483648) ∈ gtb := gtb_m (List.mem_of_getElem? (i := 1441) (by decide +kernel)) rfl
theorem kc_X10_408 : Cond.constantLong RX10 408 (-9223372036854775808) ∈ gtb := gtb_m (List.mem_of_getElem? (i := 526) (by decide +kernel)) rfl
theorem kc_X10_195 : Cond.constantLong RX10 195 (2) ∈ gtb := gtb_m (List.mem_of_getElem? (i := 539) (by decide +kernel)) rfl
theorem kc_X8_113 : Cond.constantLong RX8 113 (1000000) ∈ gtb := gtb_m (List.mem_of_getElem? (i := 639) (by decide +kernel)) rfl
theorem kc_X8_127 : Cond.constantLong RX8 127 (2) ∈ gtb := gtb_m (List.mem_of_getElem? (i := 653) (by decide +kernel)) rfl
theorem kc_X6_81 : Cond.constantLong RX6 81 (4) ∈ gtb := gtb_m (List.mem_of_getElem? (i := 703) (by decide +kernel)) rfl
theorem kc_X10_400 : Cond.constantLong RX10 400 (9) ∈ gtb := gtb_m (List.mem_of_getElem? (i := 846) (by decide +kernel)) rfl
theorem kc_X10_406 : Cond.constantLong RX10 406 (10) ∈ gtb := gtb_m (List.mem_of_getElem? (i := 850) (by decide +kernel)) rfl
theorem kc_X10_354 : Cond.constantLong RX10 354 (17) ∈ gtb := gtb_m (List.mem_of_getElem? (i := 957) (by decide +kernel)) rfl
theorem kc_X10_379 : Cond.constantLong RX10 379 (31) ∈ gtb := gtb_m (List.mem_of_getElem? (i := 962) (by decide +kernel)) rfl
theorem kc_X11_84 : Cond.constantLong RX11 84 (-9223372036854775808) ∈ gtb := gtb_m (List.mem_of_getElem? (i := 1166) (by decide +kernel)) rfl
theorem kc_X11_154 : Cond.constantLong RX11 154 (2) ∈ gtb := gtb_m (List.mem_of_getElem? (i := 1183) (by decide +kernel)) rfl
theorem kc_X11_204 : Cond.constantLong RX11 204 (1000000) ∈ gtb := gtb_m (List.mem_of_getElem? (i := 1254) (by decide +kernel)) rfl
theorem kc_X11_234 : Cond.constantLong RX11 234 (4) ∈ gtb := gtb_m (List.mem_of_getElem? (i := 1314) (by decide +kernel)) rfl
theorem kc_X11_291 : Cond.constantLong RX11 291 (9) ∈ gtb := gtb_m (List.mem_of_getElem? (i := 1398) (by decide +kernel)) rfl
theorem kc_X11_293 : Cond.constantLong RX11 293 (10) ∈ gtb := gtb_m (List.mem_of_getElem? (i := 1399) (by decide +kernel)) rfl
theorem kc_X11_322 : Cond.constantLong RX11 322 (17) ∈ gtb := gtb_m (List.mem_of_getElem? (i := 1462) (by decide +kernel)) rfl
theorem kc_X11_324 : Cond.constantLong RX11 324 (31) ∈ gtb := gtb_m (List.mem_of_getElem? (i := 1463) (by decide +kernel)) rfl
abbrev iX0_set : MI := (yX0_set, cX0_set, 7, none)
theorem gm_X0_set : GmV iX0_set 2 := ⟨⟨gtb_m (List.mem_of_getElem? (i := 543) (by decide +kernel)) rfl, in_X0, by decide +kernel⟩, gtb_m (List.mem_of_getElem? (i := 541) (by decide +kernel)) rfl, gtb_m (List.mem_of_getElem? (i := 542) (by decide +kernel)) rfl⟩
abbrev iX0_part : MI := (yX0_part, cX0_part, 2, (some .long))
theorem gm_X0_part : GmV iX0_part 1 := ⟨⟨gtb_m (List.mem_of_getElem? (i := 553) (by decide +kernel)) rfl, in_X0, by decide +kernel⟩, gtb_m (List.mem_of_getElem? (i := 551) (by decide +kernel)) rfl, gtb_m (List.mem_of_getElem? (i := 552) (by decide +kernel)) rfl⟩
abbrev iX0_commonMultiple : MI := (yX0_commonMultiple, cX0_commonMultiple, 6, (some .long))
theorem gm_X0_commonMultiple : GmS iX0_commonMultiple 2 := ⟨⟨gtb_m (List.mem_of_getElem? (i := 574) (by decide +kernel)) rfl, in_X0, by decide +kernel⟩, gtb_m (List.mem_of_getElem? (i := 573) (by decide +kernel)) rfl⟩
abbrev iX0_commonPart : MI := (yX0_commonPart, cX0_commonPart, 11, (some .long))
theorem gm_X0_commonPart : GmS iX0_commonPart 2 := ⟨⟨gtb_m (List.mem_of_getElem? (i := 549) (by decide +kernel)) rfl, in_X0, by decide +kernel⟩, gtb_m (List.mem_of_getElem? (i := 548) (by decide +kernel)) rfl⟩
abbrev iX1_clear : MI := (yX1_clear, cX1_clear, 2, none)
theorem gm_X1_clear : GmV iX1_clear 0 := ⟨⟨gtb_m (List.mem_of_getElem? (i := 565) (by decide +kernel)) rfl, in_X1, by decide +kernel⟩, gtb_m (List.mem_of_getElem? (i := 563) (by decide +kernel)) rfl, gtb_m (List.mem_of_getElem? (i := 564) (by decide +kernel)) rfl⟩
abbrev iX1_settle : MI := (yX1_settle, cX1_settle, 2, none)
theorem gm_X1_settle : GmV iX1_settle 0 := ⟨⟨gtb_m (List.mem_of_getElem? (i := 571) (by decide +kernel)) rfl, in_X1, by decide +kernel⟩, gtb_m (List.mem_of_getElem? (i := 569) (by decide +kernel)) rfl, gtb_m (List.mem_of_getElem? (i := 570) (by decide +kernel)) rfl⟩
abbrev iX1_aboveMean : MI := (yX1_aboveMean, cX1_aboveMean, 2, (some .long))
theorem gm_X1_aboveMean : GmV iX1_aboveMean 1 := ⟨⟨gtb_m (List.mem_of_getElem? (i := 595) (by decide +kernel)) rfl, in_X1, by decide +kernel⟩, gtb_m (List.mem_of_getElem? (i := 593) (by decide +kernel)) rfl, gtb_m (List.mem_of_getElem? (i := 594) (by decide +kernel)) rfl⟩
abbrev iX1_becomeShapeOf : MI := (yX1_becomeShapeOf, cX1_becomeShapeOf, 4, none)
theorem gm_X1_becomeShapeOf : GmV iX1_becomeShapeOf 1 := ⟨⟨gtb_m (List.mem_of_getElem? (i := 578) (by decide +kernel)) rfl, in_X1, by decide +kernel⟩, gtb_m (List.mem_of_getElem? (i := 576) (by decide +kernel)) rfl, gtb_m (List.mem_of_getElem? (i := 577) (by decide +kernel)) rfl⟩
abbrev iX1_joinFirstFall : MI := (yX1_joinFirstFall, cX1_joinFirstFall, 3, (some .boolean))
theorem gm_X1_joinFirstFall : GmV iX1_joinFirstFall 0 := ⟨⟨gtb_m (List.mem_of_getElem? (i := 582) (by decide +kernel)) rfl, in_X1, by decide +kernel⟩, gtb_m (List.mem_of_getElem? (i := 581) (by decide +kernel)) rfl, gtb_m (List.mem_of_getElem? (i := 1) (by decide +kernel)) rfl⟩
abbrev iX1_join : MI := (yX1_join, cX1_join, 9, none)
theorem gm_X1_join : GmV iX1_join 2 := ⟨⟨gtb_m (List.mem_of_getElem? (i := 586) (by decide +kernel)) rfl, in_X1, by decide +kernel⟩, gtb_m (List.mem_of_getElem? (i := 585) (by decide +kernel)) rfl, gtb_m (List.mem_of_getElem? (i := 2) (by decide +kernel)) rfl⟩
abbrev iX2_fill : MI := (yX2_fill, cX2_fill, 9, none)
theorem gm_X2_fill : GmV iX2_fill 4 := ⟨⟨gtb_m (List.mem_of_getElem? (i := 862) (by decide +kernel)) rfl, in_X2, by decide +kernel⟩, gtb_m (List.mem_of_getElem? (i := 860) (by decide +kernel)) rfl, gtb_m (List.mem_of_getElem? (i := 861) (by decide +kernel)) rfl⟩
abbrev iX2_rankAmong : MI := (yX2_rankAmong, cX2_rankAmong, 6, (some .int))
theorem gm_X2_rankAmong : GmV iX2_rankAmong 3 := ⟨⟨gtb_m (List.mem_of_getElem? (i := 868) (by decide +kernel)) rfl, in_X2, by decide +kernel⟩, gtb_m (List.mem_of_getElem? (i := 867) (by decide +kernel)) rfl, gtb_m (List.mem_of_getElem? (i := 22) (by decide +kernel)) rfl⟩
abbrev iX2_makeTimes : MI := (yX2_makeTimes, cX2_makeTimes, 8, none)
theorem gm_X2_makeTimes : GmV iX2_makeTimes 3 := ⟨⟨gtb_m (List.mem_of_getElem? (i := 877) (by decide +kernel)) rfl, in_X2, by decide +kernel⟩, gtb_m (List.mem_of_getElem? (i := 876) (by decide +kernel)) rfl, gtb_m (List.mem_of_getElem? (i := 23) (by decide +kernel)) rfl⟩
abbrev iX2_lot : MI := (yX2_lot, cX2_lot, 2, (some .int))
theorem gm_X2_lot : GmV iX2_lot 1 := ⟨⟨gtb_m (List.mem_of_getElem? (i := 882) (by decide +kernel)) rfl, in_X2, by decide +kernel⟩, gtb_m (List.mem_of_getElem? (i := 881) (by decide +kernel)) rfl, gtb_m (List.mem_of_getElem? (i := 24) (by decide +kernel)) rfl⟩
abbrev iX3_hasRace : MI := (yX3_hasRace, cX3_hasRace, 2, (some .boolean))
theorem gm_X3_hasRace : GmV iX3_hasRace 1 := ⟨⟨gtb_m (List.mem_of_getElem? (i := 447) (by decide +kernel)) rfl, in_X3, by decide +kernel⟩, gtb_m (List.mem_of_getElem? (i := 445) (by decide +kernel)) rfl, gtb_m (List.mem_of_getElem? (i := 446) (by decide +kernel)) rfl⟩
abbrev iX3_hasSwim : MI := (yX3_hasSwim, cX3_hasSwim, 2, (some .boolean))
theorem gm_X3_hasSwim : GmV iX3_hasSwim 1 := ⟨⟨gtb_m (List.mem_of_getElem? (i := 469) (by decide +kernel)) rfl, in_X3, by decide +kernel⟩, gtb_m (List.mem_of_getElem? (i := 467) (by decide +kernel)) rfl, gtb_m (List.mem_of_getElem? (i := 468) (by decide +kernel)) rfl⟩
abbrev iX3_isTaken : MI := (yX3_isTaken, cX3_isTaken, 5, (some .boolean))
theorem gm_X3_isTaken : GmV iX3_isTaken 3 := ⟨⟨gtb_m (List.mem_of_getElem? (i := 457) (by decide +kernel)) rfl, in_X3, by decide +kernel⟩, gtb_m (List.mem_of_getElem? (i := 455) (by decide +kernel)) rfl, gtb_m (List.mem_of_getElem? (i := 456) (by decide +kernel)) rfl⟩
abbrev iX3_addRace : MI := (yX3_addRace, cX3_addRace, 3, (some .int))
theorem gm_X3_addRace : GmV iX3_addRace 2 := ⟨⟨gtb_m (List.mem_of_getElem? (i := 439) (by decide +kernel)) rfl, in_X3, by decide +kernel⟩, gtb_m (List.mem_of_getElem? (i := 437) (by decide +kernel)) rfl, gtb_m (List.mem_of_getElem? (i := 438) (by decide +kernel)) rfl⟩
abbrev iX3_addSwim : MI := (yX3_addSwim, cX3_addSwim, 4, (some .int))
theorem gm_X3_addSwim : GmV iX3_addSwim 3 := ⟨⟨gtb_m (List.mem_of_getElem? (i := 461) (by decide +kernel)) rfl, in_X3, by decide +kernel⟩, gtb_m (List.mem_of_getElem? (i := 459) (by decide +kernel)) rfl, gtb_m (List.mem_of_getElem? (i := 460) (by decide +kernel)) rfl⟩
abbrev iX3_lengthsOf : MI := (yX3_lengthsOf, cX3_lengthsOf, 2, (some .int))
theorem gm_X3_lengthsOf : GmV iX3_lengthsOf 1 := ⟨⟨gtb_m (List.mem_of_getElem? (i := 473) (by decide +kernel)) rfl, in_X3, by decide +kernel⟩, gtb_m (List.mem_of_getElem? (i := 471) (by decide +kernel)) rfl, gtb_m (List.mem_of_getElem? (i := 472) (by decide +kernel)) rfl⟩
abbrev iX3_timeOf : MI := (yX3_timeOf, cX3_timeOf, 3, (some .int))
theorem gm_X3_timeOf : GmV iX3_timeOf 2 := ⟨⟨gtb_m (List.mem_of_getElem? (i := 480) (by decide +kernel)) rfl, in_X3, by decide +kernel⟩, gtb_m (List.mem_of_getElem? (i := 478) (by decide +kernel)) rfl, gtb_m (List.mem_of_getElem? (i := 479) (by decide +kernel)) rfl⟩
abbrev iX3_setTime : MI := (yX3_setTime, cX3_setTime, 4, none)
theorem gm_X3_setTime : GmV iX3_setTime 3 := ⟨⟨gtb_m (List.mem_of_getElem? (i := 484) (by decide +kernel)) rfl, in_X3, by decide +kernel⟩, gtb_m (List.mem_of_getElem? (i := 482) (by decide +kernel)) rfl, gtb_m (List.mem_of_getElem? (i := 483) (by decide +kernel)) rfl⟩
abbrev iX3_feltIn : MI := (yX3_feltIn, cX3_feltIn, 4, (some .int))
theorem gm_X3_feltIn : GmV iX3_feltIn 1 := ⟨⟨gtb_m (List.mem_of_getElem? (i := 510) (by decide +kernel)) rfl, in_X3, by decide +kernel⟩, gtb_m (List.mem_of_getElem? (i := 508) (by decide +kernel)) rfl, gtb_m (List.mem_of_getElem? (i := 509) (by decide +kernel)) rfl⟩
abbrev iX3_togetherIn : MI := (yX3_togetherIn, cX3_togetherIn, 4, (some .int))
theorem gm_X3_togetherIn : GmV iX3_togetherIn 1 := ⟨⟨gtb_m (List.mem_of_getElem? (i := 515) (by decide +kernel)) rfl, in_X3, by decide +kernel⟩, gtb_m (List.mem_of_getElem? (i := 513) (by decide +kernel)) rfl, gtb_m (List.mem_of_getElem? (i := 514) (by decide +kernel)) rfl⟩
abbrev iX3_togetherInAll : MI := (yX3_togetherInAll, cX3_togetherInAll, 3, (some .int))
theorem gm_X3_togetherInAll : GmV iX3_togetherInAll 0 := ⟨⟨gtb_m (List.mem_of_getElem? (i := 951) (by decide +kernel)) rfl, in_X3, by decide +kernel⟩, gtb_m (List.mem_of_getElem? (i := 949) (by decide +kernel)) rfl, gtb_m (List.mem_of_getElem? (i := 950) (by decide +kernel)) rfl⟩
abbrev iX3_doubledMean : MI := (yX3_doubledMean, cX3_doubledMean, 5, (some .int))
theorem gm_X3_doubledMean : GmV iX3_doubledMean 2 := ⟨⟨gtb_m (List.mem_of_getElem? (i := 534) (by decide +kernel)) rfl, in_X3, by decide +kernel⟩, gtb_m (List.mem_of_getElem? (i := 532) (by decide +kernel)) rfl, gtb_m (List.mem_of_getElem? (i := 533) (by decide +kernel)) rfl⟩
abbrev iX3_hasDiff : MI := (yX3_hasDiff, cX3_hasDiff, 2, (some .boolean))
theorem gm_X3_hasDiff : GmV iX3_hasDiff 1 := ⟨⟨gtb_m (List.mem_of_getElem? (i := 530) (by decide +kernel)) rfl, in_X3, by decide +kernel⟩, gtb_m (List.mem_of_getElem? (i := 528) (by decide +kernel)) rfl, gtb_m (List.mem_of_getElem? (i := 529) (by decide +kernel)) rfl⟩
abbrev iX3_doubledDiff : MI := (yX3_doubledDiff, cX3_doubledDiff, 2, (some .int))
theorem gm_X3_doubledDiff : GmV iX3_doubledDiff 1 := ⟨⟨gtb_m (List.mem_of_getElem? (i := 538) (by decide +kernel)) rfl, in_X3, by decide +kernel⟩, gtb_m (List.mem_of_getElem? (i := 536) (by decide +kernel)) rfl, gtb_m (List.mem_of_getElem? (i := 537) (by decide +kernel)) rfl⟩
abbrev iX3_diffsInAll : MI := (yX3_diffsInAll, cX3_diffsInAll, 3, (some .int))
theorem gm_X3_diffsInAll : GmV iX3_diffsInAll 0 := ⟨⟨gtb_m (List.mem_of_getElem? (i := 946) (by decide +kernel)) rfl, in_X3, by decide +kernel⟩, gtb_m (List.mem_of_getElem? (i := 944) (by decide +kernel)) rfl, gtb_m (List.mem_of_getElem? (i := 945) (by decide +kernel)) rfl⟩
abbrev iX3_isSingle : MI := (yX3_isSingle, cX3_isSingle, 2, (some .boolean))
theorem gm_X3_isSingle : GmV iX3_isSingle 1 := ⟨⟨gtb_m (List.mem_of_getElem? (i := 670) (by decide +kernel)) rfl, in_X3, by decide +kernel⟩, gtb_m (List.mem_of_getElem? (i := 668) (by decide +kernel)) rfl, gtb_m (List.mem_of_getElem? (i := 669) (by decide +kernel)) rfl⟩
abbrev iX3_singlesInAll : MI := (yX3_singlesInAll, cX3_singlesInAll, 3, (some .int))
theorem gm_X3_singlesInAll : GmV iX3_singlesInAll 0 := ⟨⟨gtb_m (List.mem_of_getElem? (i := 941) (by decide +kernel)) rfl, in_X3, by decide +kernel⟩, gtb_m (List.mem_of_getElem? (i := 939) (by decide +kernel)) rfl, gtb_m (List.mem_of_getElem? (i := 940) (by decide +kernel)) rfl⟩
abbrev iX3_feltInRace : MI := (yX3_feltInRace, cX3_feltInRace, 4, (some .int))
theorem gm_X3_feltInRace : GmV iX3_feltInRace 1 := ⟨⟨gtb_m (List.mem_of_getElem? (i := 833) (by decide +kernel)) rfl, in_X3, by decide +kernel⟩, gtb_m (List.mem_of_getElem? (i := 831) (by decide +kernel)) rfl, gtb_m (List.mem_of_getElem? (i := 832) (by decide +kernel)) rfl⟩
abbrev iX3_tenthsInRace : MI := (yX3_tenthsInRace, cX3_tenthsInRace, 4, (some .int))
theorem gm_X3_tenthsInRace : GmV iX3_tenthsInRace 1 := ⟨⟨gtb_m (List.mem_of_getElem? (i := 838) (by decide +kernel)) rfl, in_X3, by decide +kernel⟩, gtb_m (List.mem_of_getElem? (i := 836) (by decide +kernel)) rfl, gtb_m (List.mem_of_getElem? (i := 837) (by decide +kernel)) rfl⟩
abbrev iX3_tenthsIn : MI := (yX3_tenthsIn, cX3_tenthsIn, 4, (some .int))
theorem gm_X3_tenthsIn : GmV iX3_tenthsIn 1 := ⟨⟨gtb_m (List.mem_of_getElem? (i := 842) (by decide +kernel)) rfl, in_X3, by decide +kernel⟩, gtb_m (List.mem_of_getElem? (i := 841) (by decide +kernel)) rfl, gtb_m (List.mem_of_getElem? (i := 21) (by decide +kernel)) rfl⟩
abbrev iX3_isBetter : MI := (yX3_isBetter, cX3_isBetter, 3, (some .boolean))
theorem gm_X3_isBetter : GmV iX3_isBetter 2 := ⟨⟨gtb_m (List.mem_of_getElem? (i := 821) (by decide +kernel)) rfl, in_X3, by decide +kernel⟩, gtb_m (List.mem_of_getElem? (i := 819) (by decide +kernel)) rfl, gtb_m (List.mem_of_getElem? (i := 820) (by decide +kernel)) rfl⟩
abbrev iX4_faultAt : MI := (yX4_faultAt, cX4_faultAt, 4, (some .int))
theorem gm_X4_faultAt : GmV iX4_faultAt 0 := ⟨⟨gtb_m (List.mem_of_getElem? (i := 761) (by decide +kernel)) rfl, in_X4, by decide +kernel⟩, gtb_m (List.mem_of_getElem? (i := 759) (by decide +kernel)) rfl, gtb_m (List.mem_of_getElem? (i := 760) (by decide +kernel)) rfl⟩
abbrev iX4_laneFor : MI := (yX4_laneFor, cX4_laneFor, 2, (some .int))
theorem gm_X4_laneFor : GmV iX4_laneFor 1 := ⟨⟨gtb_m (List.mem_of_getElem? (i := 825) (by decide +kernel)) rfl, in_X4, by decide +kernel⟩, gtb_m (List.mem_of_getElem? (i := 823) (by decide +kernel)) rfl, gtb_m (List.mem_of_getElem? (i := 824) (by decide +kernel)) rfl⟩
abbrev iX4_isKeptBy : MI := (yX4_isKeptBy, cX4_isKeptBy, 4, (some .boolean))
theorem gm_X4_isKeptBy : GmV iX4_isKeptBy 2 := ⟨⟨gtb_m (List.mem_of_getElem? (i := 814) (by decide +kernel)) rfl, in_X4, by decide +kernel⟩, gtb_m (List.mem_of_getElem? (i := 812) (by decide +kernel)) rfl, gtb_m (List.mem_of_getElem? (i := 813) (by decide +kernel)) rfl⟩
abbrev iX4_rankOf : MI := (yX4_rankOf, cX4_rankOf, 4, (some .int))
theorem gm_X4_rankOf : GmS iX4_rankOf 2 := ⟨⟨gtb_m (List.mem_of_getElem? (i := 817) (by decide +kernel)) rfl, in_X4, by decide +kernel⟩, gtb_m (List.mem_of_getElem? (i := 816) (by decide +kernel)) rfl⟩
abbrev iX5_renew : MI := (yX5_renew, cX5_renew, 4, none)
theorem gm_X5_renew : GmV iX5_renew 2 := ⟨⟨gtb_m (List.mem_of_getElem? (i := 897) (by decide +kernel)) rfl, in_X5, by decide +kernel⟩, gtb_m (List.mem_of_getElem? (i := 895) (by decide +kernel)) rfl, gtb_m (List.mem_of_getElem? (i := 896) (by decide +kernel)) rfl⟩
abbrev iX5_hasItems : MI := (yX5_hasItems, cX5_hasItems, 3, (some .boolean))
theorem gm_X5_hasItems : GmV iX5_hasItems 2 := ⟨⟨gtb_m (List.mem_of_getElem? (i := 926) (by decide +kernel)) rfl, in_X5, by decide +kernel⟩, gtb_m (List.mem_of_getElem? (i := 924) (by decide +kernel)) rfl, gtb_m (List.mem_of_getElem? (i := 925) (by decide +kernel)) rfl⟩
abbrev iX5_findingAt : MI := (yX5_findingAt, cX5_findingAt, 3, (some .int))
theorem gm_X5_findingAt : GmV iX5_findingAt 2 := ⟨⟨gtb_m (List.mem_of_getElem? (i := 909) (by decide +kernel)) rfl, in_X5, by decide +kernel⟩, gtb_m (List.mem_of_getElem? (i := 907) (by decide +kernel)) rfl, gtb_m (List.mem_of_getElem? (i := 908) (by decide +kernel)) rfl⟩
abbrev iX5_setItem : MI := (yX5_setItem, cX5_setItem, 3, none)
theorem gm_X5_setItem : GmV iX5_setItem 2 := ⟨⟨gtb_m (List.mem_of_getElem? (i := 913) (by decide +kernel)) rfl, in_X5, by decide +kernel⟩, gtb_m (List.mem_of_getElem? (i := 911) (by decide +kernel)) rfl, gtb_m (List.mem_of_getElem? (i := 912) (by decide +kernel)) rfl⟩
abbrev iX6_survey : MI := (yX6_survey, cX6_survey, 2, none)
theorem gm_X6_survey : GmV iX6_survey 0 := ⟨⟨gtb_m (List.mem_of_getElem? (i := 666) (by decide +kernel)) rfl, in_X6, by decide +kernel⟩, gtb_m (List.mem_of_getElem? (i := 664) (by decide +kernel)) rfl, gtb_m (List.mem_of_getElem? (i := 665) (by decide +kernel)) rfl⟩
abbrev iX6_addPairsOf : MI := (yX6_addPairsOf, cX6_addPairsOf, 3, none)
theorem gm_X6_addPairsOf : GmV iX6_addPairsOf 1 := ⟨⟨gtb_m (List.mem_of_getElem? (i := 675) (by decide +kernel)) rfl, in_X6, by decide +kernel⟩, gtb_m (List.mem_of_getElem? (i := 674) (by decide +kernel)) rfl, gtb_m (List.mem_of_getElem? (i := 8) (by decide +kernel)) rfl⟩
abbrev iX6_arrange : MI := (yX6_arrange, cX6_arrange, 4, none)
theorem gm_X6_arrange : GmV iX6_arrange 0 := ⟨⟨gtb_m (List.mem_of_getElem? (i := 684) (by decide +kernel)) rfl, in_X6, by decide +kernel⟩, gtb_m (List.mem_of_getElem? (i := 682) (by decide +kernel)) rfl, gtb_m (List.mem_of_getElem? (i := 683) (by decide +kernel)) rfl⟩
abbrev iX6_leastFirst : MI := (yX6_leastFirst, cX6_leastFirst, 3, (some .int))
theorem gm_X6_leastFirst : GmV iX6_leastFirst 1 := ⟨⟨gtb_m (List.mem_of_getElem? (i := 693) (by decide +kernel)) rfl, in_X6, by decide +kernel⟩, gtb_m (List.mem_of_getElem? (i := 692) (by decide +kernel)) rfl, gtb_m (List.mem_of_getElem? (i := 10) (by decide +kernel)) rfl⟩
abbrev iX6_pairsIfFirst : MI := (yX6_pairsIfFirst, cX6_pairsIfFirst, 6, (some .int))
theorem gm_X6_pairsIfFirst : GmV iX6_pairsIfFirst 2 := ⟨⟨gtb_m (List.mem_of_getElem? (i := 688) (by decide +kernel)) rfl, in_X6, by decide +kernel⟩, gtb_m (List.mem_of_getElem? (i := 687) (by decide +kernel)) rfl, gtb_m (List.mem_of_getElem? (i := 9) (by decide +kernel)) rfl⟩
abbrev iX6_putRight : MI := (yX6_putRight, cX6_putRight, 5, none)
theorem gm_X6_putRight : GmV iX6_putRight 0 := ⟨⟨gtb_m (List.mem_of_getElem? (i := 702) (by decide +kernel)) rfl, in_X6, by decide +kernel⟩, gtb_m (List.mem_of_getElem? (i := 700) (by decide +kernel)) rfl, gtb_m (List.mem_of_getElem? (i := 701) (by decide +kernel)) rfl⟩
abbrev iX6_slowness : MI := (yX6_slowness, cX6_slowness, 3, (some .long))
theorem gm_X6_slowness : GmV iX6_slowness 2 := ⟨⟨gtb_m (List.mem_of_getElem? (i := 716) (by decide +kernel)) rfl, in_X6, by decide +kernel⟩, gtb_m (List.mem_of_getElem? (i := 715) (by decide +kernel)) rfl, gtb_m (List.mem_of_getElem? (i := 11) (by decide +kernel)) rfl⟩
abbrev iX6_placeOf : MI := (yX6_placeOf, cX6_placeOf, 7, (some .int))
theorem gm_X6_placeOf : GmV iX6_placeOf 2 := ⟨⟨gtb_m (List.mem_of_getElem? (i := 712) (by decide +kernel)) rfl, in_X6, by decide +kernel⟩, gtb_m (List.mem_of_getElem? (i := 710) (by decide +kernel)) rfl, gtb_m (List.mem_of_getElem? (i := 711) (by decide +kernel)) rfl⟩
abbrev iX6_changedMedals : MI := (yX6_changedMedals, cX6_changedMedals, 4, (some .int))
theorem gm_X6_changedMedals : GmV iX6_changedMedals 1 := ⟨⟨gtb_m (List.mem_of_getElem? (i := 724) (by decide +kernel)) rfl, in_X6, by decide +kernel⟩, gtb_m (List.mem_of_getElem? (i := 722) (by decide +kernel)) rfl, gtb_m (List.mem_of_getElem? (i := 723) (by decide +kernel)) rfl⟩
abbrev iX6_hasMedal : MI := (yX6_hasMedal, cX6_hasMedal, 3, (some .boolean))
theorem gm_X6_hasMedal : GmV iX6_hasMedal 2 := ⟨⟨gtb_m (List.mem_of_getElem? (i := 728) (by decide +kernel)) rfl, in_X6, by decide +kernel⟩, gtb_m (List.mem_of_getElem? (i := 727) (by decide +kernel)) rfl, gtb_m (List.mem_of_getElem? (i := 12) (by decide +kernel)) rfl⟩
abbrev iX7_isFull : MI := (yX7_isFull, cX7_isFull, 1, (some .boolean))
theorem gm_X7_isFull : GmV iX7_isFull 0 := ⟨⟨gtb_m (List.mem_of_getElem? (i := 740) (by decide +kernel)) rfl, in_X7, by decide +kernel⟩, gtb_m (List.mem_of_getElem? (i := 738) (by decide +kernel)) rfl, gtb_m (List.mem_of_getElem? (i := 739) (by decide +kernel)) rfl⟩
abbrev iX7_append : MI := (yX7_append, cX7_append, 2, (some .int))
theorem gm_X7_append : GmV iX7_append 1 := ⟨⟨gtb_m (List.mem_of_getElem? (i := 744) (by decide +kernel)) rfl, in_X7, by decide +kernel⟩, gtb_m (List.mem_of_getElem? (i := 742) (by decide +kernel)) rfl, gtb_m (List.mem_of_getElem? (i := 743) (by decide +kernel)) rfl⟩
abbrev iX7_clear : MI := (yX7_clear, cX7_clear, 2, (some .int))
theorem gm_X7_clear : GmV iX7_clear 0 := ⟨⟨gtb_m (List.mem_of_getElem? (i := 753) (by decide +kernel)) rfl, in_X7, by decide +kernel⟩, gtb_m (List.mem_of_getElem? (i := 751) (by decide +kernel)) rfl, gtb_m (List.mem_of_getElem? (i := 752) (by decide +kernel)) rfl⟩
abbrev iX8_survey : MI := (yX8_survey, cX8_survey, 2, none)
theorem gm_X8_survey : GmV iX8_survey 0 := ⟨⟨gtb_m (List.mem_of_getElem? (i := 561) (by decide +kernel)) rfl, in_X8, by decide +kernel⟩, gtb_m (List.mem_of_getElem? (i := 559) (by decide +kernel)) rfl, gtb_m (List.mem_of_getElem? (i := 560) (by decide +kernel)) rfl⟩
abbrev iX8_surveyDays : MI := (yX8_surveyDays, cX8_surveyDays, 3, none)
theorem gm_X8_surveyDays : GmV iX8_surveyDays 0 := ⟨⟨gtb_m (List.mem_of_getElem? (i := 607) (by decide +kernel)) rfl, in_X8, by decide +kernel⟩, gtb_m (List.mem_of_getElem? (i := 605) (by decide +kernel)) rfl, gtb_m (List.mem_of_getElem? (i := 606) (by decide +kernel)) rfl⟩
abbrev iX8_leanOfPair : MI := (yX8_leanOfPair, cX8_leanOfPair, 4, (some .int))
theorem gm_X8_leanOfPair : GmV iX8_leanOfPair 2 := ⟨⟨gtb_m (List.mem_of_getElem? (i := 611) (by decide +kernel)) rfl, in_X8, by decide +kernel⟩, gtb_m (List.mem_of_getElem? (i := 610) (by decide +kernel)) rfl, gtb_m (List.mem_of_getElem? (i := 4) (by decide +kernel)) rfl⟩
abbrev iX8_leanOf : MI := (yX8_leanOf, cX8_leanOf, 5, (some .int))
theorem gm_X8_leanOf : GmV iX8_leanOf 2 := ⟨⟨gtb_m (List.mem_of_getElem? (i := 622) (by decide +kernel)) rfl, in_X8, by decide +kernel⟩, gtb_m (List.mem_of_getElem? (i := 620) (by decide +kernel)) rfl, gtb_m (List.mem_of_getElem? (i := 621) (by decide +kernel)) rfl⟩
abbrev iX8_findRan : MI := (yX8_findRan, cX8_findRan, 5, none)
theorem gm_X8_findRan : GmV iX8_findRan 0 := ⟨⟨gtb_m (List.mem_of_getElem? (i := 618) (by decide +kernel)) rfl, in_X8, by decide +kernel⟩, gtb_m (List.mem_of_getElem? (i := 617) (by decide +kernel)) rfl, gtb_m (List.mem_of_getElem? (i := 5) (by decide +kernel)) rfl⟩
abbrev iX8_chanceOfShape : MI := (yX8_chanceOfShape, cX8_chanceOfShape, 3, (some .int))
theorem gm_X8_chanceOfShape : GmV iX8_chanceOfShape 0 := ⟨⟨gtb_m (List.mem_of_getElem? (i := 630) (by decide +kernel)) rfl, in_X8, by decide +kernel⟩, gtb_m (List.mem_of_getElem? (i := 628) (by decide +kernel)) rfl, gtb_m (List.mem_of_getElem? (i := 629) (by decide +kernel)) rfl⟩
abbrev iX8_shareOfOrders : MI := (yX8_shareOfOrders, cX8_shareOfOrders, 8, (some .int))
theorem gm_X8_shareOfOrders : GmV iX8_shareOfOrders 1 := ⟨⟨gtb_m (List.mem_of_getElem? (i := 634) (by decide +kernel)) rfl, in_X8, by decide +kernel⟩, gtb_m (List.mem_of_getElem? (i := 633) (by decide +kernel)) rfl, gtb_m (List.mem_of_getElem? (i := 6) (by decide +kernel)) rfl⟩
abbrev iX8_swap : MI := (yX8_swap, cX8_swap, 5, (some .long))
theorem gm_X8_swap : GmV iX8_swap 2 := ⟨⟨gtb_m (List.mem_of_getElem? (i := 638) (by decide +kernel)) rfl, in_X8, by decide +kernel⟩, gtb_m (List.mem_of_getElem? (i := 637) (by decide +kernel)) rfl, gtb_m (List.mem_of_getElem? (i := 7) (by decide +kernel)) rfl⟩
abbrev iX8_findOwn : MI := (yX8_findOwn, cX8_findOwn, 7, (some .boolean))
theorem gm_X8_findOwn : GmV iX8_findOwn 2 := ⟨⟨gtb_m (List.mem_of_getElem? (i := 652) (by decide +kernel)) rfl, in_X8, by decide +kernel⟩, gtb_m (List.mem_of_getElem? (i := 650) (by decide +kernel)) rfl, gtb_m (List.mem_of_getElem? (i := 651) (by decide +kernel)) rfl⟩
abbrev iX9_parse : MI := (yX9_parse, cX9_parse, 3, (some .int))
theorem gm_X9_parse : GmV iX9_parse 0 := ⟨⟨gtb_m (List.mem_of_getElem? (i := 766) (by decide +kernel)) rfl, in_X9, by decide +kernel⟩, gtb_m (List.mem_of_getElem? (i := 764) (by decide +kernel)) rfl, gtb_m (List.mem_of_getElem? (i := 765) (by decide +kernel)) rfl⟩
abbrev iX9_clearValues : MI := (yX9_clearValues, cX9_clearValues, 2, none)
theorem gm_X9_clearValues : GmV iX9_clearValues 0 := ⟨⟨gtb_m (List.mem_of_getElem? (i := 770) (by decide +kernel)) rfl, in_X9, by decide +kernel⟩, gtb_m (List.mem_of_getElem? (i := 769) (by decide +kernel)) rfl, gtb_m (List.mem_of_getElem? (i := 13) (by decide +kernel)) rfl⟩
abbrev iX9_next : MI := (yX9_next, cX9_next, 3, (some .int))
theorem gm_X9_next : GmV iX9_next 2 := ⟨⟨gtb_m (List.mem_of_getElem? (i := 774) (by decide +kernel)) rfl, in_X9, by decide +kernel⟩, gtb_m (List.mem_of_getElem? (i := 773) (by decide +kernel)) rfl, gtb_m (List.mem_of_getElem? (i := 14) (by decide +kernel)) rfl⟩
abbrev iX9_open : MI := (yX9_open, cX9_open, 2, (some .int))
theorem gm_X9_open : GmV iX9_open 1 := ⟨⟨gtb_m (List.mem_of_getElem? (i := 778) (by decide +kernel)) rfl, in_X9, by decide +kernel⟩, gtb_m (List.mem_of_getElem? (i := 777) (by decide +kernel)) rfl, gtb_m (List.mem_of_getElem? (i := 15) (by decide +kernel)) rfl⟩
abbrev iX9_choose : MI := (yX9_choose, cX9_choose, 2, (some .int))
theorem gm_X9_choose : GmV iX9_choose 1 := ⟨⟨gtb_m (List.mem_of_getElem? (i := 782) (by decide +kernel)) rfl, in_X9, by decide +kernel⟩, gtb_m (List.mem_of_getElem? (i := 781) (by decide +kernel)) rfl, gtb_m (List.mem_of_getElem? (i := 16) (by decide +kernel)) rfl⟩
abbrev iX9_turn : MI := (yX9_turn, cX9_turn, 1, (some .int))
theorem gm_X9_turn : GmV iX9_turn 0 := ⟨⟨gtb_m (List.mem_of_getElem? (i := 787) (by decide +kernel)) rfl, in_X9, by decide +kernel⟩, gtb_m (List.mem_of_getElem? (i := 786) (by decide +kernel)) rfl, gtb_m (List.mem_of_getElem? (i := 17) (by decide +kernel)) rfl⟩
abbrev iX9_begin : MI := (yX9_begin, cX9_begin, 2, (some .int))
theorem gm_X9_begin : GmV iX9_begin 1 := ⟨⟨gtb_m (List.mem_of_getElem? (i := 791) (by decide +kernel)) rfl, in_X9, by decide +kernel⟩, gtb_m (List.mem_of_getElem? (i := 790) (by decide +kernel)) rfl, gtb_m (List.mem_of_getElem? (i := 18) (by decide +kernel)) rfl⟩
abbrev iX9_end : MI := (yX9_end, cX9_end, 2, (some .int))
theorem gm_X9_end : GmV iX9_end 1 := ⟨⟨gtb_m (List.mem_of_getElem? (i := 799) (by decide +kernel)) rfl, in_X9, by decide +kernel⟩, gtb_m (List.mem_of_getElem? (i := 798) (by decide +kernel)) rfl, gtb_m (List.mem_of_getElem? (i := 19) (by decide +kernel)) rfl⟩
abbrev iX9_close : MI := (yX9_close, cX9_close, 1, (some .int))
theorem gm_X9_close : GmS iX9_close 1 := ⟨⟨gtb_m (List.mem_of_getElem? (i := 802) (by decide +kernel)) rfl, in_X9, by decide +kernel⟩, gtb_m (List.mem_of_getElem? (i := 801) (by decide +kernel)) rfl⟩
abbrev iX9_isFigure : MI := (yX9_isFigure, cX9_isFigure, 1, (some .boolean))
theorem gm_X9_isFigure : GmS iX9_isFigure 1 := ⟨⟨gtb_m (List.mem_of_getElem? (i := 794) (by decide +kernel)) rfl, in_X9, by decide +kernel⟩, gtb_m (List.mem_of_getElem? (i := 793) (by decide +kernel)) rfl⟩
abbrev iX10_race : MI := (yX10_race, cX10_race, 3, (some .int))
theorem gm_X10_race : GmV iX10_race 2 := ⟨⟨gtb_m (List.mem_of_getElem? (i := 426) (by decide +kernel)) rfl, in_X10, by decide +kernel⟩, gtb_m (List.mem_of_getElem? (i := 424) (by decide +kernel)) rfl, gtb_m (List.mem_of_getElem? (i := 425) (by decide +kernel)) rfl⟩
abbrev iX10_swim : MI := (yX10_swim, cX10_swim, 4, (some .int))
theorem gm_X10_swim : GmV iX10_swim 3 := ⟨⟨gtb_m (List.mem_of_getElem? (i := 443) (by decide +kernel)) rfl, in_X10, by decide +kernel⟩, gtb_m (List.mem_of_getElem? (i := 441) (by decide +kernel)) rfl, gtb_m (List.mem_of_getElem? (i := 442) (by decide +kernel)) rfl⟩
abbrev iX10_time : MI := (yX10_time, cX10_time, 5, (some .int))
theorem gm_X10_time : GmV iX10_time 3 := ⟨⟨gtb_m (List.mem_of_getElem? (i := 465) (by decide +kernel)) rfl, in_X10, by decide +kernel⟩, gtb_m (List.mem_of_getElem? (i := 463) (by decide +kernel)) rfl, gtb_m (List.mem_of_getElem? (i := 464) (by decide +kernel)) rfl⟩
abbrev iX10_read : MI := (yX10_read, cX10_read, 6, (some .int))
theorem gm_X10_read : GmV iX10_read 2 := ⟨⟨gtb_m (List.mem_of_getElem? (i := 488) (by decide +kernel)) rfl, in_X10, by decide +kernel⟩, gtb_m (List.mem_of_getElem? (i := 486) (by decide +kernel)) rfl, gtb_m (List.mem_of_getElem? (i := 487) (by decide +kernel)) rfl⟩
abbrev iX10_seeds : MI := (yX10_seeds, cX10_seeds, 4, (some .int))
theorem gm_X10_seeds : GmV iX10_seeds 2 := ⟨⟨gtb_m (List.mem_of_getElem? (i := 502) (by decide +kernel)) rfl, in_X10, by decide +kernel⟩, gtb_m (List.mem_of_getElem? (i := 500) (by decide +kernel)) rfl, gtb_m (List.mem_of_getElem? (i := 501) (by decide +kernel)) rfl⟩
abbrev iX10_about : MI := (yX10_about, cX10_about, 4, (some .int))
theorem gm_X10_about : GmV iX10_about 2 := ⟨⟨gtb_m (List.mem_of_getElem? (i := 506) (by decide +kernel)) rfl, in_X10, by decide +kernel⟩, gtb_m (List.mem_of_getElem? (i := 504) (by decide +kernel)) rfl, gtb_m (List.mem_of_getElem? (i := 505) (by decide +kernel)) rfl⟩
abbrev iX10_diff : MI := (yX10_diff, cX10_diff, 3, (some .long))
theorem gm_X10_diff : GmV iX10_diff 2 := ⟨⟨gtb_m (List.mem_of_getElem? (i := 519) (by decide +kernel)) rfl, in_X10, by decide +kernel⟩, gtb_m (List.mem_of_getElem? (i := 517) (by decide +kernel)) rfl, gtb_m (List.mem_of_getElem? (i := 518) (by decide +kernel)) rfl⟩
abbrev iX10_lane : MI := (yX10_lane, cX10_lane, 4, (some .long))
theorem gm_X10_lane : GmV iX10_lane 3 := ⟨⟨gtb_m (List.mem_of_getElem? (i := 557) (by decide +kernel)) rfl, in_X10, by decide +kernel⟩, gtb_m (List.mem_of_getElem? (i := 555) (by decide +kernel)) rfl, gtb_m (List.mem_of_getElem? (i := 556) (by decide +kernel)) rfl⟩
abbrev iX10_counts : MI := (yX10_counts, cX10_counts, 2, (some .int))
theorem gm_X10_counts : GmV iX10_counts 1 := ⟨⟨gtb_m (List.mem_of_getElem? (i := 599) (by decide +kernel)) rfl, in_X10, by decide +kernel⟩, gtb_m (List.mem_of_getElem? (i := 597) (by decide +kernel)) rfl, gtb_m (List.mem_of_getElem? (i := 598) (by decide +kernel)) rfl⟩
abbrev iX10_lean : MI := (yX10_lean, cX10_lean, 3, (some .int))
theorem gm_X10_lean : GmV iX10_lean 2 := ⟨⟨gtb_m (List.mem_of_getElem? (i := 603) (by decide +kernel)) rfl, in_X10, by decide +kernel⟩, gtb_m (List.mem_of_getElem? (i := 601) (by decide +kernel)) rfl, gtb_m (List.mem_of_getElem? (i := 602) (by decide +kernel)) rfl⟩
abbrev iX10_chance : MI := (yX10_chance, cX10_chance, 1, (some .int))
theorem gm_X10_chance : GmV iX10_chance 0 := ⟨⟨gtb_m (List.mem_of_getElem? (i := 626) (by decide +kernel)) rfl, in_X10, by decide +kernel⟩, gtb_m (List.mem_of_getElem? (i := 624) (by decide +kernel)) rfl, gtb_m (List.mem_of_getElem? (i := 625) (by decide +kernel)) rfl⟩
abbrev iX10_ran : MI := (yX10_ran, cX10_ran, 2, (some .int))
theorem gm_X10_ran : GmV iX10_ran 1 := ⟨⟨gtb_m (List.mem_of_getElem? (i := 644) (by decide +kernel)) rfl, in_X10, by decide +kernel⟩, gtb_m (List.mem_of_getElem? (i := 642) (by decide +kernel)) rfl, gtb_m (List.mem_of_getElem? (i := 643) (by decide +kernel)) rfl⟩
abbrev iX10_own : MI := (yX10_own, cX10_own, 3, (some .long))
theorem gm_X10_own : GmV iX10_own 2 := ⟨⟨gtb_m (List.mem_of_getElem? (i := 648) (by decide +kernel)) rfl, in_X10, by decide +kernel⟩, gtb_m (List.mem_of_getElem? (i := 646) (by decide +kernel)) rfl, gtb_m (List.mem_of_getElem? (i := 647) (by decide +kernel)) rfl⟩
abbrev iX10_fast : MI := (yX10_fast, cX10_fast, 4, (some .int))
theorem gm_X10_fast : GmV iX10_fast 1 := ⟨⟨gtb_m (List.mem_of_getElem? (i := 658) (by decide +kernel)) rfl, in_X10, by decide +kernel⟩, gtb_m (List.mem_of_getElem? (i := 656) (by decide +kernel)) rfl, gtb_m (List.mem_of_getElem? (i := 657) (by decide +kernel)) rfl⟩
abbrev iX10_twice : MI := (yX10_twice, cX10_twice, 3, (some .int))
theorem gm_X10_twice : GmV iX10_twice 2 := ⟨⟨gtb_m (List.mem_of_getElem? (i := 662) (by decide +kernel)) rfl, in_X10, by decide +kernel⟩, gtb_m (List.mem_of_getElem? (i := 660) (by decide +kernel)) rfl, gtb_m (List.mem_of_getElem? (i := 661) (by decide +kernel)) rfl⟩
abbrev iX10_order : MI := (yX10_order, cX10_order, 2, (some .int))
theorem gm_X10_order : GmV iX10_order 1 := ⟨⟨gtb_m (List.mem_of_getElem? (i := 680) (by decide +kernel)) rfl, in_X10, by decide +kernel⟩, gtb_m (List.mem_of_getElem? (i := 678) (by decide +kernel)) rfl, gtb_m (List.mem_of_getElem? (i := 679) (by decide +kernel)) rfl⟩
abbrev iX10_right : MI := (yX10_right, cX10_right, 3, (some .long))
theorem gm_X10_right : GmV iX10_right 2 := ⟨⟨gtb_m (List.mem_of_getElem? (i := 697) (by decide +kernel)) rfl, in_X10, by decide +kernel⟩, gtb_m (List.mem_of_getElem? (i := 695) (by decide +kernel)) rfl, gtb_m (List.mem_of_getElem? (i := 696) (by decide +kernel)) rfl⟩
abbrev iX10_place : MI := (yX10_place, cX10_place, 3, (some .int))
theorem gm_X10_place : GmV iX10_place 2 := ⟨⟨gtb_m (List.mem_of_getElem? (i := 708) (by decide +kernel)) rfl, in_X10, by decide +kernel⟩, gtb_m (List.mem_of_getElem? (i := 706) (by decide +kernel)) rfl, gtb_m (List.mem_of_getElem? (i := 707) (by decide +kernel)) rfl⟩
abbrev iX10_medals : MI := (yX10_medals, cX10_medals, 2, (some .int))
theorem gm_X10_medals : GmV iX10_medals 1 := ⟨⟨gtb_m (List.mem_of_getElem? (i := 720) (by decide +kernel)) rfl, in_X10, by decide +kernel⟩, gtb_m (List.mem_of_getElem? (i := 718) (by decide +kernel)) rfl, gtb_m (List.mem_of_getElem? (i := 719) (by decide +kernel)) rfl⟩
abbrev iX10_type : MI := (yX10_type, cX10_type, 3, (some .int))
theorem gm_X10_type : GmV iX10_type 2 := ⟨⟨gtb_m (List.mem_of_getElem? (i := 733) (by decide +kernel)) rfl, in_X10, by decide +kernel⟩, gtb_m (List.mem_of_getElem? (i := 731) (by decide +kernel)) rfl, gtb_m (List.mem_of_getElem? (i := 732) (by decide +kernel)) rfl⟩
abbrev iX10_wipe : MI := (yX10_wipe, cX10_wipe, 2, (some .int))
theorem gm_X10_wipe : GmV iX10_wipe 1 := ⟨⟨gtb_m (List.mem_of_getElem? (i := 749) (by decide +kernel)) rfl, in_X10, by decide +kernel⟩, gtb_m (List.mem_of_getElem? (i := 747) (by decide +kernel)) rfl, gtb_m (List.mem_of_getElem? (i := 748) (by decide +kernel)) rfl⟩
abbrev iX10_fault : MI := (yX10_fault, cX10_fault, 2, (some .int))
theorem gm_X10_fault : GmV iX10_fault 1 := ⟨⟨gtb_m (List.mem_of_getElem? (i := 757) (by decide +kernel)) rfl, in_X10, by decide +kernel⟩, gtb_m (List.mem_of_getElem? (i := 755) (by decide +kernel)) rfl, gtb_m (List.mem_of_getElem? (i := 756) (by decide +kernel)) rfl⟩
abbrev iX10_given : MI := (yX10_given, cX10_given, 2, (some .int))
theorem gm_X10_given : GmV iX10_given 1 := ⟨⟨gtb_m (List.mem_of_getElem? (i := 806) (by decide +kernel)) rfl, in_X10, by decide +kernel⟩, gtb_m (List.mem_of_getElem? (i := 804) (by decide +kernel)) rfl, gtb_m (List.mem_of_getElem? (i := 805) (by decide +kernel)) rfl⟩
abbrev iX10_tenths : MI := (yX10_tenths, cX10_tenths, 5, (some .int))
theorem gm_X10_tenths : GmV iX10_tenths 2 := ⟨⟨gtb_m (List.mem_of_getElem? (i := 829) (by decide +kernel)) rfl, in_X10, by decide +kernel⟩, gtb_m (List.mem_of_getElem? (i := 827) (by decide +kernel)) rfl, gtb_m (List.mem_of_getElem? (i := 828) (by decide +kernel)) rfl⟩
abbrev iX10_world : MI := (yX10_world, cX10_world, 2, (some .int))
theorem gm_X10_world : GmV iX10_world 1 := ⟨⟨gtb_m (List.mem_of_getElem? (i := 854) (by decide +kernel)) rfl, in_X10, by decide +kernel⟩, gtb_m (List.mem_of_getElem? (i := 852) (by decide +kernel)) rfl, gtb_m (List.mem_of_getElem? (i := 853) (by decide +kernel)) rfl⟩
abbrev iX10_made : MI := (yX10_made, cX10_made, 7, (some .int))
theorem gm_X10_made : GmV iX10_made 5 := ⟨⟨gtb_m (List.mem_of_getElem? (i := 858) (by decide +kernel)) rfl, in_X10, by decide +kernel⟩, gtb_m (List.mem_of_getElem? (i := 856) (by decide +kernel)) rfl, gtb_m (List.mem_of_getElem? (i := 857) (by decide +kernel)) rfl⟩
abbrev iX10_sheet : MI := (yX10_sheet, cX10_sheet, 4, (some .int))
theorem gm_X10_sheet : GmV iX10_sheet 3 := ⟨⟨gtb_m (List.mem_of_getElem? (i := 890) (by decide +kernel)) rfl, in_X10, by decide +kernel⟩, gtb_m (List.mem_of_getElem? (i := 888) (by decide +kernel)) rfl, gtb_m (List.mem_of_getElem? (i := 889) (by decide +kernel)) rfl⟩
abbrev iX10_lose : MI := (yX10_lose, cX10_lose, 2, (some .int))
theorem gm_X10_lose : GmV iX10_lose 1 := ⟨⟨gtb_m (List.mem_of_getElem? (i := 901) (by decide +kernel)) rfl, in_X10, by decide +kernel⟩, gtb_m (List.mem_of_getElem? (i := 899) (by decide +kernel)) rfl, gtb_m (List.mem_of_getElem? (i := 900) (by decide +kernel)) rfl⟩
abbrev iX10_put : MI := (yX10_put, cX10_put, 6, (some .int))
theorem gm_X10_put : GmV iX10_put 4 := ⟨⟨gtb_m (List.mem_of_getElem? (i := 905) (by decide +kernel)) rfl, in_X10, by decide +kernel⟩, gtb_m (List.mem_of_getElem? (i := 903) (by decide +kernel)) rfl, gtb_m (List.mem_of_getElem? (i := 904) (by decide +kernel)) rfl⟩
abbrev iX10_get : MI := (yX10_get, cX10_get, 5, (some .int))
theorem gm_X10_get : GmV iX10_get 3 := ⟨⟨gtb_m (List.mem_of_getElem? (i := 917) (by decide +kernel)) rfl, in_X10, by decide +kernel⟩, gtb_m (List.mem_of_getElem? (i := 915) (by decide +kernel)) rfl, gtb_m (List.mem_of_getElem? (i := 916) (by decide +kernel)) rfl⟩
abbrev iX10_copy : MI := (yX10_copy, cX10_copy, 8, (some .int))
theorem gm_X10_copy : GmV iX10_copy 5 := ⟨⟨gtb_m (List.mem_of_getElem? (i := 922) (by decide +kernel)) rfl, in_X10, by decide +kernel⟩, gtb_m (List.mem_of_getElem? (i := 920) (by decide +kernel)) rfl, gtb_m (List.mem_of_getElem? (i := 921) (by decide +kernel)) rfl⟩
abbrev iX10_write : MI := (yX10_write, cX10_write, 6, (some .int))
theorem gm_X10_write : GmV iX10_write 2 := ⟨⟨gtb_m (List.mem_of_getElem? (i := 933) (by decide +kernel)) rfl, in_X10, by decide +kernel⟩, gtb_m (List.mem_of_getElem? (i := 931) (by decide +kernel)) rfl, gtb_m (List.mem_of_getElem? (i := 932) (by decide +kernel)) rfl⟩
abbrev iX10_count : MI := (yX10_count, cX10_count, 2, (some .int))
theorem gm_X10_count : GmV iX10_count 1 := ⟨⟨gtb_m (List.mem_of_getElem? (i := 937) (by decide +kernel)) rfl, in_X10, by decide +kernel⟩, gtb_m (List.mem_of_getElem? (i := 935) (by decide +kernel)) rfl, gtb_m (List.mem_of_getElem? (i := 936) (by decide +kernel)) rfl⟩
abbrev iX10_digest : MI := (yX10_digest, cX10_digest, 4, (some .long))
theorem gm_X10_digest : GmV iX10_digest 0 := ⟨⟨gtb_m (List.mem_of_getElem? (i := 956) (by decide +kernel)) rfl, in_X10, by decide +kernel⟩, gtb_m (List.mem_of_getElem? (i := 954) (by decide +kernel)) rfl, gtb_m (List.mem_of_getElem? (i := 955) (by decide +kernel)) rfl⟩
abbrev iX10_mix : MI := (yX10_mix, cX10_mix, 4, (some .long))
theorem gm_X10_mix : GmS iX10_mix 2 := ⟨⟨gtb_m (List.mem_of_getElem? (i := 961) (by decide +kernel)) rfl, in_X10, by decide +kernel⟩, gtb_m (List.mem_of_getElem? (i := 960) (by decide +kernel)) rfl⟩
abbrev iX10_mixLanes : MI := (yX10_mixLanes, cX10_mixLanes, 7, (some .long))
theorem gm_X10_mixLanes : GmV iX10_mixLanes 1 := ⟨⟨gtb_m (List.mem_of_getElem? (i := 966) (by decide +kernel)) rfl, in_X10, by decide +kernel⟩, gtb_m (List.mem_of_getElem? (i := 965) (by decide +kernel)) rfl, gtb_m (List.mem_of_getElem? (i := 25) (by decide +kernel)) rfl⟩
abbrev iX10_mixDays : MI := (yX10_mixDays, cX10_mixDays, 5, (some .long))
theorem gm_X10_mixDays : GmV iX10_mixDays 1 := ⟨⟨gtb_m (List.mem_of_getElem? (i := 970) (by decide +kernel)) rfl, in_X10, by decide +kernel⟩, gtb_m (List.mem_of_getElem? (i := 969) (by decide +kernel)) rfl, gtb_m (List.mem_of_getElem? (i := 26) (by decide +kernel)) rfl⟩
abbrev iX10_mixOrder : MI := (yX10_mixOrder, cX10_mixOrder, 6, (some .long))
theorem gm_X10_mixOrder : GmV iX10_mixOrder 1 := ⟨⟨gtb_m (List.mem_of_getElem? (i := 974) (by decide +kernel)) rfl, in_X10, by decide +kernel⟩, gtb_m (List.mem_of_getElem? (i := 973) (by decide +kernel)) rfl, gtb_m (List.mem_of_getElem? (i := 27) (by decide +kernel)) rfl⟩
abbrev iX10_mixRaces : MI := (yX10_mixRaces, cX10_mixRaces, 6, (some .long))
theorem gm_X10_mixRaces : GmV iX10_mixRaces 1 := ⟨⟨gtb_m (List.mem_of_getElem? (i := 978) (by decide +kernel)) rfl, in_X10, by decide +kernel⟩, gtb_m (List.mem_of_getElem? (i := 977) (by decide +kernel)) rfl, gtb_m (List.mem_of_getElem? (i := 28) (by decide +kernel)) rfl⟩
abbrev iX10_mixSwims : MI := (yX10_mixSwims, cX10_mixSwims, 7, (some .long))
theorem gm_X10_mixSwims : GmV iX10_mixSwims 1 := ⟨⟨gtb_m (List.mem_of_getElem? (i := 982) (by decide +kernel)) rfl, in_X10, by decide +kernel⟩, gtb_m (List.mem_of_getElem? (i := 981) (by decide +kernel)) rfl, gtb_m (List.mem_of_getElem? (i := 29) (by decide +kernel)) rfl⟩
abbrev iX10_ofLane : MI := (yX10_ofLane, cX10_ofLane, 5, (some .long))
theorem gm_X10_ofLane : GmV iX10_ofLane 3 := ⟨⟨gtb_m (List.mem_of_getElem? (i := 591) (by decide +kernel)) rfl, in_X10, by decide +kernel⟩, gtb_m (List.mem_of_getElem? (i := 590) (by decide +kernel)) rfl, gtb_m (List.mem_of_getElem? (i := 3) (by decide +kernel)) rfl⟩
abbrev iX10_givenOf : MI := (yX10_givenOf, cX10_givenOf, 2, (some .int))
theorem gm_X10_givenOf : GmV iX10_givenOf 1 := ⟨⟨gtb_m (List.mem_of_getElem? (i := 810) (by decide +kernel)) rfl, in_X10, by decide +kernel⟩, gtb_m (List.mem_of_getElem? (i := 809) (by decide +kernel)) rfl, gtb_m (List.mem_of_getElem? (i := 20) (by decide +kernel)) rfl⟩
abbrev iX10_chanceOfTenths : MI := (yX10_chanceOfTenths, cX10_chanceOfTenths, 7, (some .int))
theorem gm_X10_chanceOfTenths : GmS iX10_chanceOfTenths 2 := ⟨⟨gtb_m (List.mem_of_getElem? (i := 845) (by decide +kernel)) rfl, in_X10, by decide +kernel⟩, gtb_m (List.mem_of_getElem? (i := 844) (by decide +kernel)) rfl⟩
abbrev iX10_power : MI := (yX10_power, cX10_power, 6, (some .long))
theorem gm_X10_power : GmS iX10_power 2 := ⟨⟨gtb_m (List.mem_of_getElem? (i := 849) (by decide +kernel)) rfl, in_X10, by decide +kernel⟩, gtb_m (List.mem_of_getElem? (i := 848) (by decide +kernel)) rfl⟩
abbrev iX10_within : MI := (yX10_within, cX10_within, 3, (some .boolean))
theorem gm_X10_within : GmS iX10_within 3 := ⟨⟨gtb_m (List.mem_of_getElem? (i := 432) (by decide +kernel)) rfl, in_X10, by decide +kernel⟩, gtb_m (List.mem_of_getElem? (i := 431) (by decide +kernel)) rfl⟩
abbrev iX10_isLane : MI := (yX10_isLane, cX10_isLane, 1, (some .boolean))
theorem gm_X10_isLane : GmS iX10_isLane 1 := ⟨⟨gtb_m (List.mem_of_getElem? (i := 453) (by decide +kernel)) rfl, in_X10, by decide +kernel⟩, gtb_m (List.mem_of_getElem? (i := 452) (by decide +kernel)) rfl⟩
abbrev iX10_isSwimmer : MI := (yX10_isSwimmer, cX10_isSwimmer, 1, (some .boolean))
theorem gm_X10_isSwimmer : GmS iX10_isSwimmer 1 := ⟨⟨gtb_m (List.mem_of_getElem? (i := 450) (by decide +kernel)) rfl, in_X10, by decide +kernel⟩, gtb_m (List.mem_of_getElem? (i := 449) (by decide +kernel)) rfl⟩
abbrev iX10_isDay : MI := (yX10_isDay, cX10_isDay, 1, (some .boolean))
theorem gm_X10_isDay : GmS iX10_isDay 1 := ⟨⟨gtb_m (List.mem_of_getElem? (i := 435) (by decide +kernel)) rfl, in_X10, by decide +kernel⟩, gtb_m (List.mem_of_getElem? (i := 434) (by decide +kernel)) rfl⟩
abbrev iX10_isSheet : MI := (yX10_isSheet, cX10_isSheet, 1, (some .boolean))
theorem gm_X10_isSheet : GmS iX10_isSheet 1 := ⟨⟨gtb_m (List.mem_of_getElem? (i := 491) (by decide +kernel)) rfl, in_X10, by decide +kernel⟩, gtb_m (List.mem_of_getElem? (i := 490) (by decide +kernel)) rfl⟩
abbrev iX10_isType : MI := (yX10_isType, cX10_isType, 1, (some .boolean))
theorem gm_X10_isType : GmS iX10_isType 1 := ⟨⟨gtb_m (List.mem_of_getElem? (i := 893) (by decide +kernel)) rfl, in_X10, by decide +kernel⟩, gtb_m (List.mem_of_getElem? (i := 892) (by decide +kernel)) rfl⟩
abbrev iX10_isText : MI := (yX10_isText, cX10_isText, 1, (some .boolean))
theorem gm_X10_isText : GmS iX10_isText 1 := ⟨⟨gtb_m (List.mem_of_getElem? (i := 736) (by decide +kernel)) rfl, in_X10, by decide +kernel⟩, gtb_m (List.mem_of_getElem? (i := 735) (by decide +kernel)) rfl⟩
abbrev iX10_isPart : MI := (yX10_isPart, cX10_isPart, 1, (some .boolean))
theorem gm_X10_isPart : GmS iX10_isPart 1 := ⟨⟨gtb_m (List.mem_of_getElem? (i := 522) (by decide +kernel)) rfl, in_X10, by decide +kernel⟩, gtb_m (List.mem_of_getElem? (i := 521) (by decide +kernel)) rfl⟩
abbrev iX10_mayBeRace : MI := (yX10_mayBeRace, cX10_mayBeRace, 2, (some .boolean))
theorem gm_X10_mayBeRace : GmS iX10_mayBeRace 2 := ⟨⟨gtb_m (List.mem_of_getElem? (i := 429) (by decide +kernel)) rfl, in_X10, by decide +kernel⟩, gtb_m (List.mem_of_getElem? (i := 428) (by decide +kernel)) rfl⟩
abbrev iX10_mayBeTime : MI := (yX10_mayBeTime, cX10_mayBeTime, 1, (some .boolean))
theorem gm_X10_mayBeTime : GmS iX10_mayBeTime 1 := ⟨⟨gtb_m (List.mem_of_getElem? (i := 476) (by decide +kernel)) rfl, in_X10, by decide +kernel⟩, gtb_m (List.mem_of_getElem? (i := 475) (by decide +kernel)) rfl⟩
abbrev iX10_refusal : MI := (yX10_refusal, cX10_refusal, 1, (some .long))
theorem gm_X10_refusal : GmS iX10_refusal 1 := ⟨⟨gtb_m (List.mem_of_getElem? (i := 525) (by decide +kernel)) rfl, in_X10, by decide +kernel⟩, gtb_m (List.mem_of_getElem? (i := 524) (by decide +kernel)) rfl⟩
abbrev iX10_found : MI := (yX10_found, cX10_found, 2, (some .int))
theorem gm_X10_found : GmV iX10_found 1 := ⟨⟨gtb_m (List.mem_of_getElem? (i := 495) (by decide +kernel)) rfl, in_X10, by decide +kernel⟩, gtb_m (List.mem_of_getElem? (i := 494) (by decide +kernel)) rfl, gtb_m (List.mem_of_getElem? (i := 0) (by decide +kernel)) rfl⟩
abbrev iX11_in : MI := (yX11_in, cX11_in, 3, (some .boolean))
theorem gm_X11_in : GmS iX11_in 3 := ⟨⟨gtb_m (List.mem_of_getElem? (i := 1098) (by decide +kernel)) rfl, in_X11, by decide +kernel⟩, gtb_m (List.mem_of_getElem? (i := 1097) (by decide +kernel)) rfl⟩
abbrev iX11_no : MI := (yX11_no, cX11_no, 1, (some .long))
theorem gm_X11_no : GmS iX11_no 1 := ⟨⟨gtb_m (List.mem_of_getElem? (i := 1165) (by decide +kernel)) rfl, in_X11, by decide +kernel⟩, gtb_m (List.mem_of_getElem? (i := 1164) (by decide +kernel)) rfl⟩
abbrev iX11_divisor : MI := (yX11_divisor, cX11_divisor, 10, (some .long))
theorem gm_X11_divisor : GmS iX11_divisor 2 := ⟨⟨gtb_m (List.mem_of_getElem? (i := 1189) (by decide +kernel)) rfl, in_X11, by decide +kernel⟩, gtb_m (List.mem_of_getElem? (i := 1188) (by decide +kernel)) rfl⟩
abbrev iX11_lowest : MI := (yX11_lowest, cX11_lowest, 7, (some .long))
theorem gm_X11_lowest : GmS iX11_lowest 3 := ⟨⟨gtb_m (List.mem_of_getElem? (i := 1186) (by decide +kernel)) rfl, in_X11, by decide +kernel⟩, gtb_m (List.mem_of_getElem? (i := 1185) (by decide +kernel)) rfl⟩
abbrev iX11_has : MI := (yX11_has, cX11_has, 2, (some .boolean))
theorem gm_X11_has : GmS iX11_has 2 := ⟨⟨gtb_m (List.mem_of_getElem? (i := 1301) (by decide +kernel)) rfl, in_X11, by decide +kernel⟩, gtb_m (List.mem_of_getElem? (i := 1300) (by decide +kernel)) rfl⟩
abbrev iX11_isRace : MI := (yX11_isRace, cX11_isRace, 2, (some .boolean))
theorem gm_X11_isRace : GmV iX11_isRace 1 := ⟨⟨gtb_m (List.mem_of_getElem? (i := 1110) (by decide +kernel)) rfl, in_X11, by decide +kernel⟩, gtb_m (List.mem_of_getElem? (i := 1109) (by decide +kernel)) rfl, gtb_m (List.mem_of_getElem? (i := 31) (by decide +kernel)) rfl⟩
abbrev iX11_isSwim : MI := (yX11_isSwim, cX11_isSwim, 2, (some .boolean))
theorem gm_X11_isSwim : GmV iX11_isSwim 1 := ⟨⟨gtb_m (List.mem_of_getElem? (i := 1128) (by decide +kernel)) rfl, in_X11, by decide +kernel⟩, gtb_m (List.mem_of_getElem? (i := 1127) (by decide +kernel)) rfl, gtb_m (List.mem_of_getElem? (i := 33) (by decide +kernel)) rfl⟩
abbrev iX11_isLane : MI := (yX11_isLane, cX11_isLane, 1, (some .boolean))
theorem gm_X11_isLane : GmS iX11_isLane 1 := ⟨⟨gtb_m (List.mem_of_getElem? (i := 1116) (by decide +kernel)) rfl, in_X11, by decide +kernel⟩, gtb_m (List.mem_of_getElem? (i := 1115) (by decide +kernel)) rfl⟩
abbrev iX11_isSwimmer : MI := (yX11_isSwimmer, cX11_isSwimmer, 1, (some .boolean))
theorem gm_X11_isSwimmer : GmS iX11_isSwimmer 1 := ⟨⟨gtb_m (List.mem_of_getElem? (i := 1113) (by decide +kernel)) rfl, in_X11, by decide +kernel⟩, gtb_m (List.mem_of_getElem? (i := 1112) (by decide +kernel)) rfl⟩
abbrev iX11_raceMore : MI := (yX11_raceMore, cX11_raceMore, 3, (some .int))
theorem gm_X11_raceMore : GmV iX11_raceMore 2 := ⟨⟨gtb_m (List.mem_of_getElem? (i := 1102) (by decide +kernel)) rfl, in_X11, by decide +kernel⟩, gtb_m (List.mem_of_getElem? (i := 1101) (by decide +kernel)) rfl, gtb_m (List.mem_of_getElem? (i := 30) (by decide +kernel)) rfl⟩
abbrev iX11_race : MI := (yX11_race, cX11_race, 3, (some .int))
theorem gm_X11_race : GmV iX11_race 2 := ⟨⟨gtb_m (List.mem_of_getElem? (i := 1095) (by decide +kernel)) rfl, in_X11, by decide +kernel⟩, gtb_m (List.mem_of_getElem? (i := 1093) (by decide +kernel)) rfl, gtb_m (List.mem_of_getElem? (i := 1094) (by decide +kernel)) rfl⟩
abbrev iX11_swimMore : MI := (yX11_swimMore, cX11_swimMore, 5, (some .int))
theorem gm_X11_swimMore : GmV iX11_swimMore 3 := ⟨⟨gtb_m (List.mem_of_getElem? (i := 1120) (by decide +kernel)) rfl, in_X11, by decide +kernel⟩, gtb_m (List.mem_of_getElem? (i := 1119) (by decide +kernel)) rfl, gtb_m (List.mem_of_getElem? (i := 32) (by decide +kernel)) rfl⟩
abbrev iX11_swim : MI := (yX11_swim, cX11_swim, 5, (some .int))
theorem gm_X11_swim : GmV iX11_swim 3 := ⟨⟨gtb_m (List.mem_of_getElem? (i := 1106) (by decide +kernel)) rfl, in_X11, by decide +kernel⟩, gtb_m (List.mem_of_getElem? (i := 1104) (by decide +kernel)) rfl, gtb_m (List.mem_of_getElem? (i := 1105) (by decide +kernel)) rfl⟩
abbrev iX11_isTime : MI := (yX11_isTime, cX11_isTime, 1, (some .boolean))
theorem gm_X11_isTime : GmS iX11_isTime 1 := ⟨⟨gtb_m (List.mem_of_getElem? (i := 1131) (by decide +kernel)) rfl, in_X11, by decide +kernel⟩, gtb_m (List.mem_of_getElem? (i := 1130) (by decide +kernel)) rfl⟩
abbrev iX11_time : MI := (yX11_time, cX11_time, 5, (some .int))
theorem gm_X11_time : GmV iX11_time 3 := ⟨⟨gtb_m (List.mem_of_getElem? (i := 1124) (by decide +kernel)) rfl, in_X11, by decide +kernel⟩, gtb_m (List.mem_of_getElem? (i := 1122) (by decide +kernel)) rfl, gtb_m (List.mem_of_getElem? (i := 1123) (by decide +kernel)) rfl⟩
abbrev iX11_read : MI := (yX11_read, cX11_read, 4, (some .int))
theorem gm_X11_read : GmV iX11_read 2 := ⟨⟨gtb_m (List.mem_of_getElem? (i := 1135) (by decide +kernel)) rfl, in_X11, by decide +kernel⟩, gtb_m (List.mem_of_getElem? (i := 1133) (by decide +kernel)) rfl, gtb_m (List.mem_of_getElem? (i := 1134) (by decide +kernel)) rfl⟩
abbrev iX11_seeds : MI := (yX11_seeds, cX11_seeds, 4, (some .int))
theorem gm_X11_seeds : GmV iX11_seeds 2 := ⟨⟨gtb_m (List.mem_of_getElem? (i := 1146) (by decide +kernel)) rfl, in_X11, by decide +kernel⟩, gtb_m (List.mem_of_getElem? (i := 1144) (by decide +kernel)) rfl, gtb_m (List.mem_of_getElem? (i := 1145) (by decide +kernel)) rfl⟩
abbrev iX11_feltOf : MI := (yX11_feltOf, cX11_feltOf, 4, (some .int))
theorem gm_X11_feltOf : GmV iX11_feltOf 1 := ⟨⟨gtb_m (List.mem_of_getElem? (i := 1154) (by decide +kernel)) rfl, in_X11, by decide +kernel⟩, gtb_m (List.mem_of_getElem? (i := 1153) (by decide +kernel)) rfl, gtb_m (List.mem_of_getElem? (i := 35) (by decide +kernel)) rfl⟩
abbrev iX11_totalOf : MI := (yX11_totalOf, cX11_totalOf, 4, (some .int))
theorem gm_X11_totalOf : GmV iX11_totalOf 1 := ⟨⟨gtb_m (List.mem_of_getElem? (i := 1158) (by decide +kernel)) rfl, in_X11, by decide +kernel⟩, gtb_m (List.mem_of_getElem? (i := 1157) (by decide +kernel)) rfl, gtb_m (List.mem_of_getElem? (i := 36) (by decide +kernel)) rfl⟩
abbrev iX11_about : MI := (yX11_about, cX11_about, 3, (some .int))
theorem gm_X11_about : GmV iX11_about 2 := ⟨⟨gtb_m (List.mem_of_getElem? (i := 1150) (by decide +kernel)) rfl, in_X11, by decide +kernel⟩, gtb_m (List.mem_of_getElem? (i := 1148) (by decide +kernel)) rfl, gtb_m (List.mem_of_getElem? (i := 1149) (by decide +kernel)) rfl⟩
abbrev iX11_feltOn : MI := (yX11_feltOn, cX11_feltOn, 5, (some .int))
theorem gm_X11_feltOn : GmV iX11_feltOn 2 := ⟨⟨gtb_m (List.mem_of_getElem? (i := 1174) (by decide +kernel)) rfl, in_X11, by decide +kernel⟩, gtb_m (List.mem_of_getElem? (i := 1173) (by decide +kernel)) rfl, gtb_m (List.mem_of_getElem? (i := 38) (by decide +kernel)) rfl⟩
abbrev iX11_twiceMean : MI := (yX11_twiceMean, cX11_twiceMean, 5, (some .int))
theorem gm_X11_twiceMean : GmV iX11_twiceMean 2 := ⟨⟨gtb_m (List.mem_of_getElem? (i := 1182) (by decide +kernel)) rfl, in_X11, by decide +kernel⟩, gtb_m (List.mem_of_getElem? (i := 1181) (by decide +kernel)) rfl, gtb_m (List.mem_of_getElem? (i := 40) (by decide +kernel)) rfl⟩
abbrev iX11_hasDiff : MI := (yX11_hasDiff, cX11_hasDiff, 2, (some .boolean))
theorem gm_X11_hasDiff : GmV iX11_hasDiff 1 := ⟨⟨gtb_m (List.mem_of_getElem? (i := 1170) (by decide +kernel)) rfl, in_X11, by decide +kernel⟩, gtb_m (List.mem_of_getElem? (i := 1169) (by decide +kernel)) rfl, gtb_m (List.mem_of_getElem? (i := 37) (by decide +kernel)) rfl⟩
abbrev iX11_twiceDiff : MI := (yX11_twiceDiff, cX11_twiceDiff, 2, (some .int))
theorem gm_X11_twiceDiff : GmV iX11_twiceDiff 1 := ⟨⟨gtb_m (List.mem_of_getElem? (i := 1178) (by decide +kernel)) rfl, in_X11, by decide +kernel⟩, gtb_m (List.mem_of_getElem? (i := 1177) (by decide +kernel)) rfl, gtb_m (List.mem_of_getElem? (i := 39) (by decide +kernel)) rfl⟩
abbrev iX11_diff : MI := (yX11_diff, cX11_diff, 3, (some .long))
theorem gm_X11_diff : GmV iX11_diff 2 := ⟨⟨gtb_m (List.mem_of_getElem? (i := 1162) (by decide +kernel)) rfl, in_X11, by decide +kernel⟩, gtb_m (List.mem_of_getElem? (i := 1160) (by decide +kernel)) rfl, gtb_m (List.mem_of_getElem? (i := 1161) (by decide +kernel)) rfl⟩
abbrev iX11_laysLanes : MI := (yX11_laysLanes, cX11_laysLanes, 2, none)
theorem gm_X11_laysLanes : GmV iX11_laysLanes 0 := ⟨⟨gtb_m (List.mem_of_getElem? (i := 1205) (by decide +kernel)) rfl, in_X11, by decide +kernel⟩, gtb_m (List.mem_of_getElem? (i := 1204) (by decide +kernel)) rfl, gtb_m (List.mem_of_getElem? (i := 43) (by decide +kernel)) rfl⟩
abbrev iX11_laysShape : MI := (yX11_laysShape, cX11_laysShape, 4, none)
theorem gm_X11_laysShape : GmV iX11_laysShape 0 := ⟨⟨gtb_m (List.mem_of_getElem? (i := 1201) (by decide +kernel)) rfl, in_X11, by decide +kernel⟩, gtb_m (List.mem_of_getElem? (i := 1200) (by decide +kernel)) rfl, gtb_m (List.mem_of_getElem? (i := 42) (by decide +kernel)) rfl⟩
abbrev iX11_joins : MI := (yX11_joins, cX11_joins, 16, none)
theorem gm_X11_joins : GmV iX11_joins 2 := ⟨⟨gtb_m (List.mem_of_getElem? (i := 1209) (by decide +kernel)) rfl, in_X11, by decide +kernel⟩, gtb_m (List.mem_of_getElem? (i := 1208) (by decide +kernel)) rfl, gtb_m (List.mem_of_getElem? (i := 44) (by decide +kernel)) rfl⟩
abbrev iX11_lays : MI := (yX11_lays, cX11_lays, 7, none)
theorem gm_X11_lays : GmV iX11_lays 2 := ⟨⟨gtb_m (List.mem_of_getElem? (i := 1217) (by decide +kernel)) rfl, in_X11, by decide +kernel⟩, gtb_m (List.mem_of_getElem? (i := 1216) (by decide +kernel)) rfl, gtb_m (List.mem_of_getElem? (i := 46) (by decide +kernel)) rfl⟩
abbrev iX11_adds : MI := (yX11_adds, cX11_adds, 5, none)
theorem gm_X11_adds : GmV iX11_adds 2 := ⟨⟨gtb_m (List.mem_of_getElem? (i := 1221) (by decide +kernel)) rfl, in_X11, by decide +kernel⟩, gtb_m (List.mem_of_getElem? (i := 1220) (by decide +kernel)) rfl, gtb_m (List.mem_of_getElem? (i := 47) (by decide +kernel)) rfl⟩
abbrev iX11_lanesMany : MI := (yX11_lanesMany, cX11_lanesMany, 3, (some .int))
theorem gm_X11_lanesMany : GmV iX11_lanesMany 0 := ⟨⟨gtb_m (List.mem_of_getElem? (i := 1225) (by decide +kernel)) rfl, in_X11, by decide +kernel⟩, gtb_m (List.mem_of_getElem? (i := 1224) (by decide +kernel)) rfl, gtb_m (List.mem_of_getElem? (i := 48) (by decide +kernel)) rfl⟩
abbrev iX11_laysLane : MI := (yX11_laysLane, cX11_laysLane, 4, none)
theorem gm_X11_laysLane : GmV iX11_laysLane 2 := ⟨⟨gtb_m (List.mem_of_getElem? (i := 1213) (by decide +kernel)) rfl, in_X11, by decide +kernel⟩, gtb_m (List.mem_of_getElem? (i := 1212) (by decide +kernel)) rfl, gtb_m (List.mem_of_getElem? (i := 45) (by decide +kernel)) rfl⟩
abbrev iX11_laneNow : MI := (yX11_laneNow, cX11_laneNow, 4, (some .long))
theorem gm_X11_laneNow : GmV iX11_laneNow 3 := ⟨⟨gtb_m (List.mem_of_getElem? (i := 1197) (by decide +kernel)) rfl, in_X11, by decide +kernel⟩, gtb_m (List.mem_of_getElem? (i := 1196) (by decide +kernel)) rfl, gtb_m (List.mem_of_getElem? (i := 41) (by decide +kernel)) rfl⟩
abbrev iX11_lane : MI := (yX11_lane, cX11_lane, 4, (some .long))
theorem gm_X11_lane : GmV iX11_lane 3 := ⟨⟨gtb_m (List.mem_of_getElem? (i := 1193) (by decide +kernel)) rfl, in_X11, by decide +kernel⟩, gtb_m (List.mem_of_getElem? (i := 1191) (by decide +kernel)) rfl, gtb_m (List.mem_of_getElem? (i := 1192) (by decide +kernel)) rfl⟩
abbrev iX11_countsNow : MI := (yX11_countsNow, cX11_countsNow, 2, (some .int))
theorem gm_X11_countsNow : GmV iX11_countsNow 1 := ⟨⟨gtb_m (List.mem_of_getElem? (i := 1233) (by decide +kernel)) rfl, in_X11, by decide +kernel⟩, gtb_m (List.mem_of_getElem? (i := 1232) (by decide +kernel)) rfl, gtb_m (List.mem_of_getElem? (i := 49) (by decide +kernel)) rfl⟩
abbrev iX11_counts : MI := (yX11_counts, cX11_counts, 2, (some .int))
theorem gm_X11_counts : GmV iX11_counts 1 := ⟨⟨gtb_m (List.mem_of_getElem? (i := 1229) (by decide +kernel)) rfl, in_X11, by decide +kernel⟩, gtb_m (List.mem_of_getElem? (i := 1227) (by decide +kernel)) rfl, gtb_m (List.mem_of_getElem? (i := 1228) (by decide +kernel)) rfl⟩
abbrev iX11_leanNow : MI := (yX11_leanNow, cX11_leanNow, 7, (some .int))
theorem gm_X11_leanNow : GmV iX11_leanNow 2 := ⟨⟨gtb_m (List.mem_of_getElem? (i := 1241) (by decide +kernel)) rfl, in_X11, by decide +kernel⟩, gtb_m (List.mem_of_getElem? (i := 1240) (by decide +kernel)) rfl, gtb_m (List.mem_of_getElem? (i := 50) (by decide +kernel)) rfl⟩
abbrev iX11_lean : MI := (yX11_lean, cX11_lean, 3, (some .int))
theorem gm_X11_lean : GmV iX11_lean 2 := ⟨⟨gtb_m (List.mem_of_getElem? (i := 1237) (by decide +kernel)) rfl, in_X11, by decide +kernel⟩, gtb_m (List.mem_of_getElem? (i := 1235) (by decide +kernel)) rfl, gtb_m (List.mem_of_getElem? (i := 1236) (by decide +kernel)) rfl⟩
abbrev iX11_turns : MI := (yX11_turns, cX11_turns, 7, (some .boolean))
theorem gm_X11_turns : GmV iX11_turns 1 := ⟨⟨gtb_m (List.mem_of_getElem? (i := 1253) (by decide +kernel)) rfl, in_X11, by decide +kernel⟩, gtb_m (List.mem_of_getElem? (i := 1252) (by decide +kernel)) rfl, gtb_m (List.mem_of_getElem? (i := 52) (by decide +kernel)) rfl⟩
abbrev iX11_chanceNow : MI := (yX11_chanceNow, cX11_chanceNow, 15, (some .int))
theorem gm_X11_chanceNow : GmV iX11_chanceNow 0 := ⟨⟨gtb_m (List.mem_of_getElem? (i := 1249) (by decide +kernel)) rfl, in_X11, by decide +kernel⟩, gtb_m (List.mem_of_getElem? (i := 1248) (by decide +kernel)) rfl, gtb_m (List.mem_of_getElem? (i := 51) (by decide +kernel)) rfl⟩
abbrev iX11_chance : MI := (yX11_chance, cX11_chance, 1, (some .int))
theorem gm_X11_chance : GmV iX11_chance 0 := ⟨⟨gtb_m (List.mem_of_getElem? (i := 1245) (by decide +kernel)) rfl, in_X11, by decide +kernel⟩, gtb_m (List.mem_of_getElem? (i := 1243) (by decide +kernel)) rfl, gtb_m (List.mem_of_getElem? (i := 1244) (by decide +kernel)) rfl⟩
abbrev iX11_ranNow : MI := (yX11_ranNow, cX11_ranNow, 7, (some .int))
theorem gm_X11_ranNow : GmV iX11_ranNow 1 := ⟨⟨gtb_m (List.mem_of_getElem? (i := 1262) (by decide +kernel)) rfl, in_X11, by decide +kernel⟩, gtb_m (List.mem_of_getElem? (i := 1261) (by decide +kernel)) rfl, gtb_m (List.mem_of_getElem? (i := 53) (by decide +kernel)) rfl⟩
abbrev iX11_ran : MI := (yX11_ran, cX11_ran, 2, (some .int))
theorem gm_X11_ran : GmV iX11_ran 1 := ⟨⟨gtb_m (List.mem_of_getElem? (i := 1258) (by decide +kernel)) rfl, in_X11, by decide +kernel⟩, gtb_m (List.mem_of_getElem? (i := 1256) (by decide +kernel)) rfl, gtb_m (List.mem_of_getElem? (i := 1257) (by decide +kernel)) rfl⟩
abbrev iX11_laysOwn : MI := (yX11_laysOwn, cX11_laysOwn, 5, (some .boolean))
theorem gm_X11_laysOwn : GmV iX11_laysOwn 1 := ⟨⟨gtb_m (List.mem_of_getElem? (i := 1270) (by decide +kernel)) rfl, in_X11, by decide +kernel⟩, gtb_m (List.mem_of_getElem? (i := 1269) (by decide +kernel)) rfl, gtb_m (List.mem_of_getElem? (i := 54) (by decide +kernel)) rfl⟩
abbrev iX11_own : MI := (yX11_own, cX11_own, 3, (some .long))
theorem gm_X11_own : GmV iX11_own 2 := ⟨⟨gtb_m (List.mem_of_getElem? (i := 1266) (by decide +kernel)) rfl, in_X11, by decide +kernel⟩, gtb_m (List.mem_of_getElem? (i := 1264) (by decide +kernel)) rfl, gtb_m (List.mem_of_getElem? (i := 1265) (by decide +kernel)) rfl⟩
abbrev iX11_fast : MI := (yX11_fast, cX11_fast, 4, (some .int))
theorem gm_X11_fast : GmV iX11_fast 1 := ⟨⟨gtb_m (List.mem_of_getElem? (i := 1274) (by decide +kernel)) rfl, in_X11, by decide +kernel⟩, gtb_m (List.mem_of_getElem? (i := 1272) (by decide +kernel)) rfl, gtb_m (List.mem_of_getElem? (i := 1273) (by decide +kernel)) rfl⟩
abbrev iX11_isSingle : MI := (yX11_isSingle, cX11_isSingle, 2, (some .boolean))
theorem gm_X11_isSingle : GmV iX11_isSingle 1 := ⟨⟨gtb_m (List.mem_of_getElem? (i := 1286) (by decide +kernel)) rfl, in_X11, by decide +kernel⟩, gtb_m (List.mem_of_getElem? (i := 1285) (by decide +kernel)) rfl, gtb_m (List.mem_of_getElem? (i := 56) (by decide +kernel)) rfl⟩
abbrev iX11_twiceNow : MI := (yX11_twiceNow, cX11_twiceNow, 7, (some .int))
theorem gm_X11_twiceNow : GmV iX11_twiceNow 2 := ⟨⟨gtb_m (List.mem_of_getElem? (i := 1282) (by decide +kernel)) rfl, in_X11, by decide +kernel⟩, gtb_m (List.mem_of_getElem? (i := 1281) (by decide +kernel)) rfl, gtb_m (List.mem_of_getElem? (i := 55) (by decide +kernel)) rfl⟩
abbrev iX11_twice : MI := (yX11_twice, cX11_twice, 3, (some .int))
theorem gm_X11_twice : GmV iX11_twice 2 := ⟨⟨gtb_m (List.mem_of_getElem? (i := 1278) (by decide +kernel)) rfl, in_X11, by decide +kernel⟩, gtb_m (List.mem_of_getElem? (i := 1276) (by decide +kernel)) rfl, gtb_m (List.mem_of_getElem? (i := 1277) (by decide +kernel)) rfl⟩
abbrev iX11_gain : MI := (yX11_gain, cX11_gain, 5, (some .int))
theorem gm_X11_gain : GmV iX11_gain 2 := ⟨⟨gtb_m (List.mem_of_getElem? (i := 1305) (by decide +kernel)) rfl, in_X11, by decide +kernel⟩, gtb_m (List.mem_of_getElem? (i := 1304) (by decide +kernel)) rfl, gtb_m (List.mem_of_getElem? (i := 59) (by decide +kernel)) rfl⟩
abbrev iX11_orders : MI := (yX11_orders, cX11_orders, 5, none)
theorem gm_X11_orders : GmV iX11_orders 0 := ⟨⟨gtb_m (List.mem_of_getElem? (i := 1298) (by decide +kernel)) rfl, in_X11, by decide +kernel⟩, gtb_m (List.mem_of_getElem? (i := 1297) (by decide +kernel)) rfl, gtb_m (List.mem_of_getElem? (i := 58) (by decide +kernel)) rfl⟩
abbrev iX11_orderNow : MI := (yX11_orderNow, cX11_orderNow, 6, (some .int))
theorem gm_X11_orderNow : GmV iX11_orderNow 1 := ⟨⟨gtb_m (List.mem_of_getElem? (i := 1294) (by decide +kernel)) rfl, in_X11, by decide +kernel⟩, gtb_m (List.mem_of_getElem? (i := 1293) (by decide +kernel)) rfl, gtb_m (List.mem_of_getElem? (i := 57) (by decide +kernel)) rfl⟩
abbrev iX11_order : MI := (yX11_order, cX11_order, 2, (some .int))
theorem gm_X11_order : GmV iX11_order 1 := ⟨⟨gtb_m (List.mem_of_getElem? (i := 1290) (by decide +kernel)) rfl, in_X11, by decide +kernel⟩, gtb_m (List.mem_of_getElem? (i := 1288) (by decide +kernel)) rfl, gtb_m (List.mem_of_getElem? (i := 1289) (by decide +kernel)) rfl⟩
abbrev iX11_laysRight : MI := (yX11_laysRight, cX11_laysRight, 4, none)
theorem gm_X11_laysRight : GmV iX11_laysRight 1 := ⟨⟨gtb_m (List.mem_of_getElem? (i := 1313) (by decide +kernel)) rfl, in_X11, by decide +kernel⟩, gtb_m (List.mem_of_getElem? (i := 1312) (by decide +kernel)) rfl, gtb_m (List.mem_of_getElem? (i := 60) (by decide +kernel)) rfl⟩
abbrev iX11_right : MI := (yX11_right, cX11_right, 3, (some .long))
theorem gm_X11_right : GmV iX11_right 2 := ⟨⟨gtb_m (List.mem_of_getElem? (i := 1309) (by decide +kernel)) rfl, in_X11, by decide +kernel⟩, gtb_m (List.mem_of_getElem? (i := 1307) (by decide +kernel)) rfl, gtb_m (List.mem_of_getElem? (i := 1308) (by decide +kernel)) rfl⟩
abbrev iX11_isRightLess : MI := (yX11_isRightLess, cX11_isRightLess, 9, (some .boolean))
theorem gm_X11_isRightLess : GmV iX11_isRightLess 2 := ⟨⟨gtb_m (List.mem_of_getElem? (i := 1326) (by decide +kernel)) rfl, in_X11, by decide +kernel⟩, gtb_m (List.mem_of_getElem? (i := 1325) (by decide +kernel)) rfl, gtb_m (List.mem_of_getElem? (i := 62) (by decide +kernel)) rfl⟩
abbrev iX11_placeNow : MI := (yX11_placeNow, cX11_placeNow, 5, (some .int))
theorem gm_X11_placeNow : GmV iX11_placeNow 2 := ⟨⟨gtb_m (List.mem_of_getElem? (i := 1322) (by decide +kernel)) rfl, in_X11, by decide +kernel⟩, gtb_m (List.mem_of_getElem? (i := 1321) (by decide +kernel)) rfl, gtb_m (List.mem_of_getElem? (i := 61) (by decide +kernel)) rfl⟩
abbrev iX11_place : MI := (yX11_place, cX11_place, 3, (some .int))
theorem gm_X11_place : GmV iX11_place 2 := ⟨⟨gtb_m (List.mem_of_getElem? (i := 1318) (by decide +kernel)) rfl, in_X11, by decide +kernel⟩, gtb_m (List.mem_of_getElem? (i := 1316) (by decide +kernel)) rfl, gtb_m (List.mem_of_getElem? (i := 1317) (by decide +kernel)) rfl⟩
abbrev iX11_medalsNow : MI := (yX11_medalsNow, cX11_medalsNow, 4, (some .int))
theorem gm_X11_medalsNow : GmV iX11_medalsNow 1 := ⟨⟨gtb_m (List.mem_of_getElem? (i := 1334) (by decide +kernel)) rfl, in_X11, by decide +kernel⟩, gtb_m (List.mem_of_getElem? (i := 1333) (by decide +kernel)) rfl, gtb_m (List.mem_of_getElem? (i := 63) (by decide +kernel)) rfl⟩
abbrev iX11_medals : MI := (yX11_medals, cX11_medals, 2, (some .int))
theorem gm_X11_medals : GmV iX11_medals 1 := ⟨⟨gtb_m (List.mem_of_getElem? (i := 1330) (by decide +kernel)) rfl, in_X11, by decide +kernel⟩, gtb_m (List.mem_of_getElem? (i := 1328) (by decide +kernel)) rfl, gtb_m (List.mem_of_getElem? (i := 1329) (by decide +kernel)) rfl⟩
abbrev iX11_isText : MI := (yX11_isText, cX11_isText, 1, (some .boolean))
theorem gm_X11_isText : GmS iX11_isText 1 := ⟨⟨gtb_m (List.mem_of_getElem? (i := 1341) (by decide +kernel)) rfl, in_X11, by decide +kernel⟩, gtb_m (List.mem_of_getElem? (i := 1340) (by decide +kernel)) rfl⟩
abbrev iX11_type : MI := (yX11_type, cX11_type, 3, (some .int))
theorem gm_X11_type : GmV iX11_type 2 := ⟨⟨gtb_m (List.mem_of_getElem? (i := 1338) (by decide +kernel)) rfl, in_X11, by decide +kernel⟩, gtb_m (List.mem_of_getElem? (i := 1336) (by decide +kernel)) rfl, gtb_m (List.mem_of_getElem? (i := 1337) (by decide +kernel)) rfl⟩
abbrev iX11_wipe : MI := (yX11_wipe, cX11_wipe, 3, (some .int))
theorem gm_X11_wipe : GmV iX11_wipe 1 := ⟨⟨gtb_m (List.mem_of_getElem? (i := 1345) (by decide +kernel)) rfl, in_X11, by decide +kernel⟩, gtb_m (List.mem_of_getElem? (i := 1343) (by decide +kernel)) rfl, gtb_m (List.mem_of_getElem? (i := 1344) (by decide +kernel)) rfl⟩
abbrev iX11_ruleFault : MI := (yX11_ruleFault, cX11_ruleFault, 4, (some .int))
theorem gm_X11_ruleFault : GmV iX11_ruleFault 0 := ⟨⟨gtb_m (List.mem_of_getElem? (i := 1353) (by decide +kernel)) rfl, in_X11, by decide +kernel⟩, gtb_m (List.mem_of_getElem? (i := 1352) (by decide +kernel)) rfl, gtb_m (List.mem_of_getElem? (i := 64) (by decide +kernel)) rfl⟩
abbrev iX11_byteNow : MI := (yX11_byteNow, cX11_byteNow, 1, (some .int))
theorem gm_X11_byteNow : GmV iX11_byteNow 0 := ⟨⟨gtb_m (List.mem_of_getElem? (i := 1369) (by decide +kernel)) rfl, in_X11, by decide +kernel⟩, gtb_m (List.mem_of_getElem? (i := 1368) (by decide +kernel)) rfl, gtb_m (List.mem_of_getElem? (i := 68) (by decide +kernel)) rfl⟩
abbrev iX11_expects : MI := (yX11_expects, cX11_expects, 2, none)
theorem gm_X11_expects : GmV iX11_expects 1 := ⟨⟨gtb_m (List.mem_of_getElem? (i := 1373) (by decide +kernel)) rfl, in_X11, by decide +kernel⟩, gtb_m (List.mem_of_getElem? (i := 1372) (by decide +kernel)) rfl, gtb_m (List.mem_of_getElem? (i := 69) (by decide +kernel)) rfl⟩
abbrev iX11_number : MI := (yX11_number, cX11_number, 4, (some .int))
theorem gm_X11_number : GmV iX11_number 1 := ⟨⟨gtb_m (List.mem_of_getElem? (i := 1377) (by decide +kernel)) rfl, in_X11, by decide +kernel⟩, gtb_m (List.mem_of_getElem? (i := 1376) (by decide +kernel)) rfl, gtb_m (List.mem_of_getElem? (i := 70) (by decide +kernel)) rfl⟩
abbrev iX11_part : MI := (yX11_part, cX11_part, 5, none)
theorem gm_X11_part : GmV iX11_part 0 := ⟨⟨gtb_m (List.mem_of_getElem? (i := 1365) (by decide +kernel)) rfl, in_X11, by decide +kernel⟩, gtb_m (List.mem_of_getElem? (i := 1364) (by decide +kernel)) rfl, gtb_m (List.mem_of_getElem? (i := 67) (by decide +kernel)) rfl⟩
abbrev iX11_plain : MI := (yX11_plain, cX11_plain, 2, none)
theorem gm_X11_plain : GmV iX11_plain 0 := ⟨⟨gtb_m (List.mem_of_getElem? (i := 1361) (by decide +kernel)) rfl, in_X11, by decide +kernel⟩, gtb_m (List.mem_of_getElem? (i := 1360) (by decide +kernel)) rfl, gtb_m (List.mem_of_getElem? (i := 66) (by decide +kernel)) rfl⟩
abbrev iX11_worldFault : MI := (yX11_worldFault, cX11_worldFault, 2, (some .int))
theorem gm_X11_worldFault : GmV iX11_worldFault 0 := ⟨⟨gtb_m (List.mem_of_getElem? (i := 1357) (by decide +kernel)) rfl, in_X11, by decide +kernel⟩, gtb_m (List.mem_of_getElem? (i := 1356) (by decide +kernel)) rfl, gtb_m (List.mem_of_getElem? (i := 65) (by decide +kernel)) rfl⟩
abbrev iX11_fault : MI := (yX11_fault, cX11_fault, 2, (some .int))
theorem gm_X11_fault : GmV iX11_fault 1 := ⟨⟨gtb_m (List.mem_of_getElem? (i := 1349) (by decide +kernel)) rfl, in_X11, by decide +kernel⟩, gtb_m (List.mem_of_getElem? (i := 1347) (by decide +kernel)) rfl, gtb_m (List.mem_of_getElem? (i := 1348) (by decide +kernel)) rfl⟩
abbrev iX11_isBetter : MI := (yX11_isBetter, cX11_isBetter, 3, (some .boolean))
theorem gm_X11_isBetter : GmV iX11_isBetter 2 := ⟨⟨gtb_m (List.mem_of_getElem? (i := 1389) (by decide +kernel)) rfl, in_X11, by decide +kernel⟩, gtb_m (List.mem_of_getElem? (i := 1388) (by decide +kernel)) rfl, gtb_m (List.mem_of_getElem? (i := 72) (by decide +kernel)) rfl⟩
abbrev iX11_givenNow : MI := (yX11_givenNow, cX11_givenNow, 5, (some .int))
theorem gm_X11_givenNow : GmV iX11_givenNow 1 := ⟨⟨gtb_m (List.mem_of_getElem? (i := 1385) (by decide +kernel)) rfl, in_X11, by decide +kernel⟩, gtb_m (List.mem_of_getElem? (i := 1384) (by decide +kernel)) rfl, gtb_m (List.mem_of_getElem? (i := 71) (by decide +kernel)) rfl⟩
abbrev iX11_given : MI := (yX11_given, cX11_given, 2, (some .int))
theorem gm_X11_given : GmV iX11_given 1 := ⟨⟨gtb_m (List.mem_of_getElem? (i := 1381) (by decide +kernel)) rfl, in_X11, by decide +kernel⟩, gtb_m (List.mem_of_getElem? (i := 1379) (by decide +kernel)) rfl, gtb_m (List.mem_of_getElem? (i := 1380) (by decide +kernel)) rfl⟩
abbrev iX11_tenthsNow : MI := (yX11_tenthsNow, cX11_tenthsNow, 15, (some .int))
theorem gm_X11_tenthsNow : GmV iX11_tenthsNow 2 := ⟨⟨gtb_m (List.mem_of_getElem? (i := 1397) (by decide +kernel)) rfl, in_X11, by decide +kernel⟩, gtb_m (List.mem_of_getElem? (i := 1396) (by decide +kernel)) rfl, gtb_m (List.mem_of_getElem? (i := 73) (by decide +kernel)) rfl⟩
abbrev iX11_tenths : MI := (yX11_tenths, cX11_tenths, 3, (some .int))
theorem gm_X11_tenths : GmV iX11_tenths 2 := ⟨⟨gtb_m (List.mem_of_getElem? (i := 1393) (by decide +kernel)) rfl, in_X11, by decide +kernel⟩, gtb_m (List.mem_of_getElem? (i := 1391) (by decide +kernel)) rfl, gtb_m (List.mem_of_getElem? (i := 1392) (by decide +kernel)) rfl⟩
abbrev iX11_worldNow : MI := (yX11_worldNow, cX11_worldNow, 3, (some .int))
theorem gm_X11_worldNow : GmV iX11_worldNow 1 := ⟨⟨gtb_m (List.mem_of_getElem? (i := 1407) (by decide +kernel)) rfl, in_X11, by decide +kernel⟩, gtb_m (List.mem_of_getElem? (i := 1406) (by decide +kernel)) rfl, gtb_m (List.mem_of_getElem? (i := 74) (by decide +kernel)) rfl⟩
abbrev iX11_world : MI := (yX11_world, cX11_world, 2, (some .int))
theorem gm_X11_world : GmV iX11_world 1 := ⟨⟨gtb_m (List.mem_of_getElem? (i := 1403) (by decide +kernel)) rfl, in_X11, by decide +kernel⟩, gtb_m (List.mem_of_getElem? (i := 1401) (by decide +kernel)) rfl, gtb_m (List.mem_of_getElem? (i := 1402) (by decide +kernel)) rfl⟩
abbrev iX11_lot : MI := (yX11_lot, cX11_lot, 2, (some .int))
theorem gm_X11_lot : GmV iX11_lot 1 := ⟨⟨gtb_m (List.mem_of_getElem? (i := 1415) (by decide +kernel)) rfl, in_X11, by decide +kernel⟩, gtb_m (List.mem_of_getElem? (i := 1414) (by decide +kernel)) rfl, gtb_m (List.mem_of_getElem? (i := 75) (by decide +kernel)) rfl⟩
abbrev iX11_made : MI := (yX11_made, cX11_made, 15, (some .int))
theorem gm_X11_made : GmV iX11_made 5 := ⟨⟨gtb_m (List.mem_of_getElem? (i := 1411) (by decide +kernel)) rfl, in_X11, by decide +kernel⟩, gtb_m (List.mem_of_getElem? (i := 1409) (by decide +kernel)) rfl, gtb_m (List.mem_of_getElem? (i := 1410) (by decide +kernel)) rfl⟩
abbrev iX11_meets : MI := (yX11_meets, cX11_meets, 2, (some .int))
theorem gm_X11_meets : GmV iX11_meets 1 := ⟨⟨gtb_m (List.mem_of_getElem? (i := 1142) (by decide +kernel)) rfl, in_X11, by decide +kernel⟩, gtb_m (List.mem_of_getElem? (i := 1141) (by decide +kernel)) rfl, gtb_m (List.mem_of_getElem? (i := 34) (by decide +kernel)) rfl⟩
abbrev iX11_isSheet : MI := (yX11_isSheet, cX11_isSheet, 1, (some .boolean))
theorem gm_X11_isSheet : GmS iX11_isSheet 1 := ⟨⟨gtb_m (List.mem_of_getElem? (i := 1138) (by decide +kernel)) rfl, in_X11, by decide +kernel⟩, gtb_m (List.mem_of_getElem? (i := 1137) (by decide +kernel)) rfl⟩
abbrev iX11_sheet : MI := (yX11_sheet, cX11_sheet, 5, (some .int))
theorem gm_X11_sheet : GmV iX11_sheet 3 := ⟨⟨gtb_m (List.mem_of_getElem? (i := 1420) (by decide +kernel)) rfl, in_X11, by decide +kernel⟩, gtb_m (List.mem_of_getElem? (i := 1418) (by decide +kernel)) rfl, gtb_m (List.mem_of_getElem? (i := 1419) (by decide +kernel)) rfl⟩
abbrev iX11_lose : MI := (yX11_lose, cX11_lose, 2, (some .int))
theorem gm_X11_lose : GmV iX11_lose 1 := ⟨⟨gtb_m (List.mem_of_getElem? (i := 1424) (by decide +kernel)) rfl, in_X11, by decide +kernel⟩, gtb_m (List.mem_of_getElem? (i := 1422) (by decide +kernel)) rfl, gtb_m (List.mem_of_getElem? (i := 1423) (by decide +kernel)) rfl⟩
abbrev iX11_lacks : MI := (yX11_lacks, cX11_lacks, 4, (some .int))
theorem gm_X11_lacks : GmV iX11_lacks 3 := ⟨⟨gtb_m (List.mem_of_getElem? (i := 1432) (by decide +kernel)) rfl, in_X11, by decide +kernel⟩, gtb_m (List.mem_of_getElem? (i := 1431) (by decide +kernel)) rfl, gtb_m (List.mem_of_getElem? (i := 76) (by decide +kernel)) rfl⟩
abbrev iX11_keep : MI := (yX11_keep, cX11_keep, 4, none)
theorem gm_X11_keep : GmV iX11_keep 3 := ⟨⟨gtb_m (List.mem_of_getElem? (i := 1436) (by decide +kernel)) rfl, in_X11, by decide +kernel⟩, gtb_m (List.mem_of_getElem? (i := 1435) (by decide +kernel)) rfl, gtb_m (List.mem_of_getElem? (i := 77) (by decide +kernel)) rfl⟩
abbrev iX11_put : MI := (yX11_put, cX11_put, 6, (some .int))
theorem gm_X11_put : GmV iX11_put 4 := ⟨⟨gtb_m (List.mem_of_getElem? (i := 1428) (by decide +kernel)) rfl, in_X11, by decide +kernel⟩, gtb_m (List.mem_of_getElem? (i := 1426) (by decide +kernel)) rfl, gtb_m (List.mem_of_getElem? (i := 1427) (by decide +kernel)) rfl⟩
abbrev iX11_get : MI := (yX11_get, cX11_get, 5, (some .int))
theorem gm_X11_get : GmV iX11_get 3 := ⟨⟨gtb_m (List.mem_of_getElem? (i := 1440) (by decide +kernel)) rfl, in_X11, by decide +kernel⟩, gtb_m (List.mem_of_getElem? (i := 1438) (by decide +kernel)) rfl, gtb_m (List.mem_of_getElem? (i := 1439) (by decide +kernel)) rfl⟩
abbrev iX11_copy : MI := (yX11_copy, cX11_copy, 7, (some .int))
theorem gm_X11_copy : GmV iX11_copy 5 := ⟨⟨gtb_m (List.mem_of_getElem? (i := 1445) (by decide +kernel)) rfl, in_X11, by decide +kernel⟩, gtb_m (List.mem_of_getElem? (i := 1443) (by decide +kernel)) rfl, gtb_m (List.mem_of_getElem? (i := 1444) (by decide +kernel)) rfl⟩
abbrev iX11_write : MI := (yX11_write, cX11_write, 4, (some .int))
theorem gm_X11_write : GmV iX11_write 2 := ⟨⟨gtb_m (List.mem_of_getElem? (i := 1449) (by decide +kernel)) rfl, in_X11, by decide +kernel⟩, gtb_m (List.mem_of_getElem? (i := 1447) (by decide +kernel)) rfl, gtb_m (List.mem_of_getElem? (i := 1448) (by decide +kernel)) rfl⟩
abbrev iX11_countNow : MI := (yX11_countNow, cX11_countNow, 4, (some .int))
theorem gm_X11_countNow : GmV iX11_countNow 1 := ⟨⟨gtb_m (List.mem_of_getElem? (i := 1457) (by decide +kernel)) rfl, in_X11, by decide +kernel⟩, gtb_m (List.mem_of_getElem? (i := 1456) (by decide +kernel)) rfl, gtb_m (List.mem_of_getElem? (i := 78) (by decide +kernel)) rfl⟩
abbrev iX11_count : MI := (yX11_count, cX11_count, 2, (some .int))
theorem gm_X11_count : GmV iX11_count 1 := ⟨⟨gtb_m (List.mem_of_getElem? (i := 1453) (by decide +kernel)) rfl, in_X11, by decide +kernel⟩, gtb_m (List.mem_of_getElem? (i := 1451) (by decide +kernel)) rfl, gtb_m (List.mem_of_getElem? (i := 1452) (by decide +kernel)) rfl⟩
abbrev iX11_digest : MI := (yX11_digest, cX11_digest, 5, (some .long))
theorem gm_X11_digest : GmV iX11_digest 0 := ⟨⟨gtb_m (List.mem_of_getElem? (i := 1461) (by decide +kernel)) rfl, in_X11, by decide +kernel⟩, gtb_m (List.mem_of_getElem? (i := 1459) (by decide +kernel)) rfl, gtb_m (List.mem_of_getElem? (i := 1460) (by decide +kernel)) rfl⟩
abbrev iJ6_compare_7cf53 : MI := (yJ6_compare_7cf53, cJ6_compare_7cf53, 2, (some .int))
theorem gm_J6_compare_7cf53 : GmS iJ6_compare_7cf53 2 := ⟨⟨gtb_m (List.mem_of_getElem? (i := 614) (by decide +kernel)) rfl, in_J6, by decide +kernel⟩, gtb_m (List.mem_of_getElem? (i := 613) (by decide +kernel)) rfl⟩
abbrev iJ9_abs_067f4 : MI := (yJ9_abs_067f4, cJ9_abs_067f4, 2, (some .long))
theorem gm_J9_abs_067f4 : GmS iJ9_abs_067f4 1 := ⟨⟨gtb_m (List.mem_of_getElem? (i := 546) (by decide +kernel)) rfl, in_J9, by decide +kernel⟩, gtb_m (List.mem_of_getElem? (i := 545) (by decide +kernel)) rfl⟩
abbrev iJ9_max_7cf53 : MI := (yJ9_max_7cf53, cJ9_max_7cf53, 2, (some .int))
theorem gm_J9_max_7cf53 : GmS iJ9_max_7cf53 2 := ⟨⟨gtb_m (List.mem_of_getElem? (i := 209) (by decide +kernel)) rfl, in_J9, by decide +kernel⟩, gtb_m (List.mem_of_getElem? (i := 208) (by decide +kernel)) rfl⟩
abbrev iJ9_min_7cf53 : MI := (yJ9_min_7cf53, cJ9_min_7cf53, 2, (some .int))
theorem gm_J9_min_7cf53 : GmS iJ9_min_7cf53 2 := ⟨⟨gtb_m (List.mem_of_getElem? (i := 498) (by decide +kernel)) rfl, in_J9, by decide +kernel⟩, gtb_m (List.mem_of_getElem? (i := 497) (by decide +kernel)) rfl⟩
end
section
/-! Math.max, min, abs -/
def mxI (x y : Int32) : Int32 := if x < y then y else x
def mnI (x y : Int32) : Int32 := if y < x then y else x
def abL (x : Int64) : Int64 := if 0 < x then x else -x
theorem z_ini : Cond.initialized "java/lang/Math" ∈ gtb := gtb_m (List.mem_of_getElem? (i := 84) (by decide +kernel)) rfl
theorem z_mxs : Cond.static Lib.Math.max.name ∈ gtb := gtb_m (List.mem_of_getElem? (i := 208) (by decide +kernel)) rfl
theorem z_mxc : Cond.code Lib.Math.max.name Lib.Math.max.code 2 (some .int) ∈ gtb := gtb_m (List.mem_of_getElem? (i := 209) (by decide +kernel)) rfl
theorem z_mns : Cond.static Lib.Math.min.name ∈ gtb := gtb_m (List.mem_of_getElem? (i := 497) (by decide +kernel)) rfl
theorem z_mnc : Cond.code Lib.Math.min.name Lib.Math.min.code 2 (some .int) ∈ gtb := gtb_m (List.mem_of_getElem? (i := 498) (by decide +kernel)) rfl
theorem z_abs : Cond.static Lib.MathLoose.abs_long.x ∈ gtb := gtb_m (List.mem_of_getElem? (i := 545) (by decide +kernel)) rfl
theorem z_abc : Cond.code Lib.MathLoose.abs_long.x Lib.MathLoose.abs_long.code 2 (some .long) ∈ gtb := gtb_m (List.mem_of_getElem? (i := 546) (by decide +kernel)) rfl
theorem mm_X7_7 : Cond.methodLink RX7 7 Lib.Math.max.name ∈ gtb := gtb_m (List.mem_of_getElem? (i := 207) (by decide +kernel)) rfl
theorem mm_X10_152 : Cond.methodLink RX10 152 Lib.Math.min.name ∈ gtb := gtb_m (List.mem_of_getElem? (i := 496) (by decide +kernel)) rfl
theorem mm_X0_16 : Cond.methodLink RX0 16 Lib.MathLoose.abs_long.x ∈ gtb := gtb_m (List.mem_of_getElem? (i := 544) (by decide +kernel)) rfl
theorem mm_X8_115 : Cond.methodLink RX8 115 Lib.Math.max.name ∈ gtb := gtb_m (List.mem_of_getElem? (i := 640) (by decide +kernel)) rfl
theorem mm_X6_67 : Cond.methodLink RX6 67 Lib.Math.max.name ∈ gtb := gtb_m (List.mem_of_getElem? (i := 689) (by decide +kernel)) rfl
theorem mm_X2_79 : Cond.methodLink RX2 79 Lib.Math.min.name ∈ gtb := gtb_m (List.mem_of_getElem? (i := 884) (by decide +kernel)) rfl
theorem mm_X2_85 : Cond.methodLink RX2 85 Lib.Math.max.name ∈ gtb := gtb_m (List.mem_of_getElem? (i := 885) (by decide +kernel)) rfl
section
variable {S : List Shp} {g : Gl} {M : Mc} {i : MI} {Q : State → Prop} {pc index fr lo : Nat} {lv : List (Option Value)} {rest : List Value} {σ : Sg}
theorem v_mx {x y : Int32} (hC : Cx S g M i { frames := fr, cells := 0, slots := 0, locals := lo }) (hl : Cond.methodLink i.1.cls index Lib.Math.max.name ∈ gtb) (hfr : Nat.ble 1 fr = true) (hW : Nat.ble ((rest.map fun v => v.category).sum + 13) lo = true) (hd : decode i.2.1 pc = .ok (.invokestatic index, 3)) (kk : V S g M i Q (pc + 3) lv (.int (mxI x y) :: rest) σ) : V S g M i Q pc lv (.int y :: .int x :: rest) σ := by
  obtain ⟨p, e, R, s, m, args, below, meth, c, cells, slots, A⟩ := M
  intro H locs ls hP hS hl'
  obtain ⟨hx, hb, hml, hown, hts, hK, hret, hlk, hRr, hroom, hgap, hA, hA2, hN⟩ := hC
  subst hRr
  exact va_mmax hx hb (hml.trans hl'.2.1.symm) hown (hts _ hl) (hts _ z_mxs) (hts _ z_ini) (hts _ z_mxc) (Nat.le_of_ble_eq_true hfr) (Nat.le_of_ble_eq_true hW) hroom.1 hroom.2 hd (kk H locs ls hP hS hl')
theorem v_mn {x y : Int32} (hC : Cx S g M i { frames := fr, cells := 0, slots := 0, locals := lo }) (hl : Cond.methodLink i.1.cls index Lib.Math.min.name ∈ gtb) (hfr : Nat.ble 1 fr = true) (hW : Nat.ble ((rest.map fun v => v.category).sum + 13) lo = true) (hd : decode i.2.1 pc = .ok (.invokestatic index, 3)) (kk : V S g M i Q (pc + 3) lv (.int (mnI x y) :: rest) σ) : V S g M i Q pc lv (.int y :: .int x :: rest) σ := by
  obtain ⟨p, e, R, s, m, args, below, meth, c, cells, slots, A⟩ := M
  intro H locs ls hP hS hl'
  obtain ⟨hx, hb, hml, hown, hts, hK, hret, hlk, hRr, hroom, hgap, hA, hA2, hN⟩ := hC
  subst hRr
  exact va_mmin hx hb (hml.trans hl'.2.1.symm) hown (hts _ hl) (hts _ z_mns) (hts _ z_ini) (hts _ z_mnc) (Nat.le_of_ble_eq_true hfr) (Nat.le_of_ble_eq_true hW) hroom.1 hroom.2 hd (kk H locs ls hP hS hl')
theorem v_ab {x : Int64} (hC : Cx S g M i { frames := fr, cells := 0, slots := 0, locals := lo }) (hl : Cond.methodLink i.1.cls index Lib.MathLoose.abs_long.x ∈ gtb) (hfr : Nat.ble 1 fr = true) (hW : Nat.ble ((rest.map fun v => v.category).sum + 13) lo = true) (hd : decode i.2.1 pc = .ok (.invokestatic index, 3)) (kk : V S g M i Q (pc + 3) lv (.long (abL x) :: rest) σ) : V S g M i Q pc lv (.long x :: rest) σ := by
  obtain ⟨p, e, R, s, m, args, below, meth, c, cells, slots, A⟩ := M
  intro H locs ls hP hS hl'
  obtain ⟨hx, hb, hml, hown, hts, hK, hret, hlk, hRr, hroom, hgap, hA, hA2, hN⟩ := hC
  subst hRr
  exact va_mabs_long hx hb (hml.trans hl'.2.1.symm) hown (hts _ hl) (hts _ z_abs) (hts _ z_ini) (hts _ z_abc) (Nat.le_of_ble_eq_true hfr) (Nat.le_of_ble_eq_true hW) hroom.1 hroom.2 hd (kk H locs ls hP hS hl')
end
end
