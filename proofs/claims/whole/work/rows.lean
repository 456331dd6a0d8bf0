section
-- ===== PART A: goes FIRST, ahead of the names: the tables' words, and 'selects' of the private methods out of them =====
/-- a private method of a class that the tables say can be made, by its rows of tables_1 -/
def lw_okq (q : MethodName × Nat) : Prop := (q.1.cls ≠ "java/lang/invoke/MethodHandle" ∧ q.1.cls ≠ "java/lang/invoke/VarHandle") ∧ Cond.instantiable q.1.cls q.2 ∈ tables_1 ∧ Cond.privateMethod q.1 ∈ tables_1 ∧ Cond.instanceMethod q.1 ∈ tables_1
theorem lw_p0 : lw_okq (⟨"LaneFour", "found", "(I)I"⟩, 10) := ⟨⟨by decide +kernel, by decide +kernel⟩, List.mem_of_getElem? (i := 17) (by decide +kernel), List.mem_of_getElem? (i := 414) (by decide +kernel), List.mem_of_getElem? (i := 415) (by decide +kernel)⟩
theorem lw_p1 : lw_okq (⟨"LaneFour$Levels", "joinFirstFall", "()Z"⟩, 7) := ⟨⟨by decide +kernel, by decide +kernel⟩, List.mem_of_getElem? (i := 82) (by decide +kernel), List.mem_of_getElem? (i := 501) (by decide +kernel), List.mem_of_getElem? (i := 502) (by decide +kernel)⟩
theorem lw_p2 : lw_okq (⟨"LaneFour$Levels", "join", "(II)V"⟩, 7) := ⟨⟨by decide +kernel, by decide +kernel⟩, List.mem_of_getElem? (i := 82) (by decide +kernel), List.mem_of_getElem? (i := 505) (by decide +kernel), List.mem_of_getElem? (i := 506) (by decide +kernel)⟩
theorem lw_p3 : lw_okq (⟨"LaneFour", "ofLane", "(III)J"⟩, 10) := ⟨⟨by decide +kernel, by decide +kernel⟩, List.mem_of_getElem? (i := 17) (by decide +kernel), List.mem_of_getElem? (i := 510) (by decide +kernel), List.mem_of_getElem? (i := 511) (by decide +kernel)⟩
theorem lw_p4 : lw_okq (⟨"LaneFour$Water", "leanOfPair", "(II)I"⟩, 10) := ⟨⟨by decide +kernel, by decide +kernel⟩, List.mem_of_getElem? (i := 175) (by decide +kernel), List.mem_of_getElem? (i := 530) (by decide +kernel), List.mem_of_getElem? (i := 531) (by decide +kernel)⟩
theorem lw_p5 : lw_okq (⟨"LaneFour$Water", "findRan", "()V"⟩, 10) := ⟨⟨by decide +kernel, by decide +kernel⟩, List.mem_of_getElem? (i := 175) (by decide +kernel), List.mem_of_getElem? (i := 537) (by decide +kernel), List.mem_of_getElem? (i := 538) (by decide +kernel)⟩
theorem lw_p6 : lw_okq (⟨"LaneFour$Water", "shareOfOrders", "(I)I"⟩, 10) := ⟨⟨by decide +kernel, by decide +kernel⟩, List.mem_of_getElem? (i := 175) (by decide +kernel), List.mem_of_getElem? (i := 553) (by decide +kernel), List.mem_of_getElem? (i := 554) (by decide +kernel)⟩
theorem lw_p7 : lw_okq (⟨"LaneFour$Water", "swap", "(II)J"⟩, 10) := ⟨⟨by decide +kernel, by decide +kernel⟩, List.mem_of_getElem? (i := 175) (by decide +kernel), List.mem_of_getElem? (i := 557) (by decide +kernel), List.mem_of_getElem? (i := 558) (by decide +kernel)⟩
theorem lw_p8 : lw_okq (⟨"LaneFour$Singles", "addPairsOf", "(I)V"⟩, 8) := ⟨⟨by decide +kernel, by decide +kernel⟩, List.mem_of_getElem? (i := 219) (by decide +kernel), List.mem_of_getElem? (i := 594) (by decide +kernel), List.mem_of_getElem? (i := 595) (by decide +kernel)⟩
theorem lw_p9 : lw_okq (⟨"LaneFour$Singles", "pairsIfFirst", "(II)I"⟩, 8) := ⟨⟨by decide +kernel, by decide +kernel⟩, List.mem_of_getElem? (i := 219) (by decide +kernel), List.mem_of_getElem? (i := 607) (by decide +kernel), List.mem_of_getElem? (i := 608) (by decide +kernel)⟩
theorem lw_p10 : lw_okq (⟨"LaneFour$Singles", "leastFirst", "(I)I"⟩, 8) := ⟨⟨by decide +kernel, by decide +kernel⟩, List.mem_of_getElem? (i := 219) (by decide +kernel), List.mem_of_getElem? (i := 612) (by decide +kernel), List.mem_of_getElem? (i := 613) (by decide +kernel)⟩
theorem lw_p11 : lw_okq (⟨"LaneFour$Singles", "slowness", "(II)J"⟩, 8) := ⟨⟨by decide +kernel, by decide +kernel⟩, List.mem_of_getElem? (i := 219) (by decide +kernel), List.mem_of_getElem? (i := 635) (by decide +kernel), List.mem_of_getElem? (i := 636) (by decide +kernel)⟩
theorem lw_p12 : lw_okq (⟨"LaneFour$Singles", "hasMedal", "(II)Z"⟩, 8) := ⟨⟨by decide +kernel, by decide +kernel⟩, List.mem_of_getElem? (i := 219) (by decide +kernel), List.mem_of_getElem? (i := 647) (by decide +kernel), List.mem_of_getElem? (i := 648) (by decide +kernel)⟩
theorem lw_p13 : lw_okq (⟨"LaneFour$World", "clearValues", "()V"⟩, 4) := ⟨⟨by decide +kernel, by decide +kernel⟩, List.mem_of_getElem? (i := 154) (by decide +kernel), List.mem_of_getElem? (i := 689) (by decide +kernel), List.mem_of_getElem? (i := 690) (by decide +kernel)⟩
theorem lw_p14 : lw_okq (⟨"LaneFour$World", "next", "(II)I"⟩, 4) := ⟨⟨by decide +kernel, by decide +kernel⟩, List.mem_of_getElem? (i := 154) (by decide +kernel), List.mem_of_getElem? (i := 693) (by decide +kernel), List.mem_of_getElem? (i := 694) (by decide +kernel)⟩
theorem lw_p15 : lw_okq (⟨"LaneFour$World", "open", "(I)I"⟩, 4) := ⟨⟨by decide +kernel, by decide +kernel⟩, List.mem_of_getElem? (i := 154) (by decide +kernel), List.mem_of_getElem? (i := 697) (by decide +kernel), List.mem_of_getElem? (i := 698) (by decide +kernel)⟩
def lw_privs_1 : List (MethodName × Nat) := [(⟨"LaneFour", "found", "(I)I"⟩, 10), (⟨"LaneFour$Levels", "joinFirstFall", "()Z"⟩, 7), (⟨"LaneFour$Levels", "join", "(II)V"⟩, 7), (⟨"LaneFour", "ofLane", "(III)J"⟩, 10), (⟨"LaneFour$Water", "leanOfPair", "(II)I"⟩, 10), (⟨"LaneFour$Water", "findRan", "()V"⟩, 10), (⟨"LaneFour$Water", "shareOfOrders", "(I)I"⟩, 10), (⟨"LaneFour$Water", "swap", "(II)J"⟩, 10), (⟨"LaneFour$Singles", "addPairsOf", "(I)V"⟩, 8), (⟨"LaneFour$Singles", "pairsIfFirst", "(II)I"⟩, 8), (⟨"LaneFour$Singles", "leastFirst", "(I)I"⟩, 8), (⟨"LaneFour$Singles", "slowness", "(II)J"⟩, 8), (⟨"LaneFour$Singles", "hasMedal", "(II)Z"⟩, 8), (⟨"LaneFour$World", "clearValues", "()V"⟩, 4), (⟨"LaneFour$World", "next", "(II)I"⟩, 4), (⟨"LaneFour$World", "open", "(I)I"⟩, 4)]
theorem lw_r1 : ∀ q ∈ lw_privs_1, lw_okq q := List.forall_mem_cons.mpr ⟨lw_p0, List.forall_mem_cons.mpr ⟨lw_p1, List.forall_mem_cons.mpr ⟨lw_p2, List.forall_mem_cons.mpr ⟨lw_p3, List.forall_mem_cons.mpr ⟨lw_p4, List.forall_mem_cons.mpr ⟨lw_p5, List.forall_mem_cons.mpr ⟨lw_p6, List.forall_mem_cons.mpr ⟨lw_p7, List.forall_mem_cons.mpr ⟨lw_p8, List.forall_mem_cons.mpr ⟨lw_p9, List.forall_mem_cons.mpr ⟨lw_p10, List.forall_mem_cons.mpr ⟨lw_p11, List.forall_mem_cons.mpr ⟨lw_p12, List.forall_mem_cons.mpr ⟨lw_p13, List.forall_mem_cons.mpr ⟨lw_p14, List.forall_mem_cons.mpr ⟨lw_p15, fun _ h => absurd h List.not_mem_nil⟩⟩⟩⟩⟩⟩⟩⟩⟩⟩⟩⟩⟩⟩⟩⟩
theorem lw_p16 : lw_okq (⟨"LaneFour$World", "choose", "(I)I"⟩, 4) := ⟨⟨by decide +kernel, by decide +kernel⟩, List.mem_of_getElem? (i := 154) (by decide +kernel), List.mem_of_getElem? (i := 701) (by decide +kernel), List.mem_of_getElem? (i := 702) (by decide +kernel)⟩
theorem lw_p17 : lw_okq (⟨"LaneFour$World", "turn", "()I"⟩, 4) := ⟨⟨by decide +kernel, by decide +kernel⟩, List.mem_of_getElem? (i := 154) (by decide +kernel), List.mem_of_getElem? (i := 706) (by decide +kernel), List.mem_of_getElem? (i := 707) (by decide +kernel)⟩
theorem lw_p18 : lw_okq (⟨"LaneFour$World", "begin", "(I)I"⟩, 4) := ⟨⟨by decide +kernel, by decide +kernel⟩, List.mem_of_getElem? (i := 154) (by decide +kernel), List.mem_of_getElem? (i := 710) (by decide +kernel), List.mem_of_getElem? (i := 711) (by decide +kernel)⟩
theorem lw_p19 : lw_okq (⟨"LaneFour$World", "end", "(I)I"⟩, 4) := ⟨⟨by decide +kernel, by decide +kernel⟩, List.mem_of_getElem? (i := 154) (by decide +kernel), List.mem_of_getElem? (i := 718) (by decide +kernel), List.mem_of_getElem? (i := 719) (by decide +kernel)⟩
theorem lw_p20 : lw_okq (⟨"LaneFour", "givenOf", "(I)I"⟩, 10) := ⟨⟨by decide +kernel, by decide +kernel⟩, List.mem_of_getElem? (i := 17) (by decide +kernel), List.mem_of_getElem? (i := 729) (by decide +kernel), List.mem_of_getElem? (i := 730) (by decide +kernel)⟩
theorem lw_p21 : lw_okq (⟨"LaneFour$Meet", "tenthsIn", "(I)I"⟩, 9) := ⟨⟨by decide +kernel, by decide +kernel⟩, List.mem_of_getElem? (i := 25) (by decide +kernel), List.mem_of_getElem? (i := 761) (by decide +kernel), List.mem_of_getElem? (i := 762) (by decide +kernel)⟩
theorem lw_p22 : lw_okq (⟨"LaneFour$Maker", "rankAmong", "(III)I"⟩, 4) := ⟨⟨by decide +kernel, by decide +kernel⟩, List.mem_of_getElem? (i := 256) (by decide +kernel), List.mem_of_getElem? (i := 787) (by decide +kernel), List.mem_of_getElem? (i := 788) (by decide +kernel)⟩
theorem lw_p23 : lw_okq (⟨"LaneFour$Maker", "makeTimes", "(III)V"⟩, 4) := ⟨⟨by decide +kernel, by decide +kernel⟩, List.mem_of_getElem? (i := 256) (by decide +kernel), List.mem_of_getElem? (i := 796) (by decide +kernel), List.mem_of_getElem? (i := 797) (by decide +kernel)⟩
theorem lw_p24 : lw_okq (⟨"LaneFour$Maker", "lot", "(I)I"⟩, 4) := ⟨⟨by decide +kernel, by decide +kernel⟩, List.mem_of_getElem? (i := 256) (by decide +kernel), List.mem_of_getElem? (i := 801) (by decide +kernel), List.mem_of_getElem? (i := 802) (by decide +kernel)⟩
theorem lw_p25 : lw_okq (⟨"LaneFour", "mixLanes", "(J)J"⟩, 10) := ⟨⟨by decide +kernel, by decide +kernel⟩, List.mem_of_getElem? (i := 17) (by decide +kernel), List.mem_of_getElem? (i := 885) (by decide +kernel), List.mem_of_getElem? (i := 886) (by decide +kernel)⟩
theorem lw_p26 : lw_okq (⟨"LaneFour", "mixDays", "(J)J"⟩, 10) := ⟨⟨by decide +kernel, by decide +kernel⟩, List.mem_of_getElem? (i := 17) (by decide +kernel), List.mem_of_getElem? (i := 889) (by decide +kernel), List.mem_of_getElem? (i := 890) (by decide +kernel)⟩
theorem lw_p27 : lw_okq (⟨"LaneFour", "mixOrder", "(J)J"⟩, 10) := ⟨⟨by decide +kernel, by decide +kernel⟩, List.mem_of_getElem? (i := 17) (by decide +kernel), List.mem_of_getElem? (i := 893) (by decide +kernel), List.mem_of_getElem? (i := 894) (by decide +kernel)⟩
theorem lw_p28 : lw_okq (⟨"LaneFour", "mixRaces", "(J)J"⟩, 10) := ⟨⟨by decide +kernel, by decide +kernel⟩, List.mem_of_getElem? (i := 17) (by decide +kernel), List.mem_of_getElem? (i := 897) (by decide +kernel), List.mem_of_getElem? (i := 898) (by decide +kernel)⟩
theorem lw_p29 : lw_okq (⟨"LaneFour", "mixSwims", "(J)J"⟩, 10) := ⟨⟨by decide +kernel, by decide +kernel⟩, List.mem_of_getElem? (i := 17) (by decide +kernel), List.mem_of_getElem? (i := 901) (by decide +kernel), List.mem_of_getElem? (i := 902) (by decide +kernel)⟩
theorem lw_p30 : lw_okq (⟨"LaneFourModel", "raceMore", "(II)I"⟩, 34) := ⟨⟨by decide +kernel, by decide +kernel⟩, List.mem_of_getElem? (i := 905) (by decide +kernel), List.mem_of_getElem? (i := 1021) (by decide +kernel), List.mem_of_getElem? (i := 1022) (by decide +kernel)⟩
theorem lw_p31 : lw_okq (⟨"LaneFourModel", "isRace", "(I)Z"⟩, 34) := ⟨⟨by decide +kernel, by decide +kernel⟩, List.mem_of_getElem? (i := 905) (by decide +kernel), List.mem_of_getElem? (i := 1029) (by decide +kernel), List.mem_of_getElem? (i := 1030) (by decide +kernel)⟩
def lw_privs_2 : List (MethodName × Nat) := [(⟨"LaneFour$World", "choose", "(I)I"⟩, 4), (⟨"LaneFour$World", "turn", "()I"⟩, 4), (⟨"LaneFour$World", "begin", "(I)I"⟩, 4), (⟨"LaneFour$World", "end", "(I)I"⟩, 4), (⟨"LaneFour", "givenOf", "(I)I"⟩, 10), (⟨"LaneFour$Meet", "tenthsIn", "(I)I"⟩, 9), (⟨"LaneFour$Maker", "rankAmong", "(III)I"⟩, 4), (⟨"LaneFour$Maker", "makeTimes", "(III)V"⟩, 4), (⟨"LaneFour$Maker", "lot", "(I)I"⟩, 4), (⟨"LaneFour", "mixLanes", "(J)J"⟩, 10), (⟨"LaneFour", "mixDays", "(J)J"⟩, 10), (⟨"LaneFour", "mixOrder", "(J)J"⟩, 10), (⟨"LaneFour", "mixRaces", "(J)J"⟩, 10), (⟨"LaneFour", "mixSwims", "(J)J"⟩, 10), (⟨"LaneFourModel", "raceMore", "(II)I"⟩, 34), (⟨"LaneFourModel", "isRace", "(I)Z"⟩, 34)]
theorem lw_r2 : ∀ q ∈ lw_privs_2, lw_okq q := List.forall_mem_cons.mpr ⟨lw_p16, List.forall_mem_cons.mpr ⟨lw_p17, List.forall_mem_cons.mpr ⟨lw_p18, List.forall_mem_cons.mpr ⟨lw_p19, List.forall_mem_cons.mpr ⟨lw_p20, List.forall_mem_cons.mpr ⟨lw_p21, List.forall_mem_cons.mpr ⟨lw_p22, List.forall_mem_cons.mpr ⟨lw_p23, List.forall_mem_cons.mpr ⟨lw_p24, List.forall_mem_cons.mpr ⟨lw_p25, List.forall_mem_cons.mpr ⟨lw_p26, List.forall_mem_cons.mpr ⟨lw_p27, List.forall_mem_cons.mpr ⟨lw_p28, List.forall_mem_cons.mpr ⟨lw_p29, List.forall_mem_cons.mpr ⟨lw_p30, List.forall_mem_cons.mpr ⟨lw_p31, fun _ h => absurd h List.not_mem_nil⟩⟩⟩⟩⟩⟩⟩⟩⟩⟩⟩⟩⟩⟩⟩⟩
theorem lw_p32 : lw_okq (⟨"LaneFourModel", "swimMore", "(III)I"⟩, 34) := ⟨⟨by decide +kernel, by decide +kernel⟩, List.mem_of_getElem? (i := 905) (by decide +kernel), List.mem_of_getElem? (i := 1039) (by decide +kernel), List.mem_of_getElem? (i := 1040) (by decide +kernel)⟩
theorem lw_p33 : lw_okq (⟨"LaneFourModel", "isSwim", "(I)Z"⟩, 34) := ⟨⟨by decide +kernel, by decide +kernel⟩, List.mem_of_getElem? (i := 905) (by decide +kernel), List.mem_of_getElem? (i := 1047) (by decide +kernel), List.mem_of_getElem? (i := 1048) (by decide +kernel)⟩
theorem lw_p34 : lw_okq (⟨"LaneFourModel", "meets", "(I)I"⟩, 34) := ⟨⟨by decide +kernel, by decide +kernel⟩, List.mem_of_getElem? (i := 905) (by decide +kernel), List.mem_of_getElem? (i := 1061) (by decide +kernel), List.mem_of_getElem? (i := 1062) (by decide +kernel)⟩
theorem lw_p35 : lw_okq (⟨"LaneFourModel", "feltOf", "(I)I"⟩, 34) := ⟨⟨by decide +kernel, by decide +kernel⟩, List.mem_of_getElem? (i := 905) (by decide +kernel), List.mem_of_getElem? (i := 1073) (by decide +kernel), List.mem_of_getElem? (i := 1074) (by decide +kernel)⟩
theorem lw_p36 : lw_okq (⟨"LaneFourModel", "totalOf", "(I)I"⟩, 34) := ⟨⟨by decide +kernel, by decide +kernel⟩, List.mem_of_getElem? (i := 905) (by decide +kernel), List.mem_of_getElem? (i := 1077) (by decide +kernel), List.mem_of_getElem? (i := 1078) (by decide +kernel)⟩
theorem lw_p37 : lw_okq (⟨"LaneFourModel", "hasDiff", "(I)Z"⟩, 34) := ⟨⟨by decide +kernel, by decide +kernel⟩, List.mem_of_getElem? (i := 905) (by decide +kernel), List.mem_of_getElem? (i := 1089) (by decide +kernel), List.mem_of_getElem? (i := 1090) (by decide +kernel)⟩
theorem lw_p38 : lw_okq (⟨"LaneFourModel", "feltOn", "(II)I"⟩, 34) := ⟨⟨by decide +kernel, by decide +kernel⟩, List.mem_of_getElem? (i := 905) (by decide +kernel), List.mem_of_getElem? (i := 1093) (by decide +kernel), List.mem_of_getElem? (i := 1094) (by decide +kernel)⟩
theorem lw_p39 : lw_okq (⟨"LaneFourModel", "twiceDiff", "(I)I"⟩, 34) := ⟨⟨by decide +kernel, by decide +kernel⟩, List.mem_of_getElem? (i := 905) (by decide +kernel), List.mem_of_getElem? (i := 1097) (by decide +kernel), List.mem_of_getElem? (i := 1098) (by decide +kernel)⟩
theorem lw_p40 : lw_okq (⟨"LaneFourModel", "twiceMean", "(II)I"⟩, 34) := ⟨⟨by decide +kernel, by decide +kernel⟩, List.mem_of_getElem? (i := 905) (by decide +kernel), List.mem_of_getElem? (i := 1101) (by decide +kernel), List.mem_of_getElem? (i := 1102) (by decide +kernel)⟩
theorem lw_p41 : lw_okq (⟨"LaneFourModel", "laneNow", "(III)J"⟩, 34) := ⟨⟨by decide +kernel, by decide +kernel⟩, List.mem_of_getElem? (i := 905) (by decide +kernel), List.mem_of_getElem? (i := 1116) (by decide +kernel), List.mem_of_getElem? (i := 1117) (by decide +kernel)⟩
theorem lw_p42 : lw_okq (⟨"LaneFourModel", "laysShape", "()V"⟩, 34) := ⟨⟨by decide +kernel, by decide +kernel⟩, List.mem_of_getElem? (i := 905) (by decide +kernel), List.mem_of_getElem? (i := 1120) (by decide +kernel), List.mem_of_getElem? (i := 1121) (by decide +kernel)⟩
theorem lw_p43 : lw_okq (⟨"LaneFourModel", "laysLanes", "()V"⟩, 34) := ⟨⟨by decide +kernel, by decide +kernel⟩, List.mem_of_getElem? (i := 905) (by decide +kernel), List.mem_of_getElem? (i := 1124) (by decide +kernel), List.mem_of_getElem? (i := 1125) (by decide +kernel)⟩
theorem lw_p44 : lw_okq (⟨"LaneFourModel", "joins", "(II)V"⟩, 34) := ⟨⟨by decide +kernel, by decide +kernel⟩, List.mem_of_getElem? (i := 905) (by decide +kernel), List.mem_of_getElem? (i := 1128) (by decide +kernel), List.mem_of_getElem? (i := 1129) (by decide +kernel)⟩
theorem lw_p45 : lw_okq (⟨"LaneFourModel", "laysLane", "(II)V"⟩, 34) := ⟨⟨by decide +kernel, by decide +kernel⟩, List.mem_of_getElem? (i := 905) (by decide +kernel), List.mem_of_getElem? (i := 1132) (by decide +kernel), List.mem_of_getElem? (i := 1133) (by decide +kernel)⟩
theorem lw_p46 : lw_okq (⟨"LaneFourModel", "lays", "(JJ)V"⟩, 34) := ⟨⟨by decide +kernel, by decide +kernel⟩, List.mem_of_getElem? (i := 905) (by decide +kernel), List.mem_of_getElem? (i := 1136) (by decide +kernel), List.mem_of_getElem? (i := 1137) (by decide +kernel)⟩
theorem lw_p47 : lw_okq (⟨"LaneFourModel", "adds", "(JJ)V"⟩, 34) := ⟨⟨by decide +kernel, by decide +kernel⟩, List.mem_of_getElem? (i := 905) (by decide +kernel), List.mem_of_getElem? (i := 1140) (by decide +kernel), List.mem_of_getElem? (i := 1141) (by decide +kernel)⟩
def lw_privs_3 : List (MethodName × Nat) := [(⟨"LaneFourModel", "swimMore", "(III)I"⟩, 34), (⟨"LaneFourModel", "isSwim", "(I)Z"⟩, 34), (⟨"LaneFourModel", "meets", "(I)I"⟩, 34), (⟨"LaneFourModel", "feltOf", "(I)I"⟩, 34), (⟨"LaneFourModel", "totalOf", "(I)I"⟩, 34), (⟨"LaneFourModel", "hasDiff", "(I)Z"⟩, 34), (⟨"LaneFourModel", "feltOn", "(II)I"⟩, 34), (⟨"LaneFourModel", "twiceDiff", "(I)I"⟩, 34), (⟨"LaneFourModel", "twiceMean", "(II)I"⟩, 34), (⟨"LaneFourModel", "laneNow", "(III)J"⟩, 34), (⟨"LaneFourModel", "laysShape", "()V"⟩, 34), (⟨"LaneFourModel", "laysLanes", "()V"⟩, 34), (⟨"LaneFourModel", "joins", "(II)V"⟩, 34), (⟨"LaneFourModel", "laysLane", "(II)V"⟩, 34), (⟨"LaneFourModel", "lays", "(JJ)V"⟩, 34), (⟨"LaneFourModel", "adds", "(JJ)V"⟩, 34)]
theorem lw_r3 : ∀ q ∈ lw_privs_3, lw_okq q := List.forall_mem_cons.mpr ⟨lw_p32, List.forall_mem_cons.mpr ⟨lw_p33, List.forall_mem_cons.mpr ⟨lw_p34, List.forall_mem_cons.mpr ⟨lw_p35, List.forall_mem_cons.mpr ⟨lw_p36, List.forall_mem_cons.mpr ⟨lw_p37, List.forall_mem_cons.mpr ⟨lw_p38, List.forall_mem_cons.mpr ⟨lw_p39, List.forall_mem_cons.mpr ⟨lw_p40, List.forall_mem_cons.mpr ⟨lw_p41, List.forall_mem_cons.mpr ⟨lw_p42, List.forall_mem_cons.mpr ⟨lw_p43, List.forall_mem_cons.mpr ⟨lw_p44, List.forall_mem_cons.mpr ⟨lw_p45, List.forall_mem_cons.mpr ⟨lw_p46, List.forall_mem_cons.mpr ⟨lw_p47, fun _ h => absurd h List.not_mem_nil⟩⟩⟩⟩⟩⟩⟩⟩⟩⟩⟩⟩⟩⟩⟩⟩
theorem lw_p48 : lw_okq (⟨"LaneFourModel", "lanesMany", "()I"⟩, 34) := ⟨⟨by decide +kernel, by decide +kernel⟩, List.mem_of_getElem? (i := 905) (by decide +kernel), List.mem_of_getElem? (i := 1144) (by decide +kernel), List.mem_of_getElem? (i := 1145) (by decide +kernel)⟩
theorem lw_p49 : lw_okq (⟨"LaneFourModel", "countsNow", "(I)I"⟩, 34) := ⟨⟨by decide +kernel, by decide +kernel⟩, List.mem_of_getElem? (i := 905) (by decide +kernel), List.mem_of_getElem? (i := 1152) (by decide +kernel), List.mem_of_getElem? (i := 1153) (by decide +kernel)⟩
theorem lw_p50 : lw_okq (⟨"LaneFourModel", "leanNow", "(II)I"⟩, 34) := ⟨⟨by decide +kernel, by decide +kernel⟩, List.mem_of_getElem? (i := 905) (by decide +kernel), List.mem_of_getElem? (i := 1160) (by decide +kernel), List.mem_of_getElem? (i := 1161) (by decide +kernel)⟩
theorem lw_p51 : lw_okq (⟨"LaneFourModel", "chanceNow", "()I"⟩, 34) := ⟨⟨by decide +kernel, by decide +kernel⟩, List.mem_of_getElem? (i := 905) (by decide +kernel), List.mem_of_getElem? (i := 1168) (by decide +kernel), List.mem_of_getElem? (i := 1169) (by decide +kernel)⟩
theorem lw_p52 : lw_okq (⟨"LaneFourModel", "turns", "(I)Z"⟩, 34) := ⟨⟨by decide +kernel, by decide +kernel⟩, List.mem_of_getElem? (i := 905) (by decide +kernel), List.mem_of_getElem? (i := 1172) (by decide +kernel), List.mem_of_getElem? (i := 1173) (by decide +kernel)⟩
theorem lw_p53 : lw_okq (⟨"LaneFourModel", "ranNow", "(I)I"⟩, 34) := ⟨⟨by decide +kernel, by decide +kernel⟩, List.mem_of_getElem? (i := 905) (by decide +kernel), List.mem_of_getElem? (i := 1181) (by decide +kernel), List.mem_of_getElem? (i := 1182) (by decide +kernel)⟩
theorem lw_p54 : lw_okq (⟨"LaneFourModel", "laysOwn", "(I)Z"⟩, 34) := ⟨⟨by decide +kernel, by decide +kernel⟩, List.mem_of_getElem? (i := 905) (by decide +kernel), List.mem_of_getElem? (i := 1189) (by decide +kernel), List.mem_of_getElem? (i := 1190) (by decide +kernel)⟩
theorem lw_p55 : lw_okq (⟨"LaneFourModel", "twiceNow", "(II)I"⟩, 34) := ⟨⟨by decide +kernel, by decide +kernel⟩, List.mem_of_getElem? (i := 905) (by decide +kernel), List.mem_of_getElem? (i := 1201) (by decide +kernel), List.mem_of_getElem? (i := 1202) (by decide +kernel)⟩
theorem lw_p56 : lw_okq (⟨"LaneFourModel", "isSingle", "(I)Z"⟩, 34) := ⟨⟨by decide +kernel, by decide +kernel⟩, List.mem_of_getElem? (i := 905) (by decide +kernel), List.mem_of_getElem? (i := 1205) (by decide +kernel), List.mem_of_getElem? (i := 1206) (by decide +kernel)⟩
theorem lw_p57 : lw_okq (⟨"LaneFourModel", "orderNow", "(I)I"⟩, 34) := ⟨⟨by decide +kernel, by decide +kernel⟩, List.mem_of_getElem? (i := 905) (by decide +kernel), List.mem_of_getElem? (i := 1213) (by decide +kernel), List.mem_of_getElem? (i := 1214) (by decide +kernel)⟩
theorem lw_p58 : lw_okq (⟨"LaneFourModel", "orders", "()V"⟩, 34) := ⟨⟨by decide +kernel, by decide +kernel⟩, List.mem_of_getElem? (i := 905) (by decide +kernel), List.mem_of_getElem? (i := 1217) (by decide +kernel), List.mem_of_getElem? (i := 1218) (by decide +kernel)⟩
theorem lw_p59 : lw_okq (⟨"LaneFourModel", "gain", "(II)I"⟩, 34) := ⟨⟨by decide +kernel, by decide +kernel⟩, List.mem_of_getElem? (i := 905) (by decide +kernel), List.mem_of_getElem? (i := 1224) (by decide +kernel), List.mem_of_getElem? (i := 1225) (by decide +kernel)⟩
theorem lw_p60 : lw_okq (⟨"LaneFourModel", "laysRight", "(I)V"⟩, 34) := ⟨⟨by decide +kernel, by decide +kernel⟩, List.mem_of_getElem? (i := 905) (by decide +kernel), List.mem_of_getElem? (i := 1232) (by decide +kernel), List.mem_of_getElem? (i := 1233) (by decide +kernel)⟩
theorem lw_p61 : lw_okq (⟨"LaneFourModel", "placeNow", "(II)I"⟩, 34) := ⟨⟨by decide +kernel, by decide +kernel⟩, List.mem_of_getElem? (i := 905) (by decide +kernel), List.mem_of_getElem? (i := 1241) (by decide +kernel), List.mem_of_getElem? (i := 1242) (by decide +kernel)⟩
theorem lw_p62 : lw_okq (⟨"LaneFourModel", "isRightLess", "(II)Z"⟩, 34) := ⟨⟨by decide +kernel, by decide +kernel⟩, List.mem_of_getElem? (i := 905) (by decide +kernel), List.mem_of_getElem? (i := 1245) (by decide +kernel), List.mem_of_getElem? (i := 1246) (by decide +kernel)⟩
theorem lw_p63 : lw_okq (⟨"LaneFourModel", "medalsNow", "(I)I"⟩, 34) := ⟨⟨by decide +kernel, by decide +kernel⟩, List.mem_of_getElem? (i := 905) (by decide +kernel), List.mem_of_getElem? (i := 1253) (by decide +kernel), List.mem_of_getElem? (i := 1254) (by decide +kernel)⟩
def lw_privs_4 : List (MethodName × Nat) := [(⟨"LaneFourModel", "lanesMany", "()I"⟩, 34), (⟨"LaneFourModel", "countsNow", "(I)I"⟩, 34), (⟨"LaneFourModel", "leanNow", "(II)I"⟩, 34), (⟨"LaneFourModel", "chanceNow", "()I"⟩, 34), (⟨"LaneFourModel", "turns", "(I)Z"⟩, 34), (⟨"LaneFourModel", "ranNow", "(I)I"⟩, 34), (⟨"LaneFourModel", "laysOwn", "(I)Z"⟩, 34), (⟨"LaneFourModel", "twiceNow", "(II)I"⟩, 34), (⟨"LaneFourModel", "isSingle", "(I)Z"⟩, 34), (⟨"LaneFourModel", "orderNow", "(I)I"⟩, 34), (⟨"LaneFourModel", "orders", "()V"⟩, 34), (⟨"LaneFourModel", "gain", "(II)I"⟩, 34), (⟨"LaneFourModel", "laysRight", "(I)V"⟩, 34), (⟨"LaneFourModel", "placeNow", "(II)I"⟩, 34), (⟨"LaneFourModel", "isRightLess", "(II)Z"⟩, 34), (⟨"LaneFourModel", "medalsNow", "(I)I"⟩, 34)]
theorem lw_r4 : ∀ q ∈ lw_privs_4, lw_okq q := List.forall_mem_cons.mpr ⟨lw_p48, List.forall_mem_cons.mpr ⟨lw_p49, List.forall_mem_cons.mpr ⟨lw_p50, List.forall_mem_cons.mpr ⟨lw_p51, List.forall_mem_cons.mpr ⟨lw_p52, List.forall_mem_cons.mpr ⟨lw_p53, List.forall_mem_cons.mpr ⟨lw_p54, List.forall_mem_cons.mpr ⟨lw_p55, List.forall_mem_cons.mpr ⟨lw_p56, List.forall_mem_cons.mpr ⟨lw_p57, List.forall_mem_cons.mpr ⟨lw_p58, List.forall_mem_cons.mpr ⟨lw_p59, List.forall_mem_cons.mpr ⟨lw_p60, List.forall_mem_cons.mpr ⟨lw_p61, List.forall_mem_cons.mpr ⟨lw_p62, List.forall_mem_cons.mpr ⟨lw_p63, fun _ h => absurd h List.not_mem_nil⟩⟩⟩⟩⟩⟩⟩⟩⟩⟩⟩⟩⟩⟩⟩⟩
theorem lw_p64 : lw_okq (⟨"LaneFourModel", "ruleFault", "()I"⟩, 34) := ⟨⟨by decide +kernel, by decide +kernel⟩, List.mem_of_getElem? (i := 905) (by decide +kernel), List.mem_of_getElem? (i := 1272) (by decide +kernel), List.mem_of_getElem? (i := 1273) (by decide +kernel)⟩
theorem lw_p65 : lw_okq (⟨"LaneFourModel", "worldFault", "()I"⟩, 34) := ⟨⟨by decide +kernel, by decide +kernel⟩, List.mem_of_getElem? (i := 905) (by decide +kernel), List.mem_of_getElem? (i := 1276) (by decide +kernel), List.mem_of_getElem? (i := 1277) (by decide +kernel)⟩
theorem lw_p66 : lw_okq (⟨"LaneFourModel", "plain", "()V"⟩, 34) := ⟨⟨by decide +kernel, by decide +kernel⟩, List.mem_of_getElem? (i := 905) (by decide +kernel), List.mem_of_getElem? (i := 1280) (by decide +kernel), List.mem_of_getElem? (i := 1281) (by decide +kernel)⟩
theorem lw_p67 : lw_okq (⟨"LaneFourModel", "part", "()V"⟩, 34) := ⟨⟨by decide +kernel, by decide +kernel⟩, List.mem_of_getElem? (i := 905) (by decide +kernel), List.mem_of_getElem? (i := 1284) (by decide +kernel), List.mem_of_getElem? (i := 1285) (by decide +kernel)⟩
theorem lw_p68 : lw_okq (⟨"LaneFourModel", "byteNow", "()I"⟩, 34) := ⟨⟨by decide +kernel, by decide +kernel⟩, List.mem_of_getElem? (i := 905) (by decide +kernel), List.mem_of_getElem? (i := 1288) (by decide +kernel), List.mem_of_getElem? (i := 1289) (by decide +kernel)⟩
theorem lw_p69 : lw_okq (⟨"LaneFourModel", "expects", "(I)V"⟩, 34) := ⟨⟨by decide +kernel, by decide +kernel⟩, List.mem_of_getElem? (i := 905) (by decide +kernel), List.mem_of_getElem? (i := 1292) (by decide +kernel), List.mem_of_getElem? (i := 1293) (by decide +kernel)⟩
theorem lw_p70 : lw_okq (⟨"LaneFourModel", "number", "(I)I"⟩, 34) := ⟨⟨by decide +kernel, by decide +kernel⟩, List.mem_of_getElem? (i := 905) (by decide +kernel), List.mem_of_getElem? (i := 1296) (by decide +kernel), List.mem_of_getElem? (i := 1297) (by decide +kernel)⟩
theorem lw_p71 : lw_okq (⟨"LaneFourModel", "givenNow", "(I)I"⟩, 34) := ⟨⟨by decide +kernel, by decide +kernel⟩, List.mem_of_getElem? (i := 905) (by decide +kernel), List.mem_of_getElem? (i := 1304) (by decide +kernel), List.mem_of_getElem? (i := 1305) (by decide +kernel)⟩
theorem lw_p72 : lw_okq (⟨"LaneFourModel", "isBetter", "(II)Z"⟩, 34) := ⟨⟨by decide +kernel, by decide +kernel⟩, List.mem_of_getElem? (i := 905) (by decide +kernel), List.mem_of_getElem? (i := 1308) (by decide +kernel), List.mem_of_getElem? (i := 1309) (by decide +kernel)⟩
theorem lw_p73 : lw_okq (⟨"LaneFourModel", "tenthsNow", "(II)I"⟩, 34) := ⟨⟨by decide +kernel, by decide +kernel⟩, List.mem_of_getElem? (i := 905) (by decide +kernel), List.mem_of_getElem? (i := 1316) (by decide +kernel), List.mem_of_getElem? (i := 1317) (by decide +kernel)⟩
theorem lw_p74 : lw_okq (⟨"LaneFourModel", "worldNow", "(I)I"⟩, 34) := ⟨⟨by decide +kernel, by decide +kernel⟩, List.mem_of_getElem? (i := 905) (by decide +kernel), List.mem_of_getElem? (i := 1326) (by decide +kernel), List.mem_of_getElem? (i := 1327) (by decide +kernel)⟩
theorem lw_p75 : lw_okq (⟨"LaneFourModel", "lot", "(I)I"⟩, 34) := ⟨⟨by decide +kernel, by decide +kernel⟩, List.mem_of_getElem? (i := 905) (by decide +kernel), List.mem_of_getElem? (i := 1334) (by decide +kernel), List.mem_of_getElem? (i := 1335) (by decide +kernel)⟩
theorem lw_p76 : lw_okq (⟨"LaneFourModel", "lacks", "(III)I"⟩, 34) := ⟨⟨by decide +kernel, by decide +kernel⟩, List.mem_of_getElem? (i := 905) (by decide +kernel), List.mem_of_getElem? (i := 1351) (by decide +kernel), List.mem_of_getElem? (i := 1352) (by decide +kernel)⟩
theorem lw_p77 : lw_okq (⟨"LaneFourModel", "keep", "(III)V"⟩, 34) := ⟨⟨by decide +kernel, by decide +kernel⟩, List.mem_of_getElem? (i := 905) (by decide +kernel), List.mem_of_getElem? (i := 1355) (by decide +kernel), List.mem_of_getElem? (i := 1356) (by decide +kernel)⟩
theorem lw_p78 : lw_okq (⟨"LaneFourModel", "countNow", "(I)I"⟩, 34) := ⟨⟨by decide +kernel, by decide +kernel⟩, List.mem_of_getElem? (i := 905) (by decide +kernel), List.mem_of_getElem? (i := 1376) (by decide +kernel), List.mem_of_getElem? (i := 1377) (by decide +kernel)⟩
def lw_privs_5 : List (MethodName × Nat) := [(⟨"LaneFourModel", "ruleFault", "()I"⟩, 34), (⟨"LaneFourModel", "worldFault", "()I"⟩, 34), (⟨"LaneFourModel", "plain", "()V"⟩, 34), (⟨"LaneFourModel", "part", "()V"⟩, 34), (⟨"LaneFourModel", "byteNow", "()I"⟩, 34), (⟨"LaneFourModel", "expects", "(I)V"⟩, 34), (⟨"LaneFourModel", "number", "(I)I"⟩, 34), (⟨"LaneFourModel", "givenNow", "(I)I"⟩, 34), (⟨"LaneFourModel", "isBetter", "(II)Z"⟩, 34), (⟨"LaneFourModel", "tenthsNow", "(II)I"⟩, 34), (⟨"LaneFourModel", "worldNow", "(I)I"⟩, 34), (⟨"LaneFourModel", "lot", "(I)I"⟩, 34), (⟨"LaneFourModel", "lacks", "(III)I"⟩, 34), (⟨"LaneFourModel", "keep", "(III)V"⟩, 34), (⟨"LaneFourModel", "countNow", "(I)I"⟩, 34)]
theorem lw_r5 : ∀ q ∈ lw_privs_5, lw_okq q := List.forall_mem_cons.mpr ⟨lw_p64, List.forall_mem_cons.mpr ⟨lw_p65, List.forall_mem_cons.mpr ⟨lw_p66, List.forall_mem_cons.mpr ⟨lw_p67, List.forall_mem_cons.mpr ⟨lw_p68, List.forall_mem_cons.mpr ⟨lw_p69, List.forall_mem_cons.mpr ⟨lw_p70, List.forall_mem_cons.mpr ⟨lw_p71, List.forall_mem_cons.mpr ⟨lw_p72, List.forall_mem_cons.mpr ⟨lw_p73, List.forall_mem_cons.mpr ⟨lw_p74, List.forall_mem_cons.mpr ⟨lw_p75, List.forall_mem_cons.mpr ⟨lw_p76, List.forall_mem_cons.mpr ⟨lw_p77, List.forall_mem_cons.mpr ⟨lw_p78, fun _ h => absurd h List.not_mem_nil⟩⟩⟩⟩⟩⟩⟩⟩⟩⟩⟩⟩⟩⟩⟩
def lw_privs : List (MethodName × Nat) := lw_privs_1 ++ (lw_privs_2 ++ (lw_privs_3 ++ (lw_privs_4 ++ (lw_privs_5))))
def lw_tbl : List Cond := k2_sels lw_privs ++ tables_1
theorem lw_privs_ok : ∀ q ∈ lw_privs, lw_okq q := by
  show ∀ q ∈ lw_privs_1 ++ (lw_privs_2 ++ (lw_privs_3 ++ (lw_privs_4 ++ (lw_privs_5)))), lw_okq q
  exact List.forall_mem_append.mpr ⟨lw_r1, List.forall_mem_append.mpr ⟨lw_r2, List.forall_mem_append.mpr ⟨lw_r3, List.forall_mem_append.mpr ⟨lw_r4, lw_r5⟩⟩⟩⟩
end
section
def RX0 : String := "LaneFour$Fraction"
def TX0 : u_T := fun k => match k with
  | 0 => ("LaneFour$Fraction", "above", "J", false)
  | _ => ("LaneFour$Fraction", "below", "J", false)
def tyX0 : Nat → FieldType := fun k => match k with
  | 0 => .long
  | _ => .long
abbrev wsX00 : List Cond := u_ws RX0 TX0 2
theorem nmX0 : ∀ a, a < 2 → ∀ b, b < 2 → a ≠ b → (TX0 a).2.1 ≠ (TX0 b).2.1 := by decide +kernel
theorem tyX0_ok : ∀ k, k < 2 → parseFieldDescriptor (TX0 k).2.2.1 = some (tyX0 k) := by decide +kernel
abbrev cX0_init : ByteArray := prog_2_method_1_code
def yX0_init : MethodName := ⟨RX0, "<init>", "()V"⟩
abbrev cX0_set : ByteArray := prog_2_method_2_code
def yX0_set : MethodName := ⟨RX0, "set", "(JJ)V"⟩
abbrev cX0_part : ByteArray := prog_2_method_3_code
def yX0_part : MethodName := ⟨RX0, "part", "(I)J"⟩
abbrev cX0_commonMultiple : ByteArray := prog_2_method_4_code
def yX0_commonMultiple : MethodName := ⟨RX0, "commonMultiple", "(JJ)J"⟩
abbrev cX0_commonPart : ByteArray := prog_2_method_5_code
def yX0_commonPart : MethodName := ⟨RX0, "commonPart", "(JJ)J"⟩
def RX1 : String := "LaneFour$Levels"
def TX1 : u_T := fun k => match k with
  | 0 => ("LaneFour$Levels", "counted", "[I", true)
  | 1 => ("LaneFour$Levels", "sums", "[J", true)
  | 2 => ("LaneFour$Levels", "scaled", "[J", true)
  | 3 => ("LaneFour$Levels", "pool", "[I", true)
  | 4 => ("LaneFour$Levels", "present", "I", false)
  | 5 => ("LaneFour$Levels", "scale", "J", false)
  | _ => ("LaneFour$Levels", "together", "J", false)
def tyX1 : Nat → FieldType := fun k => match k with
  | 0 => .array .int
  | 1 => .array .long
  | 2 => .array .long
  | 3 => .array .int
  | 4 => .int
  | 5 => .long
  | _ => .long
abbrev wsX10 : List Cond := u_ws RX1 TX1 7
theorem nmX1 : ∀ a, a < 7 → ∀ b, b < 7 → a ≠ b → (TX1 a).2.1 ≠ (TX1 b).2.1 := by decide +kernel
theorem tyX1_ok : ∀ k, k < 7 → parseFieldDescriptor (TX1 k).2.2.1 = some (tyX1 k) := by decide +kernel
abbrev cX1_init : ByteArray := prog_3_method_1_code
def yX1_init : MethodName := ⟨RX1, "<init>", "()V"⟩
abbrev cX1_clear : ByteArray := prog_3_method_2_code
def yX1_clear : MethodName := ⟨RX1, "clear", "()V"⟩
abbrev cX1_settle : ByteArray := prog_3_method_3_code
def yX1_settle : MethodName := ⟨RX1, "settle", "()V"⟩
abbrev cX1_aboveMean : ByteArray := prog_3_method_4_code
def yX1_aboveMean : MethodName := ⟨RX1, "aboveMean", "(I)J"⟩
abbrev cX1_becomeShapeOf : ByteArray := prog_3_method_5_code
def yX1_becomeShapeOf : MethodName := ⟨RX1, "becomeShapeOf", "(LLaneFour$Levels;)V"⟩
abbrev cX1_joinFirstFall : ByteArray := prog_3_method_6_code
def yX1_joinFirstFall : MethodName := ⟨RX1, "joinFirstFall", "()Z"⟩
abbrev cX1_join : ByteArray := prog_3_method_7_code
def yX1_join : MethodName := ⟨RX1, "join", "(II)V"⟩
def RX2 : String := "LaneFour$Maker"
def TX2 : u_T := fun k => match k with
  | 0 => ("LaneFour$Maker", "meet", "LLaneFour$Meet;", true)
  | 1 => ("LaneFour$Maker", "rule", "LLaneFour$Rule;", true)
  | 2 => ("LaneFour$Maker", "laws", "LLaneFour$World;", true)
  | _ => ("LaneFour$Maker", "seed", "I", false)
def tyX2 : Nat → FieldType := fun k => match k with
  | 0 => .object "LaneFour$Meet"
  | 1 => .object "LaneFour$Rule"
  | 2 => .object "LaneFour$World"
  | _ => .int
abbrev wsX20 : List Cond := u_ws RX2 TX2 4
theorem nmX2 : ∀ a, a < 4 → ∀ b, b < 4 → a ≠ b → (TX2 a).2.1 ≠ (TX2 b).2.1 := by decide +kernel
theorem tyX2_ok : ∀ k, k < 4 → parseFieldDescriptor (TX2 k).2.2.1 = some (tyX2 k) := by decide +kernel
abbrev cX2_init : ByteArray := prog_4_method_1_code
def yX2_init : MethodName := ⟨RX2, "<init>", "(LLaneFour$Meet;LLaneFour$Rule;LLaneFour$World;)V"⟩
abbrev cX2_fill : ByteArray := prog_4_method_2_code
def yX2_fill : MethodName := ⟨RX2, "fill", "(IIII)V"⟩
abbrev cX2_rankAmong : ByteArray := prog_4_method_3_code
def yX2_rankAmong : MethodName := ⟨RX2, "rankAmong", "(III)I"⟩
abbrev cX2_makeTimes : ByteArray := prog_4_method_4_code
def yX2_makeTimes : MethodName := ⟨RX2, "makeTimes", "(III)V"⟩
abbrev cX2_lot : ByteArray := prog_4_method_5_code
def yX2_lot : MethodName := ⟨RX2, "lot", "(I)I"⟩
def RX3 : String := "LaneFour$Meet"
def TX3 : u_T := fun k => match k with
  | 0 => ("LaneFour$Meet", "races", "I", false)
  | 1 => ("LaneFour$Meet", "swims", "I", false)
  | 2 => ("LaneFour$Meet", "lengths", "[I", true)
  | 3 => ("LaneFour$Meet", "dayOf", "[I", true)
  | 4 => ("LaneFour$Meet", "raceOf", "[I", true)
  | 5 => ("LaneFour$Meet", "swimmerOf", "[I", true)
  | 6 => ("LaneFour$Meet", "laneOf", "[I", true)
  | 7 => ("LaneFour$Meet", "times", "[I", true)
  | _ => ("LaneFour$Meet", "said", "[I", true)
def tyX3 : Nat → FieldType := fun k => match k with
  | 0 => .int
  | 1 => .int
  | 2 => .array .int
  | 3 => .array .int
  | 4 => .array .int
  | 5 => .array .int
  | 6 => .array .int
  | 7 => .array .int
  | _ => .array .int
abbrev wsX30 : List Cond := u_ws RX3 TX3 9
theorem nmX3 : ∀ a, a < 9 → ∀ b, b < 9 → a ≠ b → (TX3 a).2.1 ≠ (TX3 b).2.1 := by decide +kernel
theorem tyX3_ok : ∀ k, k < 9 → parseFieldDescriptor (TX3 k).2.2.1 = some (tyX3 k) := by decide +kernel
abbrev cX3_init : ByteArray := prog_5_method_1_code
def yX3_init : MethodName := ⟨RX3, "<init>", "()V"⟩
abbrev cX3_hasRace : ByteArray := prog_5_method_2_code
def yX3_hasRace : MethodName := ⟨RX3, "hasRace", "(I)Z"⟩
abbrev cX3_hasSwim : ByteArray := prog_5_method_3_code
def yX3_hasSwim : MethodName := ⟨RX3, "hasSwim", "(I)Z"⟩
abbrev cX3_isTaken : ByteArray := prog_5_method_4_code
def yX3_isTaken : MethodName := ⟨RX3, "isTaken", "(III)Z"⟩
abbrev cX3_addRace : ByteArray := prog_5_method_5_code
def yX3_addRace : MethodName := ⟨RX3, "addRace", "(II)I"⟩
abbrev cX3_addSwim : ByteArray := prog_5_method_6_code
def yX3_addSwim : MethodName := ⟨RX3, "addSwim", "(III)I"⟩
abbrev cX3_lengthsOf : ByteArray := prog_5_method_7_code
def yX3_lengthsOf : MethodName := ⟨RX3, "lengthsOf", "(I)I"⟩
abbrev cX3_timeOf : ByteArray := prog_5_method_8_code
def yX3_timeOf : MethodName := ⟨RX3, "timeOf", "(II)I"⟩
abbrev cX3_setTime : ByteArray := prog_5_method_9_code
def yX3_setTime : MethodName := ⟨RX3, "setTime", "(III)V"⟩
abbrev cX3_feltIn : ByteArray := prog_5_method_10_code
def yX3_feltIn : MethodName := ⟨RX3, "feltIn", "(I)I"⟩
abbrev cX3_togetherIn : ByteArray := prog_5_method_11_code
def yX3_togetherIn : MethodName := ⟨RX3, "togetherIn", "(I)I"⟩
abbrev cX3_togetherInAll : ByteArray := prog_5_method_12_code
def yX3_togetherInAll : MethodName := ⟨RX3, "togetherInAll", "()I"⟩
abbrev cX3_doubledMean : ByteArray := prog_5_method_13_code
def yX3_doubledMean : MethodName := ⟨RX3, "doubledMean", "(II)I"⟩
abbrev cX3_hasDiff : ByteArray := prog_5_method_14_code
def yX3_hasDiff : MethodName := ⟨RX3, "hasDiff", "(I)Z"⟩
abbrev cX3_doubledDiff : ByteArray := prog_5_method_15_code
def yX3_doubledDiff : MethodName := ⟨RX3, "doubledDiff", "(I)I"⟩
abbrev cX3_diffsInAll : ByteArray := prog_5_method_16_code
def yX3_diffsInAll : MethodName := ⟨RX3, "diffsInAll", "()I"⟩
abbrev cX3_isSingle : ByteArray := prog_5_method_17_code
def yX3_isSingle : MethodName := ⟨RX3, "isSingle", "(I)Z"⟩
abbrev cX3_singlesInAll : ByteArray := prog_5_method_18_code
def yX3_singlesInAll : MethodName := ⟨RX3, "singlesInAll", "()I"⟩
abbrev cX3_feltInRace : ByteArray := prog_5_method_19_code
def yX3_feltInRace : MethodName := ⟨RX3, "feltInRace", "(I)I"⟩
abbrev cX3_tenthsInRace : ByteArray := prog_5_method_20_code
def yX3_tenthsInRace : MethodName := ⟨RX3, "tenthsInRace", "(I)I"⟩
abbrev cX3_tenthsIn : ByteArray := prog_5_method_21_code
def yX3_tenthsIn : MethodName := ⟨RX3, "tenthsIn", "(I)I"⟩
abbrev cX3_isBetter : ByteArray := prog_5_method_22_code
def yX3_isBetter : MethodName := ⟨RX3, "isBetter", "(II)Z"⟩
def RX4 : String := "LaneFour$Rule"
def TX4 : u_T := fun k => match k with
  | _ => ("LaneFour$Rule", "text", "LLaneFour$Text;", true)
def tyX4 : Nat → FieldType := fun k => match k with
  | _ => .object "LaneFour$Text"
abbrev wsX40 : List Cond := u_ws RX4 TX4 1
theorem nmX4 : ∀ a, a < 1 → ∀ b, b < 1 → a ≠ b → (TX4 a).2.1 ≠ (TX4 b).2.1 := by decide +kernel
theorem tyX4_ok : ∀ k, k < 1 → parseFieldDescriptor (TX4 k).2.2.1 = some (tyX4 k) := by decide +kernel
abbrev cX4_init : ByteArray := prog_6_method_1_code
def yX4_init : MethodName := ⟨RX4, "<init>", "(LLaneFour$Text;)V"⟩
abbrev cX4_faultAt : ByteArray := prog_6_method_2_code
def yX4_faultAt : MethodName := ⟨RX4, "faultAt", "()I"⟩
abbrev cX4_laneFor : ByteArray := prog_6_method_3_code
def yX4_laneFor : MethodName := ⟨RX4, "laneFor", "(I)I"⟩
abbrev cX4_isKeptBy : ByteArray := prog_6_method_4_code
def yX4_isKeptBy : MethodName := ⟨RX4, "isKeptBy", "(LLaneFour$Meet;I)Z"⟩
abbrev cX4_rankOf : ByteArray := prog_6_method_5_code
def yX4_rankOf : MethodName := ⟨RX4, "rankOf", "(LLaneFour$Meet;I)I"⟩
def RX5 : String := "LaneFour$Sheet"
def TX5 : u_T := fun k => match k with
  | 0 => ("LaneFour$Sheet", "isLost", "Z", false)
  | 1 => ("LaneFour$Sheet", "kind", "I", false)
  | 2 => ("LaneFour$Sheet", "size", "I", false)
  | _ => ("LaneFour$Sheet", "items", "[I", true)
def tyX5 : Nat → FieldType := fun k => match k with
  | 0 => .boolean
  | 1 => .int
  | 2 => .int
  | _ => .array .int
abbrev wsX50 : List Cond := u_ws RX5 TX5 4
theorem nmX5 : ∀ a, a < 4 → ∀ b, b < 4 → a ≠ b → (TX5 a).2.1 ≠ (TX5 b).2.1 := by decide +kernel
theorem tyX5_ok : ∀ k, k < 4 → parseFieldDescriptor (TX5 k).2.2.1 = some (tyX5 k) := by decide +kernel
abbrev cX5_init : ByteArray := prog_7_method_1_code
def yX5_init : MethodName := ⟨RX5, "<init>", "()V"⟩
abbrev cX5_renew : ByteArray := prog_7_method_2_code
def yX5_renew : MethodName := ⟨RX5, "renew", "(II)V"⟩
abbrev cX5_hasItems : ByteArray := prog_7_method_3_code
def yX5_hasItems : MethodName := ⟨RX5, "hasItems", "(II)Z"⟩
abbrev cX5_findingAt : ByteArray := prog_7_method_4_code
def yX5_findingAt : MethodName := ⟨RX5, "findingAt", "(II)I"⟩
abbrev cX5_setItem : ByteArray := prog_7_method_5_code
def yX5_setItem : MethodName := ⟨RX5, "setItem", "(II)V"⟩
def RX6 : String := "LaneFour$Singles"
def TX6 : u_T := fun k => match k with
  | 0 => ("LaneFour$Singles", "meet", "LLaneFour$Meet;", true)
  | 1 => ("LaneFour$Singles", "shape", "LLaneFour$Levels;", true)
  | 2 => ("LaneFour$Singles", "wins", "[I", true)
  | 3 => ("LaneFour$Singles", "best", "[I", true)
  | 4 => ("LaneFour$Singles", "row", "[I", true)
  | 5 => ("LaneFour$Singles", "mostPairs", "I", false)
  | 6 => ("LaneFour$Singles", "rights", "[J", true)
  | _ => ("LaneFour$Singles", "rightsBelow", "J", false)
def tyX6 : Nat → FieldType := fun k => match k with
  | 0 => .object "LaneFour$Meet"
  | 1 => .object "LaneFour$Levels"
  | 2 => .array .int
  | 3 => .array .int
  | 4 => .array .int
  | 5 => .int
  | 6 => .array .long
  | _ => .long
abbrev wsX60 : List Cond := u_ws RX6 TX6 8
theorem nmX6 : ∀ a, a < 8 → ∀ b, b < 8 → a ≠ b → (TX6 a).2.1 ≠ (TX6 b).2.1 := by decide +kernel
theorem tyX6_ok : ∀ k, k < 8 → parseFieldDescriptor (TX6 k).2.2.1 = some (tyX6 k) := by decide +kernel
abbrev cX6_init : ByteArray := prog_8_method_1_code
def yX6_init : MethodName := ⟨RX6, "<init>", "(LLaneFour$Meet;LLaneFour$Levels;)V"⟩
abbrev cX6_survey : ByteArray := prog_8_method_2_code
def yX6_survey : MethodName := ⟨RX6, "survey", "()V"⟩
abbrev cX6_addPairsOf : ByteArray := prog_8_method_3_code
def yX6_addPairsOf : MethodName := ⟨RX6, "addPairsOf", "(I)V"⟩
abbrev cX6_arrange : ByteArray := prog_8_method_4_code
def yX6_arrange : MethodName := ⟨RX6, "arrange", "()V"⟩
abbrev cX6_leastFirst : ByteArray := prog_8_method_5_code
def yX6_leastFirst : MethodName := ⟨RX6, "leastFirst", "(I)I"⟩
abbrev cX6_pairsIfFirst : ByteArray := prog_8_method_6_code
def yX6_pairsIfFirst : MethodName := ⟨RX6, "pairsIfFirst", "(II)I"⟩
abbrev cX6_putRight : ByteArray := prog_8_method_7_code
def yX6_putRight : MethodName := ⟨RX6, "putRight", "()V"⟩
abbrev cX6_slowness : ByteArray := prog_8_method_8_code
def yX6_slowness : MethodName := ⟨RX6, "slowness", "(II)J"⟩
abbrev cX6_placeOf : ByteArray := prog_8_method_9_code
def yX6_placeOf : MethodName := ⟨RX6, "placeOf", "(II)I"⟩
abbrev cX6_changedMedals : ByteArray := prog_8_method_10_code
def yX6_changedMedals : MethodName := ⟨RX6, "changedMedals", "(I)I"⟩
abbrev cX6_hasMedal : ByteArray := prog_8_method_11_code
def yX6_hasMedal : MethodName := ⟨RX6, "hasMedal", "(II)Z"⟩
def RX7 : String := "LaneFour$Text"
def TX7 : u_T := fun k => match k with
  | 0 => ("LaneFour$Text", "bytes", "[I", true)
  | _ => ("LaneFour$Text", "size", "I", false)
def tyX7 : Nat → FieldType := fun k => match k with
  | 0 => .array .int
  | _ => .int
abbrev wsX70 : List Cond := u_ws RX7 TX7 2
theorem nmX7 : ∀ a, a < 2 → ∀ b, b < 2 → a ≠ b → (TX7 a).2.1 ≠ (TX7 b).2.1 := by decide +kernel
theorem tyX7_ok : ∀ k, k < 2 → parseFieldDescriptor (TX7 k).2.2.1 = some (tyX7 k) := by decide +kernel
abbrev cX7_init : ByteArray := prog_9_method_1_code
def yX7_init : MethodName := ⟨RX7, "<init>", "(I)V"⟩
abbrev cX7_isFull : ByteArray := prog_9_method_2_code
def yX7_isFull : MethodName := ⟨RX7, "isFull", "()Z"⟩
abbrev cX7_append : ByteArray := prog_9_method_3_code
def yX7_append : MethodName := ⟨RX7, "append", "(I)I"⟩
abbrev cX7_clear : ByteArray := prog_9_method_4_code
def yX7_clear : MethodName := ⟨RX7, "clear", "()I"⟩
def RX8 : String := "LaneFour$Water"
def TX8 : u_T := fun k => match k with
  | 0 => ("LaneFour$Water", "meet", "LLaneFour$Meet;", true)
  | 1 => ("LaneFour$Water", "plain", "LLaneFour$Levels;", true)
  | 2 => ("LaneFour$Water", "shape", "LLaneFour$Levels;", true)
  | 3 => ("LaneFour$Water", "has", "[Z", true)
  | 4 => ("LaneFour$Water", "doubled", "[I", true)
  | 5 => ("LaneFour$Water", "leanOfDay", "[I", true)
  | 6 => ("LaneFour$Water", "ranFrom", "I", false)
  | 7 => ("LaneFour$Water", "ranTo", "I", false)
  | 8 => ("LaneFour$Water", "dealt", "[J", true)
  | _ => ("LaneFour$Water", "turns", "[I", true)
def tyX8 : Nat → FieldType := fun k => match k with
  | 0 => .object "LaneFour$Meet"
  | 1 => .object "LaneFour$Levels"
  | 2 => .object "LaneFour$Levels"
  | 3 => .array .boolean
  | 4 => .array .int
  | 5 => .array .int
  | 6 => .int
  | 7 => .int
  | 8 => .array .long
  | _ => .array .int
abbrev wsX80 : List Cond := u_ws RX8 TX8 10
theorem nmX8 : ∀ a, a < 10 → ∀ b, b < 10 → a ≠ b → (TX8 a).2.1 ≠ (TX8 b).2.1 := by decide +kernel
theorem tyX8_ok : ∀ k, k < 10 → parseFieldDescriptor (TX8 k).2.2.1 = some (tyX8 k) := by decide +kernel
abbrev cX8_init : ByteArray := prog_10_method_1_code
def yX8_init : MethodName := ⟨RX8, "<init>", "(LLaneFour$Meet;LLaneFour$Levels;)V"⟩
abbrev cX8_survey : ByteArray := prog_10_method_2_code
def yX8_survey : MethodName := ⟨RX8, "survey", "()V"⟩
abbrev cX8_surveyDays : ByteArray := prog_10_method_3_code
def yX8_surveyDays : MethodName := ⟨RX8, "surveyDays", "()V"⟩
abbrev cX8_leanOfPair : ByteArray := prog_10_method_4_code
def yX8_leanOfPair : MethodName := ⟨RX8, "leanOfPair", "(II)I"⟩
abbrev cX8_leanOf : ByteArray := prog_10_method_5_code
def yX8_leanOf : MethodName := ⟨RX8, "leanOf", "(II)I"⟩
abbrev cX8_findRan : ByteArray := prog_10_method_6_code
def yX8_findRan : MethodName := ⟨RX8, "findRan", "()V"⟩
abbrev cX8_chanceOfShape : ByteArray := prog_10_method_7_code
def yX8_chanceOfShape : MethodName := ⟨RX8, "chanceOfShape", "()I"⟩
abbrev cX8_shareOfOrders : ByteArray := prog_10_method_8_code
def yX8_shareOfOrders : MethodName := ⟨RX8, "shareOfOrders", "(I)I"⟩
abbrev cX8_swap : ByteArray := prog_10_method_9_code
def yX8_swap : MethodName := ⟨RX8, "swap", "(II)J"⟩
abbrev cX8_findOwn : ByteArray := prog_10_method_10_code
def yX8_findOwn : MethodName := ⟨RX8, "findOwn", "(ILLaneFour$Fraction;)Z"⟩
def RX9 : String := "LaneFour$World"
def TX9 : u_T := fun k => match k with
  | 0 => ("LaneFour$World", "text", "LLaneFour$Text;", true)
  | 1 => ("LaneFour$World", "values", "[I", true)
  | 2 => ("LaneFour$World", "slot", "I", false)
  | _ => ("LaneFour$World", "sign", "I", false)
def tyX9 : Nat → FieldType := fun k => match k with
  | 0 => .object "LaneFour$Text"
  | 1 => .array .int
  | 2 => .int
  | _ => .int
abbrev wsX90 : List Cond := u_ws RX9 TX9 4
theorem nmX9 : ∀ a, a < 4 → ∀ b, b < 4 → a ≠ b → (TX9 a).2.1 ≠ (TX9 b).2.1 := by decide +kernel
theorem tyX9_ok : ∀ k, k < 4 → parseFieldDescriptor (TX9 k).2.2.1 = some (tyX9 k) := by decide +kernel
abbrev cX9_init : ByteArray := prog_11_method_1_code
def yX9_init : MethodName := ⟨RX9, "<init>", "(LLaneFour$Text;)V"⟩
abbrev cX9_parse : ByteArray := prog_11_method_2_code
def yX9_parse : MethodName := ⟨RX9, "parse", "()I"⟩
abbrev cX9_clearValues : ByteArray := prog_11_method_3_code
def yX9_clearValues : MethodName := ⟨RX9, "clearValues", "()V"⟩
abbrev cX9_next : ByteArray := prog_11_method_4_code
def yX9_next : MethodName := ⟨RX9, "next", "(II)I"⟩
abbrev cX9_open : ByteArray := prog_11_method_5_code
def yX9_open : MethodName := ⟨RX9, "open", "(I)I"⟩
abbrev cX9_choose : ByteArray := prog_11_method_6_code
def yX9_choose : MethodName := ⟨RX9, "choose", "(I)I"⟩
abbrev cX9_turn : ByteArray := prog_11_method_7_code
def yX9_turn : MethodName := ⟨RX9, "turn", "()I"⟩
abbrev cX9_begin : ByteArray := prog_11_method_8_code
def yX9_begin : MethodName := ⟨RX9, "begin", "(I)I"⟩
abbrev cX9_end : ByteArray := prog_11_method_9_code
def yX9_end : MethodName := ⟨RX9, "end", "(I)I"⟩
abbrev cX9_close : ByteArray := prog_11_method_10_code
def yX9_close : MethodName := ⟨RX9, "close", "(I)I"⟩
abbrev cX9_isFigure : ByteArray := prog_11_method_11_code
def yX9_isFigure : MethodName := ⟨RX9, "isFigure", "(I)Z"⟩
def RX10 : String := "LaneFour"
def TX10 : u_T := fun k => match k with
  | 0 => ("LaneFour", "meet", "LLaneFour$Meet;", true)
  | 1 => ("LaneFour", "water", "LLaneFour$Water;", true)
  | 2 => ("LaneFour", "singles", "LLaneFour$Singles;", true)
  | 3 => ("LaneFour", "texts", "[LLaneFour$Text;", true)
  | 4 => ("LaneFour", "rule", "LLaneFour$Rule;", true)
  | 5 => ("LaneFour", "laws", "LLaneFour$World;", true)
  | 6 => ("LaneFour", "maker", "LLaneFour$Maker;", true)
  | 7 => ("LaneFour", "sheets", "[LLaneFour$Sheet;", true)
  | 8 => ("LaneFour", "fraction", "LLaneFour$Fraction;", true)
  | _ => ("LaneFour", "finding", "I", false)
def tyX10 : Nat → FieldType := fun k => match k with
  | 0 => .object "LaneFour$Meet"
  | 1 => .object "LaneFour$Water"
  | 2 => .object "LaneFour$Singles"
  | 3 => .array (.object "LaneFour$Text")
  | 4 => .object "LaneFour$Rule"
  | 5 => .object "LaneFour$World"
  | 6 => .object "LaneFour$Maker"
  | 7 => .array (.object "LaneFour$Sheet")
  | 8 => .object "LaneFour$Fraction"
  | _ => .int
abbrev wsX100 : List Cond := u_ws RX10 TX10 10
theorem nmX10 : ∀ a, a < 10 → ∀ b, b < 10 → a ≠ b → (TX10 a).2.1 ≠ (TX10 b).2.1 := by decide +kernel
theorem tyX10_ok : ∀ k, k < 10 → parseFieldDescriptor (TX10 k).2.2.1 = some (tyX10 k) := by decide +kernel
abbrev cX10_init : ByteArray := prog_1_method_1_code
def yX10_init : MethodName := ⟨RX10, "<init>", "()V"⟩
abbrev cX10_race : ByteArray := prog_1_method_2_code
def yX10_race : MethodName := ⟨RX10, "race", "(II)I"⟩
abbrev cX10_swim : ByteArray := prog_1_method_3_code
def yX10_swim : MethodName := ⟨RX10, "swim", "(III)I"⟩
abbrev cX10_time : ByteArray := prog_1_method_4_code
def yX10_time : MethodName := ⟨RX10, "time", "(III)I"⟩
abbrev cX10_read : ByteArray := prog_1_method_5_code
def yX10_read : MethodName := ⟨RX10, "read", "(II)I"⟩
abbrev cX10_seeds : ByteArray := prog_1_method_6_code
def yX10_seeds : MethodName := ⟨RX10, "seeds", "(II)I"⟩
abbrev cX10_about : ByteArray := prog_1_method_7_code
def yX10_about : MethodName := ⟨RX10, "about", "(II)I"⟩
abbrev cX10_diff : ByteArray := prog_1_method_8_code
def yX10_diff : MethodName := ⟨RX10, "diff", "(II)J"⟩
abbrev cX10_lane : ByteArray := prog_1_method_9_code
def yX10_lane : MethodName := ⟨RX10, "lane", "(III)J"⟩
abbrev cX10_counts : ByteArray := prog_1_method_10_code
def yX10_counts : MethodName := ⟨RX10, "counts", "(I)I"⟩
abbrev cX10_lean : ByteArray := prog_1_method_11_code
def yX10_lean : MethodName := ⟨RX10, "lean", "(II)I"⟩
abbrev cX10_chance : ByteArray := prog_1_method_12_code
def yX10_chance : MethodName := ⟨RX10, "chance", "()I"⟩
abbrev cX10_ran : ByteArray := prog_1_method_13_code
def yX10_ran : MethodName := ⟨RX10, "ran", "(I)I"⟩
abbrev cX10_own : ByteArray := prog_1_method_14_code
def yX10_own : MethodName := ⟨RX10, "own", "(II)J"⟩
abbrev cX10_fast : ByteArray := prog_1_method_15_code
def yX10_fast : MethodName := ⟨RX10, "fast", "(I)I"⟩
abbrev cX10_twice : ByteArray := prog_1_method_16_code
def yX10_twice : MethodName := ⟨RX10, "twice", "(II)I"⟩
abbrev cX10_order : ByteArray := prog_1_method_17_code
def yX10_order : MethodName := ⟨RX10, "order", "(I)I"⟩
abbrev cX10_right : ByteArray := prog_1_method_18_code
def yX10_right : MethodName := ⟨RX10, "right", "(II)J"⟩
abbrev cX10_place : ByteArray := prog_1_method_19_code
def yX10_place : MethodName := ⟨RX10, "place", "(II)I"⟩
abbrev cX10_medals : ByteArray := prog_1_method_20_code
def yX10_medals : MethodName := ⟨RX10, "medals", "(I)I"⟩
abbrev cX10_type : ByteArray := prog_1_method_21_code
def yX10_type : MethodName := ⟨RX10, "type", "(II)I"⟩
abbrev cX10_wipe : ByteArray := prog_1_method_22_code
def yX10_wipe : MethodName := ⟨RX10, "wipe", "(I)I"⟩
abbrev cX10_fault : ByteArray := prog_1_method_23_code
def yX10_fault : MethodName := ⟨RX10, "fault", "(I)I"⟩
abbrev cX10_given : ByteArray := prog_1_method_24_code
def yX10_given : MethodName := ⟨RX10, "given", "(I)I"⟩
abbrev cX10_tenths : ByteArray := prog_1_method_25_code
def yX10_tenths : MethodName := ⟨RX10, "tenths", "(II)I"⟩
abbrev cX10_world : ByteArray := prog_1_method_26_code
def yX10_world : MethodName := ⟨RX10, "world", "(I)I"⟩
abbrev cX10_made : ByteArray := prog_1_method_27_code
def yX10_made : MethodName := ⟨RX10, "made", "(IIIII)I"⟩
abbrev cX10_sheet : ByteArray := prog_1_method_28_code
def yX10_sheet : MethodName := ⟨RX10, "sheet", "(III)I"⟩
abbrev cX10_lose : ByteArray := prog_1_method_29_code
def yX10_lose : MethodName := ⟨RX10, "lose", "(I)I"⟩
abbrev cX10_put : ByteArray := prog_1_method_30_code
def yX10_put : MethodName := ⟨RX10, "put", "(IIII)I"⟩
abbrev cX10_get : ByteArray := prog_1_method_31_code
def yX10_get : MethodName := ⟨RX10, "get", "(III)I"⟩
abbrev cX10_copy : ByteArray := prog_1_method_32_code
def yX10_copy : MethodName := ⟨RX10, "copy", "(IIIII)I"⟩
abbrev cX10_write : ByteArray := prog_1_method_33_code
def yX10_write : MethodName := ⟨RX10, "write", "(II)I"⟩
abbrev cX10_count : ByteArray := prog_1_method_34_code
def yX10_count : MethodName := ⟨RX10, "count", "(I)I"⟩
abbrev cX10_digest : ByteArray := prog_1_method_35_code
def yX10_digest : MethodName := ⟨RX10, "digest", "()J"⟩
abbrev cX10_mix : ByteArray := prog_1_method_36_code
def yX10_mix : MethodName := ⟨RX10, "mix", "(JJ)J"⟩
abbrev cX10_mixLanes : ByteArray := prog_1_method_37_code
def yX10_mixLanes : MethodName := ⟨RX10, "mixLanes", "(J)J"⟩
abbrev cX10_mixDays : ByteArray := prog_1_method_38_code
def yX10_mixDays : MethodName := ⟨RX10, "mixDays", "(J)J"⟩
abbrev cX10_mixOrder : ByteArray := prog_1_method_39_code
def yX10_mixOrder : MethodName := ⟨RX10, "mixOrder", "(J)J"⟩
abbrev cX10_mixRaces : ByteArray := prog_1_method_40_code
def yX10_mixRaces : MethodName := ⟨RX10, "mixRaces", "(J)J"⟩
abbrev cX10_mixSwims : ByteArray := prog_1_method_41_code
def yX10_mixSwims : MethodName := ⟨RX10, "mixSwims", "(J)J"⟩
abbrev cX10_ofLane : ByteArray := prog_1_method_42_code
def yX10_ofLane : MethodName := ⟨RX10, "ofLane", "(III)J"⟩
abbrev cX10_givenOf : ByteArray := prog_1_method_43_code
def yX10_givenOf : MethodName := ⟨RX10, "givenOf", "(I)I"⟩
abbrev cX10_chanceOfTenths : ByteArray := prog_1_method_44_code
def yX10_chanceOfTenths : MethodName := ⟨RX10, "chanceOfTenths", "(II)I"⟩
abbrev cX10_power : ByteArray := prog_1_method_45_code
def yX10_power : MethodName := ⟨RX10, "power", "(JI)J"⟩
abbrev cX10_within : ByteArray := prog_1_method_46_code
def yX10_within : MethodName := ⟨RX10, "within", "(III)Z"⟩
abbrev cX10_isLane : ByteArray := prog_1_method_47_code
def yX10_isLane : MethodName := ⟨RX10, "isLane", "(I)Z"⟩
abbrev cX10_isSwimmer : ByteArray := prog_1_method_48_code
def yX10_isSwimmer : MethodName := ⟨RX10, "isSwimmer", "(I)Z"⟩
abbrev cX10_isDay : ByteArray := prog_1_method_49_code
def yX10_isDay : MethodName := ⟨RX10, "isDay", "(I)Z"⟩
abbrev cX10_isSheet : ByteArray := prog_1_method_50_code
def yX10_isSheet : MethodName := ⟨RX10, "isSheet", "(I)Z"⟩
abbrev cX10_isType : ByteArray := prog_1_method_51_code
def yX10_isType : MethodName := ⟨RX10, "isType", "(I)Z"⟩
abbrev cX10_isText : ByteArray := prog_1_method_52_code
def yX10_isText : MethodName := ⟨RX10, "isText", "(I)Z"⟩
abbrev cX10_isPart : ByteArray := prog_1_method_53_code
def yX10_isPart : MethodName := ⟨RX10, "isPart", "(I)Z"⟩
abbrev cX10_mayBeRace : ByteArray := prog_1_method_54_code
def yX10_mayBeRace : MethodName := ⟨RX10, "mayBeRace", "(II)Z"⟩
abbrev cX10_mayBeTime : ByteArray := prog_1_method_55_code
def yX10_mayBeTime : MethodName := ⟨RX10, "mayBeTime", "(I)Z"⟩
abbrev cX10_refusal : ByteArray := prog_1_method_56_code
def yX10_refusal : MethodName := ⟨RX10, "refusal", "(I)J"⟩
abbrev cX10_found : ByteArray := prog_1_method_57_code
def yX10_found : MethodName := ⟨RX10, "found", "(I)I"⟩
def RX11 : String := "LaneFourModel"
def TX11 : u_T := fun k => match k with
  | 0 => ("LaneFourModel", "races", "I", false)
  | 1 => ("LaneFourModel", "lengthsOf", "[I", true)
  | 2 => ("LaneFourModel", "dayOf", "[I", true)
  | 3 => ("LaneFourModel", "swims", "I", false)
  | 4 => ("LaneFourModel", "raceOf", "[I", true)
  | 5 => ("LaneFourModel", "swimmerOf", "[I", true)
  | 6 => ("LaneFourModel", "laneOf", "[I", true)
  | 7 => ("LaneFourModel", "times", "[I", true)
  | 8 => ("LaneFourModel", "seed", "[I", true)
  | 9 => ("LaneFourModel", "laneSum", "[J", true)
  | 10 => ("LaneFourModel", "laneMany", "[J", true)
  | 11 => ("LaneFourModel", "shapeSum", "[J", true)
  | 12 => ("LaneFourModel", "shapeMany", "[J", true)
  | 13 => ("LaneFourModel", "top", "J", false)
  | 14 => ("LaneFourModel", "bottom", "J", false)
  | 15 => ("LaneFourModel", "dealt", "[J", true)
  | 16 => ("LaneFourModel", "order", "[I", true)
  | 17 => ("LaneFourModel", "quicker", "[I", true)
  | 18 => ("LaneFourModel", "mostBehind", "[I", true)
  | 19 => ("LaneFourModel", "texts", "[I", true)
  | 20 => ("LaneFourModel", "typed", "[I", true)
  | 21 => ("LaneFourModel", "given", "[I", true)
  | 22 => ("LaneFourModel", "pushes", "[I", true)
  | 23 => ("LaneFourModel", "fade", "I", false)
  | 24 => ("LaneFourModel", "range", "I", false)
  | 25 => ("LaneFourModel", "at", "I", false)
  | 26 => ("LaneFourModel", "fault", "I", false)
  | 27 => ("LaneFourModel", "seedNow", "I", false)
  | 28 => ("LaneFourModel", "isThere", "[Z", true)
  | 29 => ("LaneFourModel", "types", "[I", true)
  | 30 => ("LaneFourModel", "sizes", "[I", true)
  | 31 => ("LaneFourModel", "items", "[I", true)
  | 32 => ("LaneFourModel", "moved", "[I", true)
  | _ => ("LaneFourModel", "finding", "I", false)
def tyX11 : Nat → FieldType := fun k => match k with
  | 0 => .int
  | 1 => .array .int
  | 2 => .array .int
  | 3 => .int
  | 4 => .array .int
  | 5 => .array .int
  | 6 => .array .int
  | 7 => .array .int
  | 8 => .array .int
  | 9 => .array .long
  | 10 => .array .long
  | 11 => .array .long
  | 12 => .array .long
  | 13 => .long
  | 14 => .long
  | 15 => .array .long
  | 16 => .array .int
  | 17 => .array .int
  | 18 => .array .int
  | 19 => .array .int
  | 20 => .array .int
  | 21 => .array .int
  | 22 => .array .int
  | 23 => .int
  | 24 => .int
  | 25 => .int
  | 26 => .int
  | 27 => .int
  | 28 => .array .boolean
  | 29 => .array .int
  | 30 => .array .int
  | 31 => .array .int
  | 32 => .array .int
  | _ => .int
abbrev wsX110 : List Cond := u_ws RX11 TX11 34
theorem nmX11 : ∀ a, a < 34 → ∀ b, b < 34 → a ≠ b → (TX11 a).2.1 ≠ (TX11 b).2.1 := by decide +kernel
theorem tyX11_ok : ∀ k, k < 34 → parseFieldDescriptor (TX11 k).2.2.1 = some (tyX11 k) := by decide +kernel
abbrev cX11_init : ByteArray := prog_13_method_1_code
def yX11_init : MethodName := ⟨RX11, "<init>", "()V"⟩
abbrev cX11_in : ByteArray := prog_13_method_3_code
def yX11_in : MethodName := ⟨RX11, "in", "(III)Z"⟩
abbrev cX11_no : ByteArray := prog_13_method_4_code
def yX11_no : MethodName := ⟨RX11, "no", "(I)J"⟩
abbrev cX11_divisor : ByteArray := prog_13_method_5_code
def yX11_divisor : MethodName := ⟨RX11, "divisor", "(JJ)J"⟩
abbrev cX11_lowest : ByteArray := prog_13_method_6_code
def yX11_lowest : MethodName := ⟨RX11, "lowest", "(JJI)J"⟩
abbrev cX11_has : ByteArray := prog_13_method_7_code
def yX11_has : MethodName := ⟨RX11, "has", "(II)Z"⟩
abbrev cX11_isRace : ByteArray := prog_13_method_8_code
def yX11_isRace : MethodName := ⟨RX11, "isRace", "(I)Z"⟩
abbrev cX11_isSwim : ByteArray := prog_13_method_9_code
def yX11_isSwim : MethodName := ⟨RX11, "isSwim", "(I)Z"⟩
abbrev cX11_isLane : ByteArray := prog_13_method_10_code
def yX11_isLane : MethodName := ⟨RX11, "isLane", "(I)Z"⟩
abbrev cX11_isSwimmer : ByteArray := prog_13_method_11_code
def yX11_isSwimmer : MethodName := ⟨RX11, "isSwimmer", "(I)Z"⟩
abbrev cX11_raceMore : ByteArray := prog_13_method_12_code
def yX11_raceMore : MethodName := ⟨RX11, "raceMore", "(II)I"⟩
abbrev cX11_race : ByteArray := prog_13_method_13_code
def yX11_race : MethodName := ⟨RX11, "race", "(II)I"⟩
abbrev cX11_swimMore : ByteArray := prog_13_method_14_code
def yX11_swimMore : MethodName := ⟨RX11, "swimMore", "(III)I"⟩
abbrev cX11_swim : ByteArray := prog_13_method_15_code
def yX11_swim : MethodName := ⟨RX11, "swim", "(III)I"⟩
abbrev cX11_isTime : ByteArray := prog_13_method_16_code
def yX11_isTime : MethodName := ⟨RX11, "isTime", "(I)Z"⟩
abbrev cX11_time : ByteArray := prog_13_method_17_code
def yX11_time : MethodName := ⟨RX11, "time", "(III)I"⟩
abbrev cX11_read : ByteArray := prog_13_method_18_code
def yX11_read : MethodName := ⟨RX11, "read", "(II)I"⟩
abbrev cX11_seeds : ByteArray := prog_13_method_19_code
def yX11_seeds : MethodName := ⟨RX11, "seeds", "(II)I"⟩
abbrev cX11_feltOf : ByteArray := prog_13_method_20_code
def yX11_feltOf : MethodName := ⟨RX11, "feltOf", "(I)I"⟩
abbrev cX11_totalOf : ByteArray := prog_13_method_21_code
def yX11_totalOf : MethodName := ⟨RX11, "totalOf", "(I)I"⟩
abbrev cX11_about : ByteArray := prog_13_method_22_code
def yX11_about : MethodName := ⟨RX11, "about", "(II)I"⟩
abbrev cX11_feltOn : ByteArray := prog_13_method_23_code
def yX11_feltOn : MethodName := ⟨RX11, "feltOn", "(II)I"⟩
abbrev cX11_twiceMean : ByteArray := prog_13_method_24_code
def yX11_twiceMean : MethodName := ⟨RX11, "twiceMean", "(II)I"⟩
abbrev cX11_hasDiff : ByteArray := prog_13_method_25_code
def yX11_hasDiff : MethodName := ⟨RX11, "hasDiff", "(I)Z"⟩
abbrev cX11_twiceDiff : ByteArray := prog_13_method_26_code
def yX11_twiceDiff : MethodName := ⟨RX11, "twiceDiff", "(I)I"⟩
abbrev cX11_diff : ByteArray := prog_13_method_27_code
def yX11_diff : MethodName := ⟨RX11, "diff", "(II)J"⟩
abbrev cX11_laysLanes : ByteArray := prog_13_method_28_code
def yX11_laysLanes : MethodName := ⟨RX11, "laysLanes", "()V"⟩
abbrev cX11_laysShape : ByteArray := prog_13_method_29_code
def yX11_laysShape : MethodName := ⟨RX11, "laysShape", "()V"⟩
abbrev cX11_joins : ByteArray := prog_13_method_30_code
def yX11_joins : MethodName := ⟨RX11, "joins", "(II)V"⟩
abbrev cX11_lays : ByteArray := prog_13_method_31_code
def yX11_lays : MethodName := ⟨RX11, "lays", "(JJ)V"⟩
abbrev cX11_adds : ByteArray := prog_13_method_32_code
def yX11_adds : MethodName := ⟨RX11, "adds", "(JJ)V"⟩
abbrev cX11_lanesMany : ByteArray := prog_13_method_33_code
def yX11_lanesMany : MethodName := ⟨RX11, "lanesMany", "()I"⟩
abbrev cX11_laysLane : ByteArray := prog_13_method_34_code
def yX11_laysLane : MethodName := ⟨RX11, "laysLane", "(II)V"⟩
abbrev cX11_laneNow : ByteArray := prog_13_method_35_code
def yX11_laneNow : MethodName := ⟨RX11, "laneNow", "(III)J"⟩
abbrev cX11_lane : ByteArray := prog_13_method_36_code
def yX11_lane : MethodName := ⟨RX11, "lane", "(III)J"⟩
abbrev cX11_countsNow : ByteArray := prog_13_method_37_code
def yX11_countsNow : MethodName := ⟨RX11, "countsNow", "(I)I"⟩
abbrev cX11_counts : ByteArray := prog_13_method_38_code
def yX11_counts : MethodName := ⟨RX11, "counts", "(I)I"⟩
abbrev cX11_leanNow : ByteArray := prog_13_method_39_code
def yX11_leanNow : MethodName := ⟨RX11, "leanNow", "(II)I"⟩
abbrev cX11_lean : ByteArray := prog_13_method_40_code
def yX11_lean : MethodName := ⟨RX11, "lean", "(II)I"⟩
abbrev cX11_turns : ByteArray := prog_13_method_41_code
def yX11_turns : MethodName := ⟨RX11, "turns", "(I)Z"⟩
abbrev cX11_chanceNow : ByteArray := prog_13_method_42_code
def yX11_chanceNow : MethodName := ⟨RX11, "chanceNow", "()I"⟩
abbrev cX11_chance : ByteArray := prog_13_method_43_code
def yX11_chance : MethodName := ⟨RX11, "chance", "()I"⟩
abbrev cX11_ranNow : ByteArray := prog_13_method_44_code
def yX11_ranNow : MethodName := ⟨RX11, "ranNow", "(I)I"⟩
abbrev cX11_ran : ByteArray := prog_13_method_45_code
def yX11_ran : MethodName := ⟨RX11, "ran", "(I)I"⟩
abbrev cX11_laysOwn : ByteArray := prog_13_method_46_code
def yX11_laysOwn : MethodName := ⟨RX11, "laysOwn", "(I)Z"⟩
abbrev cX11_own : ByteArray := prog_13_method_47_code
def yX11_own : MethodName := ⟨RX11, "own", "(II)J"⟩
abbrev cX11_fast : ByteArray := prog_13_method_48_code
def yX11_fast : MethodName := ⟨RX11, "fast", "(I)I"⟩
abbrev cX11_isSingle : ByteArray := prog_13_method_49_code
def yX11_isSingle : MethodName := ⟨RX11, "isSingle", "(I)Z"⟩
abbrev cX11_twiceNow : ByteArray := prog_13_method_50_code
def yX11_twiceNow : MethodName := ⟨RX11, "twiceNow", "(II)I"⟩
abbrev cX11_twice : ByteArray := prog_13_method_51_code
def yX11_twice : MethodName := ⟨RX11, "twice", "(II)I"⟩
abbrev cX11_gain : ByteArray := prog_13_method_52_code
def yX11_gain : MethodName := ⟨RX11, "gain", "(II)I"⟩
abbrev cX11_orders : ByteArray := prog_13_method_53_code
def yX11_orders : MethodName := ⟨RX11, "orders", "()V"⟩
abbrev cX11_orderNow : ByteArray := prog_13_method_54_code
def yX11_orderNow : MethodName := ⟨RX11, "orderNow", "(I)I"⟩
abbrev cX11_order : ByteArray := prog_13_method_55_code
def yX11_order : MethodName := ⟨RX11, "order", "(I)I"⟩
abbrev cX11_laysRight : ByteArray := prog_13_method_56_code
def yX11_laysRight : MethodName := ⟨RX11, "laysRight", "(I)V"⟩
abbrev cX11_right : ByteArray := prog_13_method_57_code
def yX11_right : MethodName := ⟨RX11, "right", "(II)J"⟩
abbrev cX11_isRightLess : ByteArray := prog_13_method_58_code
def yX11_isRightLess : MethodName := ⟨RX11, "isRightLess", "(II)Z"⟩
abbrev cX11_placeNow : ByteArray := prog_13_method_59_code
def yX11_placeNow : MethodName := ⟨RX11, "placeNow", "(II)I"⟩
abbrev cX11_place : ByteArray := prog_13_method_60_code
def yX11_place : MethodName := ⟨RX11, "place", "(II)I"⟩
abbrev cX11_medalsNow : ByteArray := prog_13_method_61_code
def yX11_medalsNow : MethodName := ⟨RX11, "medalsNow", "(I)I"⟩
abbrev cX11_medals : ByteArray := prog_13_method_62_code
def yX11_medals : MethodName := ⟨RX11, "medals", "(I)I"⟩
abbrev cX11_isText : ByteArray := prog_13_method_63_code
def yX11_isText : MethodName := ⟨RX11, "isText", "(I)Z"⟩
abbrev cX11_type : ByteArray := prog_13_method_64_code
def yX11_type : MethodName := ⟨RX11, "type", "(II)I"⟩
abbrev cX11_wipe : ByteArray := prog_13_method_65_code
def yX11_wipe : MethodName := ⟨RX11, "wipe", "(I)I"⟩
abbrev cX11_ruleFault : ByteArray := prog_13_method_66_code
def yX11_ruleFault : MethodName := ⟨RX11, "ruleFault", "()I"⟩
abbrev cX11_byteNow : ByteArray := prog_13_method_67_code
def yX11_byteNow : MethodName := ⟨RX11, "byteNow", "()I"⟩
abbrev cX11_expects : ByteArray := prog_13_method_68_code
def yX11_expects : MethodName := ⟨RX11, "expects", "(I)V"⟩
abbrev cX11_number : ByteArray := prog_13_method_69_code
def yX11_number : MethodName := ⟨RX11, "number", "(I)I"⟩
abbrev cX11_part : ByteArray := prog_13_method_70_code
def yX11_part : MethodName := ⟨RX11, "part", "()V"⟩
abbrev cX11_plain : ByteArray := prog_13_method_71_code
def yX11_plain : MethodName := ⟨RX11, "plain", "()V"⟩
abbrev cX11_worldFault : ByteArray := prog_13_method_72_code
def yX11_worldFault : MethodName := ⟨RX11, "worldFault", "()I"⟩
abbrev cX11_fault : ByteArray := prog_13_method_73_code
def yX11_fault : MethodName := ⟨RX11, "fault", "(I)I"⟩
abbrev cX11_isBetter : ByteArray := prog_13_method_74_code
def yX11_isBetter : MethodName := ⟨RX11, "isBetter", "(II)Z"⟩
abbrev cX11_givenNow : ByteArray := prog_13_method_75_code
def yX11_givenNow : MethodName := ⟨RX11, "givenNow", "(I)I"⟩
abbrev cX11_given : ByteArray := prog_13_method_76_code
def yX11_given : MethodName := ⟨RX11, "given", "(I)I"⟩
abbrev cX11_tenthsNow : ByteArray := prog_13_method_77_code
def yX11_tenthsNow : MethodName := ⟨RX11, "tenthsNow", "(II)I"⟩
abbrev cX11_tenths : ByteArray := prog_13_method_78_code
def yX11_tenths : MethodName := ⟨RX11, "tenths", "(II)I"⟩
abbrev cX11_worldNow : ByteArray := prog_13_method_79_code
def yX11_worldNow : MethodName := ⟨RX11, "worldNow", "(I)I"⟩
abbrev cX11_world : ByteArray := prog_13_method_80_code
def yX11_world : MethodName := ⟨RX11, "world", "(I)I"⟩
abbrev cX11_lot : ByteArray := prog_13_method_81_code
def yX11_lot : MethodName := ⟨RX11, "lot", "(I)I"⟩
abbrev cX11_made : ByteArray := prog_13_method_82_code
def yX11_made : MethodName := ⟨RX11, "made", "(IIIII)I"⟩
abbrev cX11_meets : ByteArray := prog_13_method_83_code
def yX11_meets : MethodName := ⟨RX11, "meets", "(I)I"⟩
abbrev cX11_isSheet : ByteArray := prog_13_method_84_code
def yX11_isSheet : MethodName := ⟨RX11, "isSheet", "(I)Z"⟩
abbrev cX11_sheet : ByteArray := prog_13_method_85_code
def yX11_sheet : MethodName := ⟨RX11, "sheet", "(III)I"⟩
abbrev cX11_lose : ByteArray := prog_13_method_86_code
def yX11_lose : MethodName := ⟨RX11, "lose", "(I)I"⟩
abbrev cX11_lacks : ByteArray := prog_13_method_87_code
def yX11_lacks : MethodName := ⟨RX11, "lacks", "(III)I"⟩
abbrev cX11_keep : ByteArray := prog_13_method_88_code
def yX11_keep : MethodName := ⟨RX11, "keep", "(III)V"⟩
abbrev cX11_put : ByteArray := prog_13_method_89_code
def yX11_put : MethodName := ⟨RX11, "put", "(IIII)I"⟩
abbrev cX11_get : ByteArray := prog_13_method_90_code
def yX11_get : MethodName := ⟨RX11, "get", "(III)I"⟩
abbrev cX11_copy : ByteArray := prog_13_method_91_code
def yX11_copy : MethodName := ⟨RX11, "copy", "(IIIII)I"⟩
abbrev cX11_write : ByteArray := prog_13_method_92_code
def yX11_write : MethodName := ⟨RX11, "write", "(II)I"⟩
abbrev cX11_countNow : ByteArray := prog_13_method_93_code
def yX11_countNow : MethodName := ⟨RX11, "countNow", "(I)I"⟩
abbrev cX11_count : ByteArray := prog_13_method_94_code
def yX11_count : MethodName := ⟨RX11, "count", "(I)I"⟩
abbrev cX11_digest : ByteArray := prog_13_method_95_code
def yX11_digest : MethodName := ⟨RX11, "digest", "()J"⟩
def RJ6 : String := "java/lang/Integer"
abbrev cJ6_compare_7cf53 : ByteArray := prog_14_method_40_code
def yJ6_compare_7cf53 : MethodName := ⟨RJ6, "compare", "(II)I"⟩
def RJ9 : String := "java/lang/Math"
abbrev cJ9_abs_067f4 : ByteArray := prog_15_method_61_code
def yJ9_abs_067f4 : MethodName := ⟨RJ9, "abs", "(J)J"⟩
abbrev cJ9_max_7cf53 : ByteArray := prog_15_method_65_code
def yJ9_max_7cf53 : MethodName := ⟨RJ9, "max", "(II)I"⟩
abbrev cJ9_min_7cf53 : ByteArray := prog_15_method_69_code
def yJ9_min_7cf53 : MethodName := ⟨RJ9, "min", "(II)I"⟩
def RJ10 : String := "java/lang/System"
end
section
/-! ENGINE: a pure state (cell, slot), a fixed list of shapes, and one judgement V over the kit's W. -/
/-- the tables' words that hold wherever a call goes -/
def gtb : List Cond := lw_tbl.filter goodWord
theorem gtb_m {w : Cond} (h : w ∈ lw_tbl) (hg : goodWord w = true) : w ∈ gtb := List.mem_filter.mpr ⟨h, hg⟩
abbrev classes : List vw_C := [(RX0, TX0, 2), (RX1, TX1, 7), (RX2, TX2, 4), (RX3, TX3, 9), (RX4, TX4, 1), (RX5, TX5, 4), (RX6, TX6, 8), (RX7, TX7, 2), (RX8, TX8, 10), (RX9, TX9, 4), (RX10, TX10, 10), (RX11, TX11, 34)]
theorem en_in0 : ∀ w ∈ u_ws RX0 TX0 2, w ∈ gtb := by decide +kernel
theorem en_in1 : ∀ w ∈ u_ws RX1 TX1 7, w ∈ gtb := by decide +kernel
theorem en_in2 : ∀ w ∈ u_ws RX2 TX2 4, w ∈ gtb := by decide +kernel
theorem en_in3 : ∀ w ∈ u_ws RX3 TX3 9, w ∈ gtb := by decide +kernel
theorem en_in4 : ∀ w ∈ u_ws RX4 TX4 1, w ∈ gtb := by decide +kernel
theorem en_in5 : ∀ w ∈ u_ws RX5 TX5 4, w ∈ gtb := by decide +kernel
theorem en_in6 : ∀ w ∈ u_ws RX6 TX6 8, w ∈ gtb := by decide +kernel
theorem en_in7 : ∀ w ∈ u_ws RX7 TX7 2, w ∈ gtb := by decide +kernel
theorem en_in8 : ∀ w ∈ u_ws RX8 TX8 10, w ∈ gtb := by decide +kernel
theorem en_in9 : ∀ w ∈ u_ws RX9 TX9 4, w ∈ gtb := by decide +kernel
theorem en_in10 : ∀ w ∈ u_ws RX10 TX10 10, w ∈ gtb := by decide +kernel
theorem en_in11 : ∀ w ∈ u_ws RX11 TX11 34, w ∈ gtb := by decide +kernel
theorem en_in : ∀ (ci : Nat) (q : vw_C), classes[ci]? = some q → ∀ w ∈ u_ws q.1 q.2.1 q.2.2, w ∈ gtb := by
  intro ci q h
  match ci, h with
  | 0, h => cases h; exact en_in0
  | 1, h => cases h; exact en_in1
  | 2, h => cases h; exact en_in2
  | 3, h => cases h; exact en_in3
  | 4, h => cases h; exact en_in4
  | 5, h => cases h; exact en_in5
  | 6, h => cases h; exact en_in6
  | 7, h => cases h; exact en_in7
  | 8, h => cases h; exact en_in8
  | 9, h => cases h; exact en_in9
  | 10, h => cases h; exact en_in10
  | 11, h => cases h; exact en_in11
  | k + 12, h => simp [classes] at h
def en_ty (ci : Nat) : Nat → FieldType := match ci with
  | 0 => tyX0
  | 1 => tyX1
  | 2 => tyX2
  | 3 => tyX3
  | 4 => tyX4
  | 5 => tyX5
  | 6 => tyX6
  | 7 => tyX7
  | 8 => tyX8
  | 9 => tyX9
  | 10 => tyX10
  | _ => tyX11
theorem en_tyok : ∀ (ci : Nat) (q : vw_C), classes[ci]? = some q → ∀ k, k < q.2.2 → parseFieldDescriptor (q.2.1 k).2.2.1 = some (en_ty ci k) := by
  intro ci q h
  match ci, h with
  | 0, h => cases h; exact tyX0_ok
  | 1, h => cases h; exact tyX1_ok
  | 2, h => cases h; exact tyX2_ok
  | 3, h => cases h; exact tyX3_ok
  | 4, h => cases h; exact tyX4_ok
  | 5, h => cases h; exact tyX5_ok
  | 6, h => cases h; exact tyX6_ok
  | 7, h => cases h; exact tyX7_ok
  | 8, h => cases h; exact tyX8_ok
  | 9, h => cases h; exact tyX9_ok
  | 10, h => cases h; exact tyX10_ok
  | 11, h => cases h; exact tyX11_ok
  | k + 12, h => simp [classes] at h
theorem en_nm : ∀ (ci : Nat) (q : vw_C), classes[ci]? = some q → ∀ a, a < q.2.2 → ∀ b, b < q.2.2 → a ≠ b → (q.2.1 a).2.1 ≠ (q.2.1 b).2.1 := by
  intro ci q h
  match ci, h with
  | 0, h => cases h; exact nmX0
  | 1, h => cases h; exact nmX1
  | 2, h => cases h; exact nmX2
  | 3, h => cases h; exact nmX3
  | 4, h => cases h; exact nmX4
  | 5, h => cases h; exact nmX5
  | 6, h => cases h; exact nmX6
  | 7, h => cases h; exact nmX7
  | 8, h => cases h; exact nmX8
  | 9, h => cases h; exact nmX9
  | 10, h => cases h; exact nmX10
  | 11, h => cases h; exact nmX11
  | k + 12, h => simp [classes] at h
theorem gtb_good : GoodIn gtb gtb := fun w h => ⟨h, good_of_word (List.mem_filter.mp h).2⟩
def isNest : Cond → Bool
  | .fieldLinkNest .. => true
  | .methodLinkNest .. => true
  | _ => false
/-- the links between nest mates: they hold by va_Nw -/
def nst : List Cond := lw_tbl.filter isNest
theorem nst_m {w : Cond} (h : w ∈ lw_tbl) (hg : isNest w = true) : w ∈ nst := List.mem_filter.mpr ⟨h, hg⟩
def Nst (U : State) : Prop := ∀ w ∈ nst, va_Nw w U
theorem nst_tab {w : Cond} (h : w ∈ nst) : w.onTables = true := by
  have h1 := (List.mem_filter.mp h).2
  cases w <;> first | rfl | (simp [isNest] at h1)
theorem Nst.warm {s U : State} (hW : s.WarmedH U.vm) (h : Nst s) : Nst U := by
  intro w hw
  have h1 := (List.mem_filter.mp hw).2
  have h2 := h w hw
  cases w with
  | fieldLinkNest => exact va_Nw.warmF hW h2
  | methodLinkNest => exact va_Nw.warmM hW h2
  | _ => simp [isNest] at h1
theorem Nst.same {u U : State} (e : u.vm = U.vm) (h : Nst u) : Nst U := fun w hw => va_Nw.same (nst_tab hw) e (h w hw)
abbrev Sg : Type := (Nat → Nat → Int32) × (Nat → Nat → Int64)
abbrev Shp : Type := (Nat × Nat) ⊕ (Nat × List Nat)
abbrev Gl : Type := Launch × va_G × (Nat → Nat) × (Nat → ClassId)
abbrev MI : Type := MethodName × ByteArray × Nat × Option FieldType
abbrev Mc : Type := Program × Env × Room × State × MethodId × Array Value × List Frame × Method × Code × Nat × Nat × (Nat → Prop)
def gad (g : Gl) (j : Nat) : Nat := g.2.2.1 j
def gI (σ : Sg) (j k : Nat) : Int32 := σ.1 j k
def gL (σ : Sg) (j k : Nat) : Int64 := σ.2 j k
def sI (σ : Sg) (j k : Nat) (v : Int32) : Sg := (fun a => if a = j then upd (σ.1 a) k v else σ.1 a, σ.2)
def sL (σ : Sg) (j k : Nat) (v : Int64) : Sg := (σ.1, fun a => if a = j then vp_updL (σ.2 a) k v else σ.2 a)
def gty (g : Gl) : List (ClassId × FieldType) := [(g.2.2.2 0, .int), (g.2.2.2 1, .long), (g.2.2.2 2, .boolean), (g.2.2.2 3, .object "LaneFour$Text"), (g.2.2.2 4, .object "LaneFour$Sheet")]
/-- the cells of texts[x] (0) and sheets[x] (1) -/
def rix (t x : Nat) : Nat := match t with
  | 0 => 30 + 2 * x
  | _ => 40 + 2 * x
def fv (g : Gl) (σ : Sg) (j k t : Nat) : Value := match t with
  | 0 => .int (gI σ j k)
  | 1 => .long (gL σ j k)
  | n + 2 => .ref (gad g n)
def cE (g : Gl) (σ : Sg) (j : Nat) (s : Shp) : va_E := match s with
  | .inl (0, n) => .inl (g.2.2.2 0, n, .inl (gI σ j))
  | .inl (1, n) => .inl (g.2.2.2 1, n, .inr (.inl (gL σ j)))
  | .inl (2, n) => .inl (g.2.2.2 2, n, .inl (gI σ j))
  | .inl (t + 3, n) => .inl (g.2.2.2 (t + 3), n, .inr (.inr (.inr (.inr (fun x => some (gad g (rix t x)))))))
  | .inr (ci, ks) => .inr (ci, ks.mapIdx (fun k t => fv g σ j k t))
def wd (S : List Shp) (g : Gl) (σ : Sg) : va_W := S.mapIdx (fun j s => (gad g j, cE g σ j s))
theorem wd_at {S : List Shp} {g : Gl} {σ : Sg} {j : Nat} {s : Shp} (h : S[j]? = some s) : (wd S g σ)[j]? = some (gad g j, cE g σ j s) := by simp [wd, h]
theorem wd_of {S : List Shp} {g : Gl} {σ : Sg} {j : Nat} {q : Nat × va_E} (h : (wd S g σ)[j]? = some q) : ∃ s, S[j]? = some s ∧ q = (gad g j, cE g σ j s) := by
  simp only [wd, List.getElem?_mapIdx] at h
  cases hs : S[j]? with
  | none => rw [hs] at h; cases h
  | some s => rw [hs] at h; exact ⟨s, rfl, (Option.some.inj h).symm⟩
theorem gI_same (σ : Sg) (j k : Nat) (v : Int32) : gI (sI σ j k v) j k = v := by simp [gI, sI, upd]
theorem gI_ne (σ : Sg) {j k a b : Nat} (v : Int32) (h : a ≠ j ∨ b ≠ k) : gI (sI σ j k v) a b = gI σ a b := by
  simp only [gI, sI]
  by_cases e : a = j
  · subst e
    rcases h with h | h
    · exact absurd rfl h
    · simp [upd, h]
  · simp [e]
theorem gI_row (σ : Sg) {j k a : Nat} (v : Int32) (h : a ≠ j) : gI (sI σ j k v) a = gI σ a := by funext b; exact gI_ne σ v (Or.inl h)
theorem gL_sI (σ : Sg) (j k : Nat) (v : Int32) : gL (sI σ j k v) = gL σ := rfl
theorem gI_sL (σ : Sg) (j k : Nat) (v : Int64) : gI (sL σ j k v) = gI σ := rfl
theorem gL_same (σ : Sg) (j k : Nat) (v : Int64) : gL (sL σ j k v) j k = v := by simp [gL, sL, vp_updL]
theorem gL_ne (σ : Sg) {j k a b : Nat} (v : Int64) (h : a ≠ j ∨ b ≠ k) : gL (sL σ j k v) a b = gL σ a b := by
  simp only [gL, sL]
  by_cases e : a = j
  · subst e
    rcases h with h | h
    · exact absurd rfl h
    · simp [vp_updL, h]
  · simp [e]
theorem gL_row (σ : Sg) {j k a : Nat} (v : Int64) (h : a ≠ j) : gL (sL σ j k v) a = gL σ a := by funext b; exact gL_ne σ v (Or.inl h)
theorem gI_set (σ : Sg) (j k : Nat) (v : Int32) (a b : Nat) : gI (sI σ j k v) a b = if a = j ∧ b = k then v else gI σ a b := by
  by_cases h : a = j ∧ b = k
  · rw [if_pos h, h.1, h.2, gI_same]
  · rw [if_neg h]
    exact gI_ne σ v (by by_cases e : a = j; exact Or.inr (fun f => h ⟨e, f⟩); exact Or.inl e)
theorem gL_set (σ : Sg) (j k : Nat) (v : Int64) (a b : Nat) : gL (sL σ j k v) a b = if a = j ∧ b = k then v else gL σ a b := by
  by_cases h : a = j ∧ b = k
  · rw [if_pos h, h.1, h.2, gL_same]
  · rw [if_neg h]
    exact gL_ne σ v (by by_cases e : a = j; exact Or.inr (fun f => h ⟨e, f⟩); exact Or.inl e)
theorem cE_I {g : Gl} {σ : Sg} {j k a : Nat} {v : Int32} (h : a ≠ j) (s : Shp) : cE g (sI σ j k v) a s = cE g σ a s := by
  have hI := gI_row σ (k := k) v h
  have hL := gL_sI σ j k v
  rcases s with ⟨t, n⟩ | ⟨ci, ks⟩
  · match t with
    | 0 => simp only [cE, hI]
    | 1 => simp only [cE, hL]
    | 2 => simp only [cE, hI]
    | t + 3 => rfl
  · simp only [cE]
    congr 2
    apply List.ext_getElem?
    intro x
    simp only [List.getElem?_mapIdx]
    congr 1
    funext t
    match t with
    | 0 => simp only [fv, hI]
    | 1 => simp only [fv, hL]
    | t + 2 => rfl
theorem cE_L {g : Gl} {σ : Sg} {j k a : Nat} {v : Int64} (h : a ≠ j) (s : Shp) : cE g (sL σ j k v) a s = cE g σ a s := by
  have hI := gI_sL σ j k v
  have hL := gL_row σ (k := k) v h
  rcases s with ⟨t, n⟩ | ⟨ci, ks⟩
  · match t with
    | 0 => simp only [cE, hI]
    | 1 => simp only [cE, hL]
    | 2 => simp only [cE, hI]
    | t + 3 => rfl
  · simp only [cE]
    congr 2
    apply List.ext_getElem?
    intro x
    simp only [List.getElem?_mapIdx]
    congr 1
    funext t
    match t with
    | 0 => simp only [fv, hI]
    | 1 => simp only [fv, hL]
    | t + 2 => rfl
theorem wd_setI {S : List Shp} {g : Gl} {σ : Sg} {j k : Nat} {v : Int32} {s : Shp} {e : va_E} (h : S[j]? = some s) (he : cE g (sI σ j k v) j s = e) : (wd S g σ).set j (gad g j, e) = wd S g (sI σ j k v) := by
  apply List.ext_getElem?
  intro a
  by_cases hj : a = j
  · subst hj
    rw [List.getElem?_set_self (by simp [wd]; exact (List.getElem?_eq_some_iff.mp h).1), wd_at h, he]
  · rw [List.getElem?_set_ne (Ne.symm hj)]
    simp only [wd, List.getElem?_mapIdx]
    congr 1
    funext s'
    rw [cE_I hj]
theorem wd_setL {S : List Shp} {g : Gl} {σ : Sg} {j k : Nat} {v : Int64} {s : Shp} {e : va_E} (h : S[j]? = some s) (he : cE g (sL σ j k v) j s = e) : (wd S g σ).set j (gad g j, e) = wd S g (sL σ j k v) := by
  apply List.ext_getElem?
  intro a
  by_cases hj : a = j
  · subst hj
    rw [List.getElem?_set_self (by simp [wd]; exact (List.getElem?_eq_some_iff.mp h).1), wd_at h, he]
  · rw [List.getElem?_set_ne (Ne.symm hj)]
    simp only [wd, List.getElem?_mapIdx]
    congr 1
    funext s'
    rw [cE_L hj]
def gap (S : List Shp) (g : Gl) : Prop := ∀ a b : Nat, a < S.length → b < S.length → gad g a = gad g b → a = b
theorem wd_D {S : List Shp} {g : Gl} {A : Nat → Prop} (hg : gap S g) (hA : ∀ k, k < S.length → A (gad g k)) (σ : Sg) : va_D A (wd S g σ) := by
  refine ⟨fun i j p q hi hj hpq => ?_, fun k q hk => ?_⟩
  · obtain ⟨s1, h1, rfl⟩ := wd_of hi
    obtain ⟨s2, h2, rfl⟩ := wd_of hj
    exact hg i j (List.getElem?_eq_some_iff.mp h1).1 (List.getElem?_eq_some_iff.mp h2).1 hpq
  · obtain ⟨s1, h1, rfl⟩ := wd_of hk
    exact hA k (List.getElem?_eq_some_iff.mp h1).1
/-- the machine's side of a method under way -/
def Cx (S : List Shp) (g : Gl) (M : Mc) (i : MI) (rm : Room) : Prop := match M with
  | (p, _, R, s, m, args, _, meth, c, cells, slots, A) => p.tables.exec = Jvm.exec ∧ c.code = i.2.1 ∧ c.maxLocals = i.2.2.1 ∧ s.vm.findClass i.1.cls = some m.cls ∧ (∀ w ∈ gtb, w.before args s = true) ∧ va_K g.2.1 classes (gty g) s ∧ meth.sig.returnType = i.2.2.2 ∧ meth.locks = false ∧ R = rm ∧ (cells + 0 ≤ R.cells ∧ slots + 0 ≤ R.slots) ∧ gap S g ∧ (∀ k, k < S.length → A (gad g k)) ∧ (∀ q, s.heap.size ≤ q → A q) ∧ Nst s
def lvh (ls : Array Slot) (lv : List (Option Value)) (n : Nat) : Prop := lv.length = n ∧ ls.size = n ∧ lv_wf ls ∧ ∀ (i : Nat) (v : Value), lv[i]? = some (some v) → ls[i]? = some (.val v)
def V (S : List Shp) (g : Gl) (M : Mc) (i : MI) (Q : State → Prop) (pc : Nat) (lv : List (Option Value)) (st : List Value) (σ : Sg) : Prop := match M with
  | (p, e, R, s, m, args, below, meth, c, cells, slots, A) => ∀ (H : Heap) (locs : List Loc) (ls : Array Slot), va_P g.2.1 classes (wd S g σ) H → va_S A s.heap H locs → lvh ls lv i.2.2.1 → W p g.1 e R s m args below meth c H locs cells slots Q (F0 m pc ls st)
def Qc (S : List Shp) (g : Gl) (P : Option Value → Sg → Prop) (A : Nat → Prop) : Array Value → State → Outcome → State → Prop := fun _ st oc t => (∃ (r : Option Value) (τ : Sg), oc = .returned r ∧ P r τ ∧ va_P g.2.1 classes (wd S g τ) t.heap ∧ va_K g.2.1 classes (gty g) t) ∧ va_F A st t
def Aw (S : List Shp) (g : Gl) (sz : Nat) : Nat → Prop := fun q => (∃ k, k < S.length ∧ q = gad g k) ∨ sz ≤ q
def PQ (S : List Shp) (g : Gl) (M : Mc) (P : Option Value → Sg → Prop) : State → Prop := match M with
  | (_, _, _, s, _, args, below, _, _, cells, slots, A) => MQ below (Qc S g P A) args s cells slots A
/-- a method's contract -/
def Ct (S : List Shp) (g : Gl) (i : MI) (fr lo : Nat) (as : List Value) (σ : Sg) (P : Option Value → Sg → Prop) : Prop := ∀ sz : Nat, Met g.1 i.1 (Cond.code i.1 i.2.1 i.2.2.1 i.2.2.2 :: gtb) { frames := fr, cells := 0, slots := 0, locals := lo } (va_Pc as (fun U => U.heap.size = sz ∧ va_P g.2.1 classes (wd S g σ) U.heap ∧ va_K g.2.1 classes (gty g) U ∧ gap S g ∧ Nst U)) (Qc S g P (Aw S g sz)) 0 0 (Aw S g sz)
def Dt (r0 : Option Value) (σ0 : Sg) : Option Value → Sg → Prop := fun r τ => r = r0 ∧ τ = σ0
theorem Ct.mono {S : List Shp} {g : Gl} {i : MI} {fr lo : Nat} {as : List Value} {σ : Sg} {P P' : Option Value → Sg → Prop} (h : Ct S g i fr lo as σ P) (hp : ∀ r τ, P r τ → P' r τ) : Ct S g i fr lo as σ P' := by
  intro sz p e ha hc hk s m args below hf
  have h1 := h sz p e ha hc hk s m args below hf
  intro h2 h3 h4
  obtain ⟨t, o, q1, q2, q3, ⟨⟨r, τ, e1, e2, e3⟩, q5⟩, q6⟩ := h1 h2 h3 h4
  exact ⟨t, o, q1, q2, q3, ⟨⟨r, τ, e1, hp r τ e2, e3⟩, q5⟩, q6⟩
/-- positions of the locals that arguments take -/
def ent : List Value → List (Option Value)
  | [] => []
  | v :: vs => if v.category = 2 then some v :: none :: ent vs else some v :: ent vs
theorem ent_len : ∀ vs : List Value, (ent vs).length = (lg_sl vs).length
  | [] => rfl
  | v :: vs => by
    have ih := ent_len vs
    by_cases h : v.category = 2
    · simp [ent, lg_sl, h] at ih ⊢; omega
    · simp [ent, lg_sl, h] at ih ⊢; omega
theorem ent_args : ∀ (vs : List Value) (k i : Nat) (v : Value), (ent vs)[i]? = some (some v) → (k + i, v) ∈ lv_args k vs
  | [], k, i, v, h => by simp [ent] at h
  | w :: vs, k, i, v, h => by
    by_cases hc : w.category = 2
    · rw [show ent (w :: vs) = some w :: none :: ent vs by simp [ent, hc]] at h
      rw [lv_args, if_pos hc]
      match i, h with
      | 0, h => simp at h; subst h; simp
      | 1, h => simp at h
      | i + 2, h =>
        have := ent_args vs (k + 2) i v (by simpa using h)
        exact List.mem_cons_of_mem _ (by rw [show k + (i + 2) = k + 2 + i by omega]; exact this)
    · rw [show ent (w :: vs) = some w :: ent vs by simp [ent, hc]] at h
      rw [lv_args, if_neg hc]
      match i, h with
      | 0, h => simp at h; subst h; simp
      | i + 1, h =>
        have := ent_args vs (k + 1) i v (by simpa using h)
        exact List.mem_cons_of_mem _ (by rw [show k + (i + 1) = k + 1 + i by omega]; exact this)
theorem Ct.ofV {S : List Shp} {g : Gl} {i : MI} {fr lo : Nat} {as : List Value} {σ : Sg} {P : Option Value → Sg → Prop} (hy : plainName i.1.cls = true) (n : Nat) {lv0 : List (Option Value)} (hl : ent as ++ List.replicate n none = lv0) (hlen : lv0.length = i.2.2.1)
    (body : ∀ M : Mc, Cx S g M i { frames := fr, cells := 0, slots := 0, locals := lo } → V S g M i (PQ S g M P) 0 lv0 [] σ) : Ct S g i fr lo as σ P := by
  intro sz
  refine Met.ofW (cc := i.2.1) (maxL := i.2.2.1) (ret := i.2.2.2) hy rfl ?_
  intro p e s m args below meth c s₁ B hml hv
  obtain ⟨rfl, hsz, hP, hK, hg, hN⟩ := hv
  subst hsz
  have hts := atoms_spec (ws := Cond.code i.1 i.2.1 i.2.2.1 i.2.2.2 :: gtb) B.pre
  have hC : Cx S g (p, e, { frames := fr, cells := 0, slots := 0, locals := lo }, s, m, as.toArray, below, meth, c, 0, 0, Aw S g s.heap.size) i { frames := fr, cells := 0, slots := 0, locals := lo } := by
    exact ⟨B.exec, B.bytes, hml, findClass_of_methodNamed B.named, fun w hw => hts w (List.mem_cons_of_mem _ hw), hK, B.returns, B.notSynchronized, rfl, ⟨Nat.le_refl _, Nat.le_refl _⟩, hg, fun k hk => Or.inl ⟨k, hk, rfl⟩, fun q hq => Or.inr hq, hN⟩
  have hn : (lg_sl as).length ≤ i.2.2.1 := by
    rw [← hlen, ← hl, List.length_append, ent_len]; omega
  have he := lv_entry as hn
  rw [lg_entry_eq]
  refine body _ hC s.heap [] _ hP va_S.rf ⟨hlen, he.1, he.2.1, fun j v hj => he.2.2 (j, v) ?_⟩
  rw [← hl] at hj
  by_cases hlt : j < (ent as).length
  · rw [List.getElem?_append_left hlt] at hj
    simpa using ent_args as 0 j v hj
  · rw [List.getElem?_append_right (by omega)] at hj
    have := List.mem_of_getElem? hj
    simp at this
end
section
section
variable {S : List Shp} {g : Gl} {M : Mc} {i : MI} {rm : Room} {Q : State → Prop} {pc : Nat} {lv lv' : List (Option Value)} {st : List Value} {σ : Sg}
theorem v_iconst {n : Int} (v : Int32) (hv : Int32.ofInt n = v) (hC : Cx S g M i rm) (hd : decode i.2.1 pc = .ok (.iconst n, 1)) (kk : V S g M i Q (pc + 1) lv (.int v :: st) σ) : V S g M i Q pc lv st σ := by
  obtain ⟨p, e, R, s, m, args, below, meth, c, cells, slots, A⟩ := M
  intro H locs ls hP hS hl
  exact lv_iconst hC.1 hC.2.1 hd hv (kk H locs ls hP hS hl)
theorem v_bipush {n : Int} (v : Int32) (hv : (Int8.ofInt n).toInt32 = v) (hC : Cx S g M i rm) (hd : decode i.2.1 pc = .ok (.bipush n, 2)) (kk : V S g M i Q (pc + 2) lv (.int v :: st) σ) : V S g M i Q pc lv st σ := by
  obtain ⟨p, e, R, s, m, args, below, meth, c, cells, slots, A⟩ := M
  intro H locs ls hP hS hl
  exact lv_bipush hC.1 hC.2.1 hd hv (kk H locs ls hP hS hl)
theorem v_sipush {n : Int} (v : Int32) (hv : (Int16.ofInt n).toInt32 = v) (hC : Cx S g M i rm) (hd : decode i.2.1 pc = .ok (.sipush n, 3)) (kk : V S g M i Q (pc + 3) lv (.int v :: st) σ) : V S g M i Q pc lv st σ := by
  obtain ⟨p, e, R, s, m, args, below, meth, c, cells, slots, A⟩ := M
  intro H locs ls hP hS hl
  exact lv_sipush hC.1 hC.2.1 hd hv (kk H locs ls hP hS hl)
theorem v_ldc {index : Nat} (v : Int32) (hv : Cond.constant i.1.cls index v ∈ gtb) (hC : Cx S g M i rm) (hd : decode i.2.1 pc = .ok (.ldc index, 2)) (kk : V S g M i Q (pc + 2) lv (.int v :: st) σ) : V S g M i Q pc lv st σ := by
  obtain ⟨p, e, R, s, m, args, below, meth, c, cells, slots, A⟩ := M
  intro H locs ls hP hS hl
  exact lv_ldc hC.1 hC.2.1 hC.2.2.2.1 (hC.2.2.2.2.1 _ hv) hd (kk H locs ls hP hS hl)
theorem v_ldcw {index : Nat} (v : Int32) (hv : Cond.constant i.1.cls index v ∈ gtb) (hC : Cx S g M i rm) (hd : decode i.2.1 pc = .ok (.ldc_w index, 3)) (kk : V S g M i Q (pc + 3) lv (.int v :: st) σ) : V S g M i Q pc lv st σ := by
  obtain ⟨p, e, R, s, m, args, below, meth, c, cells, slots, A⟩ := M
  intro H locs ls hP hS hl
  exact lv_ldcw hC.1 hC.2.1 hC.2.2.2.1 (hC.2.2.2.2.1 _ hv) hd (kk H locs ls hP hS hl)
theorem v_ldc2 {index : Nat} (v : Int64) (hv : Cond.constantLong i.1.cls index v ∈ gtb) (hC : Cx S g M i rm) (hd : decode i.2.1 pc = .ok (.ldc2_w index, 3)) (kk : V S g M i Q (pc + 3) lv (.long v :: st) σ) : V S g M i Q pc lv st σ := by
  obtain ⟨p, e, R, s, m, args, below, meth, c, cells, slots, A⟩ := M
  intro H locs ls hP hS hl
  exact lv_ldc2 hC.1 hC.2.1 hC.2.2.2.1 (hC.2.2.2.2.1 _ hv) hd (kk H locs ls hP hS hl)
theorem v_lconst {n : Fin 2} (v : Int64) (hv : Int64.ofNat (n : Nat) = v) (hC : Cx S g M i rm) (hd : decode i.2.1 pc = .ok (.lconst n, 1)) (kk : V S g M i Q (pc + 1) lv (.long v :: st) σ) : V S g M i Q pc lv st σ := by
  obtain ⟨p, e, R, s, m, args, below, meth, c, cells, slots, A⟩ := M
  intro H locs ls hP hS hl
  exact lv_lconst hC.1 hC.2.1 hd hv (kk H locs ls hP hS hl)
theorem v_iadd {x y : Int32} (hC : Cx S g M i rm)  (hd : decode i.2.1 pc = .ok (.iadd, 1)) (kk : V S g M i Q (pc + 1) lv (.int (x + y) :: st) σ) : V S g M i Q pc lv (.int y :: .int x :: st) σ := by
  obtain ⟨p, e, R, s, m, args, below, meth, c, cells, slots, A⟩ := M
  intro H locs ls hP hS hl
  exact lv_iadd hC.1 hC.2.1 hd (kk H locs ls hP hS hl)
theorem v_isub {x y : Int32} (hC : Cx S g M i rm)  (hd : decode i.2.1 pc = .ok (.isub, 1)) (kk : V S g M i Q (pc + 1) lv (.int (x - y) :: st) σ) : V S g M i Q pc lv (.int y :: .int x :: st) σ := by
  obtain ⟨p, e, R, s, m, args, below, meth, c, cells, slots, A⟩ := M
  intro H locs ls hP hS hl
  exact lv_isub hC.1 hC.2.1 hd (kk H locs ls hP hS hl)
theorem v_imul {x y : Int32} (hC : Cx S g M i rm)  (hd : decode i.2.1 pc = .ok (.imul, 1)) (kk : V S g M i Q (pc + 1) lv (.int (x * y) :: st) σ) : V S g M i Q pc lv (.int y :: .int x :: st) σ := by
  obtain ⟨p, e, R, s, m, args, below, meth, c, cells, slots, A⟩ := M
  intro H locs ls hP hS hl
  exact lv_imul hC.1 hC.2.1 hd (kk H locs ls hP hS hl)
theorem v_iand {x y : Int32} (hC : Cx S g M i rm)  (hd : decode i.2.1 pc = .ok (.iand, 1)) (kk : V S g M i Q (pc + 1) lv (.int (x &&& y) :: st) σ) : V S g M i Q pc lv (.int y :: .int x :: st) σ := by
  obtain ⟨p, e, R, s, m, args, below, meth, c, cells, slots, A⟩ := M
  intro H locs ls hP hS hl
  exact lv_iand hC.1 hC.2.1 hd (kk H locs ls hP hS hl)
theorem v_ior {x y : Int32} (hC : Cx S g M i rm)  (hd : decode i.2.1 pc = .ok (.ior, 1)) (kk : V S g M i Q (pc + 1) lv (.int (x ||| y) :: st) σ) : V S g M i Q pc lv (.int y :: .int x :: st) σ := by
  obtain ⟨p, e, R, s, m, args, below, meth, c, cells, slots, A⟩ := M
  intro H locs ls hP hS hl
  exact lv_ior hC.1 hC.2.1 hd (kk H locs ls hP hS hl)
theorem v_ixor {x y : Int32} (hC : Cx S g M i rm)  (hd : decode i.2.1 pc = .ok (.ixor, 1)) (kk : V S g M i Q (pc + 1) lv (.int (x ^^^ y) :: st) σ) : V S g M i Q pc lv (.int y :: .int x :: st) σ := by
  obtain ⟨p, e, R, s, m, args, below, meth, c, cells, slots, A⟩ := M
  intro H locs ls hP hS hl
  exact lv_ixor hC.1 hC.2.1 hd (kk H locs ls hP hS hl)
theorem v_ishl {x y : Int32} (hC : Cx S g M i rm)  (hd : decode i.2.1 pc = .ok (.ishl, 1)) (kk : V S g M i Q (pc + 1) lv (.int (x <<< (y &&& 31)) :: st) σ) : V S g M i Q pc lv (.int y :: .int x :: st) σ := by
  obtain ⟨p, e, R, s, m, args, below, meth, c, cells, slots, A⟩ := M
  intro H locs ls hP hS hl
  exact lv_ishl hC.1 hC.2.1 hd (kk H locs ls hP hS hl)
theorem v_ishr {x y : Int32} (hC : Cx S g M i rm)  (hd : decode i.2.1 pc = .ok (.ishr, 1)) (kk : V S g M i Q (pc + 1) lv (.int (x >>> (y &&& 31)) :: st) σ) : V S g M i Q pc lv (.int y :: .int x :: st) σ := by
  obtain ⟨p, e, R, s, m, args, below, meth, c, cells, slots, A⟩ := M
  intro H locs ls hP hS hl
  exact lv_ishr hC.1 hC.2.1 hd (kk H locs ls hP hS hl)
theorem v_ladd {x y : Int64} (hC : Cx S g M i rm)  (hd : decode i.2.1 pc = .ok (.ladd, 1)) (kk : V S g M i Q (pc + 1) lv (.long (x + y) :: st) σ) : V S g M i Q pc lv (.long y :: .long x :: st) σ := by
  obtain ⟨p, e, R, s, m, args, below, meth, c, cells, slots, A⟩ := M
  intro H locs ls hP hS hl
  exact lv_ladd hC.1 hC.2.1 hd (kk H locs ls hP hS hl)
theorem v_lsub {x y : Int64} (hC : Cx S g M i rm)  (hd : decode i.2.1 pc = .ok (.lsub, 1)) (kk : V S g M i Q (pc + 1) lv (.long (x - y) :: st) σ) : V S g M i Q pc lv (.long y :: .long x :: st) σ := by
  obtain ⟨p, e, R, s, m, args, below, meth, c, cells, slots, A⟩ := M
  intro H locs ls hP hS hl
  exact lv_lsub hC.1 hC.2.1 hd (kk H locs ls hP hS hl)
theorem v_lmul {x y : Int64} (hC : Cx S g M i rm)  (hd : decode i.2.1 pc = .ok (.lmul, 1)) (kk : V S g M i Q (pc + 1) lv (.long (x * y) :: st) σ) : V S g M i Q pc lv (.long y :: .long x :: st) σ := by
  obtain ⟨p, e, R, s, m, args, below, meth, c, cells, slots, A⟩ := M
  intro H locs ls hP hS hl
  exact lv_lmul hC.1 hC.2.1 hd (kk H locs ls hP hS hl)
theorem v_idiv {x y : Int32} (hC : Cx S g M i rm) (hne : ¬ y = 0) (hd : decode i.2.1 pc = .ok (.idiv, 1)) (kk : V S g M i Q (pc + 1) lv (.int (x / y) :: st) σ) : V S g M i Q pc lv (.int y :: .int x :: st) σ := by
  obtain ⟨p, e, R, s, m, args, below, meth, c, cells, slots, A⟩ := M
  intro H locs ls hP hS hl
  exact lv_idiv hC.1 hC.2.1 hd hne (kk H locs ls hP hS hl)
theorem v_irem {x y : Int32} (hC : Cx S g M i rm) (hne : ¬ y = 0) (hd : decode i.2.1 pc = .ok (.irem, 1)) (kk : V S g M i Q (pc + 1) lv (.int (x - x / y * y) :: st) σ) : V S g M i Q pc lv (.int y :: .int x :: st) σ := by
  obtain ⟨p, e, R, s, m, args, below, meth, c, cells, slots, A⟩ := M
  intro H locs ls hP hS hl
  exact lv_irem hC.1 hC.2.1 hd hne (kk H locs ls hP hS hl)
theorem v_ldiv {x y : Int64} (hC : Cx S g M i rm) (hne : ¬ y = 0) (hd : decode i.2.1 pc = .ok (.ldiv, 1)) (kk : V S g M i Q (pc + 1) lv (.long (x / y) :: st) σ) : V S g M i Q pc lv (.long y :: .long x :: st) σ := by
  obtain ⟨p, e, R, s, m, args, below, meth, c, cells, slots, A⟩ := M
  intro H locs ls hP hS hl
  exact lv_ldiv hC.1 hC.2.1 hd hne (kk H locs ls hP hS hl)
theorem v_lrem {x y : Int64} (hC : Cx S g M i rm) (hne : ¬ y = 0) (hd : decode i.2.1 pc = .ok (.lrem, 1)) (kk : V S g M i Q (pc + 1) lv (.long (x - x / y * y) :: st) σ) : V S g M i Q pc lv (.long y :: .long x :: st) σ := by
  obtain ⟨p, e, R, s, m, args, below, meth, c, cells, slots, A⟩ := M
  intro H locs ls hP hS hl
  exact lv_lrem hC.1 hC.2.1 hd hne (kk H locs ls hP hS hl)
theorem v_ineg {x : Int32} (hC : Cx S g M i rm)  (hd : decode i.2.1 pc = .ok (.ineg, 1)) (kk : V S g M i Q (pc + 1) lv (.int (-x) :: st) σ) : V S g M i Q pc lv (.int x :: st) σ := by
  obtain ⟨p, e, R, s, m, args, below, meth, c, cells, slots, A⟩ := M
  intro H locs ls hP hS hl
  exact lv_ineg hC.1 hC.2.1 hd (kk H locs ls hP hS hl)
theorem v_lneg {x : Int64} (hC : Cx S g M i rm)  (hd : decode i.2.1 pc = .ok (.lneg, 1)) (kk : V S g M i Q (pc + 1) lv (.long (-x) :: st) σ) : V S g M i Q pc lv (.long x :: st) σ := by
  obtain ⟨p, e, R, s, m, args, below, meth, c, cells, slots, A⟩ := M
  intro H locs ls hP hS hl
  exact lv_lneg hC.1 hC.2.1 hd (kk H locs ls hP hS hl)
theorem v_iushr {x y : Int32} (hC : Cx S g M i rm)  (hd : decode i.2.1 pc = .ok (.iushr, 1)) (kk : V S g M i Q (pc + 1) lv (.int (x.toUInt32 >>> (y.toUInt32 &&& Int32.toUInt32 31)).toInt32 :: st) σ) : V S g M i Q pc lv (.int y :: .int x :: st) σ := by
  obtain ⟨p, e, R, s, m, args, below, meth, c, cells, slots, A⟩ := M
  intro H locs ls hP hS hl
  exact lv_iushr hC.1 hC.2.1 hd rfl (kk H locs ls hP hS hl)
theorem v_i2l {x : Int32} (hC : Cx S g M i rm)  (hd : decode i.2.1 pc = .ok (.i2l, 1)) (kk : V S g M i Q (pc + 1) lv (.long x.toInt64 :: st) σ) : V S g M i Q pc lv (.int x :: st) σ := by
  obtain ⟨p, e, R, s, m, args, below, meth, c, cells, slots, A⟩ := M
  intro H locs ls hP hS hl
  exact lv_i2l hC.1 hC.2.1 hd rfl (kk H locs ls hP hS hl)
theorem v_l2i {x : Int64} (hC : Cx S g M i rm)  (hd : decode i.2.1 pc = .ok (.l2i, 1)) (kk : V S g M i Q (pc + 1) lv (.int x.toInt32 :: st) σ) : V S g M i Q pc lv (.long x :: st) σ := by
  obtain ⟨p, e, R, s, m, args, below, meth, c, cells, slots, A⟩ := M
  intro H locs ls hP hS hl
  exact lv_l2i hC.1 hC.2.1 hd rfl (kk H locs ls hP hS hl)
theorem v_i2b {x : Int32} (hC : Cx S g M i rm)  (hd : decode i.2.1 pc = .ok (.i2b, 1)) (kk : V S g M i Q (pc + 1) lv (.int x.toInt8.toInt32 :: st) σ) : V S g M i Q pc lv (.int x :: st) σ := by
  obtain ⟨p, e, R, s, m, args, below, meth, c, cells, slots, A⟩ := M
  intro H locs ls hP hS hl
  exact lv_i2b hC.1 hC.2.1 hd rfl (kk H locs ls hP hS hl)
theorem v_i2s {x : Int32} (hC : Cx S g M i rm)  (hd : decode i.2.1 pc = .ok (.i2s, 1)) (kk : V S g M i Q (pc + 1) lv (.int x.toInt16.toInt32 :: st) σ) : V S g M i Q pc lv (.int x :: st) σ := by
  obtain ⟨p, e, R, s, m, args, below, meth, c, cells, slots, A⟩ := M
  intro H locs ls hP hS hl
  exact lv_i2s hC.1 hC.2.1 hd rfl (kk H locs ls hP hS hl)
theorem v_lcmp {x y : Int64} (hC : Cx S g M i rm)  (hd : decode i.2.1 pc = .ok (.lcmp, 1)) (kk : V S g M i Q (pc + 1) lv (.int (lg_cmp x y) :: st) σ) : V S g M i Q pc lv (.long y :: .long x :: st) σ := by
  obtain ⟨p, e, R, s, m, args, below, meth, c, cells, slots, A⟩ := M
  intro H locs ls hP hS hl
  exact W.lcmp hC.1 hC.2.1 hd (kk H locs ls hP hS hl)
theorem v_dup {a : Value} (hC : Cx S g M i rm) (hc : a.category = 1) (hd : decode i.2.1 pc = .ok (.dup, 1)) (kk : V S g M i Q (pc + 1) lv (a :: a :: st) σ) : V S g M i Q pc lv (a :: st) σ := by
  obtain ⟨p, e, R, s, m, args, below, meth, c, cells, slots, A⟩ := M
  intro H locs ls hP hS hl
  exact lv_dup hC.1 hC.2.1 hd hc (kk H locs ls hP hS hl)
theorem v_pop {a : Value} (hC : Cx S g M i rm) (hc : a.category = 1) (hd : decode i.2.1 pc = .ok (.pop, 1)) (kk : V S g M i Q (pc + 1) lv (st) σ) : V S g M i Q pc lv (a :: st) σ := by
  obtain ⟨p, e, R, s, m, args, below, meth, c, cells, slots, A⟩ := M
  intro H locs ls hP hS hl
  exact lv_pop hC.1 hC.2.1 hd hc (kk H locs ls hP hS hl)
theorem v_dup2 {a b : Value} (hC : Cx S g M i rm) (hc : a.category = 1) (hc2 : b.category = 1) (hd : decode i.2.1 pc = .ok (.dup2, 1)) (kk : V S g M i Q (pc + 1) lv (a :: b :: a :: b :: st) σ) : V S g M i Q pc lv (a :: b :: st) σ := by
  obtain ⟨p, e, R, s, m, args, below, meth, c, cells, slots, A⟩ := M
  intro H locs ls hP hS hl
  exact lv_dup2_11 hC.1 hC.2.1 hd hc hc2 (kk H locs ls hP hS hl)
theorem v_if_eq {x : Int32} {off : Int} {tgt : Nat} (hC : Cx S g M i rm) (hd : decode i.2.1 pc = .ok (.ifCond .eq off, 3)) (ht : (pc : Int) + off = (tgt : Int)) (kt : x = 0 → V S g M i Q tgt lv st σ) (kf : ¬ (x = 0) → V S g M i Q (pc + 3) lv st σ) : V S g M i Q pc lv (.int x :: st) σ := by
  obtain ⟨p, e, R, s, m, args, below, meth, c, cells, slots, A⟩ := M
  intro H locs ls hP hS hl
  exact lv_if_eq hC.1 hC.2.1 hd ht (fun h => kt h H locs ls hP hS hl) (fun h => kf h H locs ls hP hS hl)
theorem v_ic_eq {x y : Int32} {off : Int} {tgt : Nat} (hC : Cx S g M i rm) (hd : decode i.2.1 pc = .ok (.if_icmp .eq off, 3)) (ht : (pc : Int) + off = (tgt : Int)) (kt : x = y → V S g M i Q tgt lv st σ) (kf : ¬ (x = y) → V S g M i Q (pc + 3) lv st σ) : V S g M i Q pc lv (.int y :: .int x :: st) σ := by
  obtain ⟨p, e, R, s, m, args, below, meth, c, cells, slots, A⟩ := M
  intro H locs ls hP hS hl
  exact lv_icmp_eq hC.1 hC.2.1 hd ht (fun h => kt h H locs ls hP hS hl) (fun h => kf h H locs ls hP hS hl)
theorem v_if_ne {x : Int32} {off : Int} {tgt : Nat} (hC : Cx S g M i rm) (hd : decode i.2.1 pc = .ok (.ifCond .ne off, 3)) (ht : (pc : Int) + off = (tgt : Int)) (kt : ¬ x = 0 → V S g M i Q tgt lv st σ) (kf : x = 0 → V S g M i Q (pc + 3) lv st σ) : V S g M i Q pc lv (.int x :: st) σ := by
  obtain ⟨p, e, R, s, m, args, below, meth, c, cells, slots, A⟩ := M
  intro H locs ls hP hS hl
  exact lv_if_ne hC.1 hC.2.1 hd ht (fun h => kt h H locs ls hP hS hl) (fun h => kf h H locs ls hP hS hl)
theorem v_ic_ne {x y : Int32} {off : Int} {tgt : Nat} (hC : Cx S g M i rm) (hd : decode i.2.1 pc = .ok (.if_icmp .ne off, 3)) (ht : (pc : Int) + off = (tgt : Int)) (kt : ¬ x = y → V S g M i Q tgt lv st σ) (kf : x = y → V S g M i Q (pc + 3) lv st σ) : V S g M i Q pc lv (.int y :: .int x :: st) σ := by
  obtain ⟨p, e, R, s, m, args, below, meth, c, cells, slots, A⟩ := M
  intro H locs ls hP hS hl
  exact lv_icmp_ne hC.1 hC.2.1 hd ht (fun h => kt h H locs ls hP hS hl) (fun h => kf h H locs ls hP hS hl)
theorem v_if_lt {x : Int32} {off : Int} {tgt : Nat} (hC : Cx S g M i rm) (hd : decode i.2.1 pc = .ok (.ifCond .lt off, 3)) (ht : (pc : Int) + off = (tgt : Int)) (kt : x < 0 → V S g M i Q tgt lv st σ) (kf : ¬ (x < 0) → V S g M i Q (pc + 3) lv st σ) : V S g M i Q pc lv (.int x :: st) σ := by
  obtain ⟨p, e, R, s, m, args, below, meth, c, cells, slots, A⟩ := M
  intro H locs ls hP hS hl
  exact lv_if_lt hC.1 hC.2.1 hd ht (fun h => kt h H locs ls hP hS hl) (fun h => kf h H locs ls hP hS hl)
theorem v_ic_lt {x y : Int32} {off : Int} {tgt : Nat} (hC : Cx S g M i rm) (hd : decode i.2.1 pc = .ok (.if_icmp .lt off, 3)) (ht : (pc : Int) + off = (tgt : Int)) (kt : x < y → V S g M i Q tgt lv st σ) (kf : ¬ (x < y) → V S g M i Q (pc + 3) lv st σ) : V S g M i Q pc lv (.int y :: .int x :: st) σ := by
  obtain ⟨p, e, R, s, m, args, below, meth, c, cells, slots, A⟩ := M
  intro H locs ls hP hS hl
  exact lv_icmp_lt hC.1 hC.2.1 hd ht (fun h => kt h H locs ls hP hS hl) (fun h => kf h H locs ls hP hS hl)
theorem v_if_ge {x : Int32} {off : Int} {tgt : Nat} (hC : Cx S g M i rm) (hd : decode i.2.1 pc = .ok (.ifCond .ge off, 3)) (ht : (pc : Int) + off = (tgt : Int)) (kt : 0 ≤ x → V S g M i Q tgt lv st σ) (kf : ¬ (0 ≤ x) → V S g M i Q (pc + 3) lv st σ) : V S g M i Q pc lv (.int x :: st) σ := by
  obtain ⟨p, e, R, s, m, args, below, meth, c, cells, slots, A⟩ := M
  intro H locs ls hP hS hl
  exact lv_if_ge hC.1 hC.2.1 hd ht (fun h => kt h H locs ls hP hS hl) (fun h => kf h H locs ls hP hS hl)
theorem v_ic_ge {x y : Int32} {off : Int} {tgt : Nat} (hC : Cx S g M i rm) (hd : decode i.2.1 pc = .ok (.if_icmp .ge off, 3)) (ht : (pc : Int) + off = (tgt : Int)) (kt : y ≤ x → V S g M i Q tgt lv st σ) (kf : ¬ (y ≤ x) → V S g M i Q (pc + 3) lv st σ) : V S g M i Q pc lv (.int y :: .int x :: st) σ := by
  obtain ⟨p, e, R, s, m, args, below, meth, c, cells, slots, A⟩ := M
  intro H locs ls hP hS hl
  exact lv_icmp_ge hC.1 hC.2.1 hd ht (fun h => kt h H locs ls hP hS hl) (fun h => kf h H locs ls hP hS hl)
theorem v_if_gt {x : Int32} {off : Int} {tgt : Nat} (hC : Cx S g M i rm) (hd : decode i.2.1 pc = .ok (.ifCond .gt off, 3)) (ht : (pc : Int) + off = (tgt : Int)) (kt : 0 < x → V S g M i Q tgt lv st σ) (kf : ¬ (0 < x) → V S g M i Q (pc + 3) lv st σ) : V S g M i Q pc lv (.int x :: st) σ := by
  obtain ⟨p, e, R, s, m, args, below, meth, c, cells, slots, A⟩ := M
  intro H locs ls hP hS hl
  exact lv_if_gt hC.1 hC.2.1 hd ht (fun h => kt h H locs ls hP hS hl) (fun h => kf h H locs ls hP hS hl)
theorem v_ic_gt {x y : Int32} {off : Int} {tgt : Nat} (hC : Cx S g M i rm) (hd : decode i.2.1 pc = .ok (.if_icmp .gt off, 3)) (ht : (pc : Int) + off = (tgt : Int)) (kt : y < x → V S g M i Q tgt lv st σ) (kf : ¬ (y < x) → V S g M i Q (pc + 3) lv st σ) : V S g M i Q pc lv (.int y :: .int x :: st) σ := by
  obtain ⟨p, e, R, s, m, args, below, meth, c, cells, slots, A⟩ := M
  intro H locs ls hP hS hl
  exact lv_icmp_gt hC.1 hC.2.1 hd ht (fun h => kt h H locs ls hP hS hl) (fun h => kf h H locs ls hP hS hl)
theorem v_if_le {x : Int32} {off : Int} {tgt : Nat} (hC : Cx S g M i rm) (hd : decode i.2.1 pc = .ok (.ifCond .le off, 3)) (ht : (pc : Int) + off = (tgt : Int)) (kt : x ≤ 0 → V S g M i Q tgt lv st σ) (kf : ¬ (x ≤ 0) → V S g M i Q (pc + 3) lv st σ) : V S g M i Q pc lv (.int x :: st) σ := by
  obtain ⟨p, e, R, s, m, args, below, meth, c, cells, slots, A⟩ := M
  intro H locs ls hP hS hl
  exact lv_if_le hC.1 hC.2.1 hd ht (fun h => kt h H locs ls hP hS hl) (fun h => kf h H locs ls hP hS hl)
theorem v_ic_le {x y : Int32} {off : Int} {tgt : Nat} (hC : Cx S g M i rm) (hd : decode i.2.1 pc = .ok (.if_icmp .le off, 3)) (ht : (pc : Int) + off = (tgt : Int)) (kt : x ≤ y → V S g M i Q tgt lv st σ) (kf : ¬ (x ≤ y) → V S g M i Q (pc + 3) lv st σ) : V S g M i Q pc lv (.int y :: .int x :: st) σ := by
  obtain ⟨p, e, R, s, m, args, below, meth, c, cells, slots, A⟩ := M
  intro H locs ls hP hS hl
  exact lv_icmp_le hC.1 hC.2.1 hd ht (fun h => kt h H locs ls hP hS hl) (fun h => kf h H locs ls hP hS hl)
theorem v_goto {off : Int} {tgt : Nat} (hC : Cx S g M i rm) (hd : decode i.2.1 pc = .ok (.goto off, 3)) (ht : (pc : Int) + off = (tgt : Int)) (k : V S g M i Q tgt lv st σ) : V S g M i Q pc lv st σ := by
  obtain ⟨p, e, R, s, m, args, below, meth, c, cells, slots, A⟩ := M
  intro H locs ls hP hS hl
  exact lv_goto hC.1 hC.2.1 hd ht (k H locs ls hP hS hl)
theorem v_tsOut {dflt lo hi : Int} {offs : Array Int} {len : Nat} {x : Int32} {tgt : Nat} (hC : Cx S g M i rm) (hd : decode i.2.1 pc = .ok (.tableswitch dflt lo hi offs, len)) (h : x.toInt < lo ∨ hi < x.toInt) (ht : (pc : Int) + dflt = (tgt : Int)) (k : V S g M i Q tgt lv st σ) : V S g M i Q pc lv (.int x :: st) σ := by
  obtain ⟨p, e, R, s, m, args, below, meth, c, cells, slots, A⟩ := M
  intro H locs ls hP hS hl
  exact lv_tableOut hC.1 hC.2.1 hd h ht (k H locs ls hP hS hl)
theorem v_tsIn {dflt lo hi off : Int} {offs : Array Int} {len : Nat} {x : Int32} {tgt : Nat} (hC : Cx S g M i rm) (hd : decode i.2.1 pc = .ok (.tableswitch dflt lo hi offs, len)) (h1 : ¬ x.toInt < lo) (h2 : ¬ hi < x.toInt) (ho : offs[(x.toInt - lo).toNat]? = some off) (ht : (pc : Int) + off = (tgt : Int)) (k : V S g M i Q tgt lv st σ) : V S g M i Q pc lv (.int x :: st) σ := by
  obtain ⟨p, e, R, s, m, args, below, meth, c, cells, slots, A⟩ := M
  intro H locs ls hP hS hl
  exact lv_tableIn hC.1 hC.2.1 hd h1 h2 ho ht (k H locs ls hP hS hl)
theorem v_iload {k : Nat} {x : Int32} (hC : Cx S g M i rm) (hd : decode i.2.1 pc = .ok (.iload k, 2)) (hk : lv[k]? = some (some (.int x))) (kk : V S g M i Q (pc + 2) lv (.int x :: st) σ) : V S g M i Q pc lv st σ := by
  obtain ⟨p, e, R, s, m, args, below, meth, c, cells, slots, A⟩ := M
  intro H locs ls hP hS hl
  exact lv_iload hC.1 hC.2.1 hd (hl.2.2.2 k _ hk) (kk H locs ls hP hS hl)
theorem v_iload_n {k : Fin 4} {x : Int32} (hC : Cx S g M i rm) (hd : decode i.2.1 pc = .ok (.iload_n k, 1)) (hk : lv[(k : Nat)]? = some (some (.int x))) (kk : V S g M i Q (pc + 1) lv (.int x :: st) σ) : V S g M i Q pc lv st σ := by
  obtain ⟨p, e, R, s, m, args, below, meth, c, cells, slots, A⟩ := M
  intro H locs ls hP hS hl
  exact lv_iload_n hC.1 hC.2.1 hd rfl (hl.2.2.2 _ _ hk) (kk H locs ls hP hS hl)
theorem v_lload {k : Nat} {x : Int64} (hC : Cx S g M i rm) (hd : decode i.2.1 pc = .ok (.lload k, 2)) (hk : lv[k]? = some (some (.long x))) (kk : V S g M i Q (pc + 2) lv (.long x :: st) σ) : V S g M i Q pc lv st σ := by
  obtain ⟨p, e, R, s, m, args, below, meth, c, cells, slots, A⟩ := M
  intro H locs ls hP hS hl
  exact lv_lload hC.1 hC.2.1 hd (hl.2.2.2 k _ hk) (kk H locs ls hP hS hl)
theorem v_lload_n {k : Fin 4} {x : Int64} (hC : Cx S g M i rm) (hd : decode i.2.1 pc = .ok (.lload_n k, 1)) (hk : lv[(k : Nat)]? = some (some (.long x))) (kk : V S g M i Q (pc + 1) lv (.long x :: st) σ) : V S g M i Q pc lv st σ := by
  obtain ⟨p, e, R, s, m, args, below, meth, c, cells, slots, A⟩ := M
  intro H locs ls hP hS hl
  exact lv_lload_n hC.1 hC.2.1 hd rfl (hl.2.2.2 _ _ hk) (kk H locs ls hP hS hl)
theorem v_aload {k : Nat} {x : Nat} (hC : Cx S g M i rm) (hd : decode i.2.1 pc = .ok (.aload k, 2)) (hk : lv[k]? = some (some (.ref x))) (kk : V S g M i Q (pc + 2) lv (.ref x :: st) σ) : V S g M i Q pc lv st σ := by
  obtain ⟨p, e, R, s, m, args, below, meth, c, cells, slots, A⟩ := M
  intro H locs ls hP hS hl
  exact lv_aload hC.1 hC.2.1 hd (hl.2.2.2 k _ hk) (kk H locs ls hP hS hl)
theorem v_aload_n {k : Fin 4} {x : Nat} (hC : Cx S g M i rm) (hd : decode i.2.1 pc = .ok (.aload_n k, 1)) (hk : lv[(k : Nat)]? = some (some (.ref x))) (kk : V S g M i Q (pc + 1) lv (.ref x :: st) σ) : V S g M i Q pc lv st σ := by
  obtain ⟨p, e, R, s, m, args, below, meth, c, cells, slots, A⟩ := M
  intro H locs ls hP hS hl
  exact lv_aload_n hC.1 hC.2.1 hd rfl (hl.2.2.2 _ _ hk) (kk H locs ls hP hS hl)
end
def asl (lv : List (Option Value)) : List (Nat × Value) := (List.range lv.length).filterMap (fun i => (lv[i]?).bind (fun o => o.map (fun v => (i, v))))
theorem asl_iff {lv : List (Option Value)} {j : Nat} {v : Value} : (j, v) ∈ asl lv ↔ lv[j]? = some (some v) := by
  simp only [asl, List.mem_filterMap, List.mem_range]
  constructor
  · rintro ⟨a, ha, h⟩
    cases h1 : lv[a]? with
    | none => rw [h1] at h; cases h
    | some o =>
      rw [h1] at h
      cases o with
      | none => cases h
      | some w =>
        simp at h
        obtain ⟨rfl, rfl⟩ := h
        exact h1
  · intro h
    exact ⟨j, (List.getElem?_eq_some_iff.mp h).1, by rw [h]; rfl⟩
theorem lvh_has {ls : Array Slot} {lv : List (Option Value)} {n : Nat} (h : lvh ls lv n) : lv_has ls n (asl lv) := ⟨h.2.1, h.2.2.1, fun q hq => h.2.2.2 q.1 q.2 (asl_iff.mp hq)⟩
/-- no long stands just ahead of the place -/
def ok1 (lv : List (Option Value)) (k : Nat) : Bool := match k with
  | 0 => true
  | j + 1 => match lv[j]? with
    | some (some v) => v.category != 2
    | _ => true
theorem lvh_st1 {ls' : Array Slot} {lv : List (Option Value)} {n k : Nat} {v : Value} (hn : lv.length = n) (hk : ok1 lv k = true) (hl : k < n) (h : lv_has ls' n ((k, v) :: (asl lv).filter (fun q => !(q.1 == k) && !(q.1 + 1 == k && q.2.category == 2)))) : lvh ls' (lv.set k (some v)) n := by
  refine ⟨by simp [hn], h.1, h.2.1, fun j w hj => ?_⟩
  by_cases e : j = k
  · subst e
    rw [List.getElem?_set_self (by omega)] at hj
    simp at hj
    subst hj
    exact h.2.2 (j, v) List.mem_cons_self
  · rw [List.getElem?_set_ne (Ne.symm e)] at hj
    refine h.2.2 (j, w) (List.mem_cons_of_mem _ (List.mem_filter.mpr ⟨asl_iff.mpr hj, ?_⟩))
    simp only [Bool.and_eq_true, Bool.not_eq_true', beq_eq_false_iff_ne, ne_eq, e, not_false_eq_true, true_and, Bool.and_eq_false_iff]
    by_cases e2 : j + 1 = k
    · right
      subst e2
      simp only [ok1, hj] at hk
      simpa using hk
    · left
      exact e2
theorem lvh_st2 {ls' : Array Slot} {lv : List (Option Value)} {n k : Nat} {v : Value} (hn : lv.length = n) (hk : ok1 lv k = true) (hl : k + 1 < n) (h : lv_has ls' n ((k, v) :: (asl lv).filter (fun q => !(q.1 == k) && (!(q.1 == k + 1) && !(q.1 + 1 == k && q.2.category == 2))))) : lvh ls' ((lv.set k (some v)).set (k + 1) none) n := by
  refine ⟨by simp [hn], h.1, h.2.1, fun j w hj => ?_⟩
  by_cases e1 : j = k + 1
  · subst e1
    rw [List.getElem?_set_self (by simp; omega)] at hj
    simp at hj
  · rw [List.getElem?_set_ne (Ne.symm e1)] at hj
    by_cases e : j = k
    · subst e
      rw [List.getElem?_set_self (by omega)] at hj
      simp at hj
      subst hj
      exact h.2.2 (j, v) List.mem_cons_self
    · rw [List.getElem?_set_ne (Ne.symm e)] at hj
      refine h.2.2 (j, w) (List.mem_cons_of_mem _ (List.mem_filter.mpr ⟨asl_iff.mpr hj, ?_⟩))
      simp only [Bool.and_eq_true, Bool.not_eq_true', beq_eq_false_iff_ne, ne_eq, e, e1, not_false_eq_true, true_and, Bool.and_eq_false_iff]
      by_cases e2 : j + 1 = k
      · right
        subst e2
        simp only [ok1, hj] at hk
        simpa using hk
      · left
        exact e2
section
variable {S : List Shp} {g : Gl} {M : Mc} {i : MI} {rm : Room} {Q : State → Prop} {pc : Nat} {lv lv' : List (Option Value)} {st : List Value} {σ : Sg}
theorem v_istore {k : Nat} {x x' : Int32} (hC : Cx S g M i rm) (hd : decode i.2.1 pc = .ok (.istore k, 2)) (hx : x = x') (hn : Nat.blt k i.2.2.1 = true) (ho : ok1 lv k = true) (hs : lv.set k (some (.int x')) = lv') (kk : V S g M i Q (pc + 2) lv' st σ) : V S g M i Q pc lv (.int x :: st) σ := by
  obtain ⟨p, e, R, s, m, args, below, meth, c, cells, slots, A⟩ := M
  intro H locs ls hP hS hl
  subst hs; subst hx
  have hn' : k < i.2.2.1 := by simpa [Nat.blt_eq] using hn
  exact lv_istore hC.1 hC.2.1 hd (lvh_has hl) hn' rfl (fun ls' h => kk H locs ls' hP hS (lvh_st1 hl.1 ho hn' h))
theorem v_istore_n {k : Fin 4} {x x' : Int32} (hC : Cx S g M i rm) (hd : decode i.2.1 pc = .ok (.istore_n k, 1)) (hx : x = x') (hn : Nat.blt (k : Nat) i.2.2.1 = true) (ho : ok1 lv (k : Nat) = true) (hs : lv.set (k : Nat) (some (.int x')) = lv') (kk : V S g M i Q (pc + 1) lv' st σ) : V S g M i Q pc lv (.int x :: st) σ := by
  obtain ⟨p, e, R, s, m, args, below, meth, c, cells, slots, A⟩ := M
  intro H locs ls hP hS hl
  subst hs; subst hx
  have hn' : (k : Nat) < i.2.2.1 := by simpa [Nat.blt_eq] using hn
  exact lv_istore_n hC.1 hC.2.1 hd rfl (lvh_has hl) hn' rfl (fun ls' h => kk H locs ls' hP hS (lvh_st1 hl.1 ho hn' h))
theorem v_astore {k : Nat} {x x' : Nat} (hC : Cx S g M i rm) (hd : decode i.2.1 pc = .ok (.astore k, 2)) (hx : x = x') (hn : Nat.blt k i.2.2.1 = true) (ho : ok1 lv k = true) (hs : lv.set k (some (.ref x')) = lv') (kk : V S g M i Q (pc + 2) lv' st σ) : V S g M i Q pc lv (.ref x :: st) σ := by
  obtain ⟨p, e, R, s, m, args, below, meth, c, cells, slots, A⟩ := M
  intro H locs ls hP hS hl
  subst hs; subst hx
  have hn' : k < i.2.2.1 := by simpa [Nat.blt_eq] using hn
  exact lv_astore hC.1 hC.2.1 hd (lvh_has hl) hn' rfl (fun ls' h => kk H locs ls' hP hS (lvh_st1 hl.1 ho hn' h))
theorem v_astore_n {k : Fin 4} {x x' : Nat} (hC : Cx S g M i rm) (hd : decode i.2.1 pc = .ok (.astore_n k, 1)) (hx : x = x') (hn : Nat.blt (k : Nat) i.2.2.1 = true) (ho : ok1 lv (k : Nat) = true) (hs : lv.set (k : Nat) (some (.ref x')) = lv') (kk : V S g M i Q (pc + 1) lv' st σ) : V S g M i Q pc lv (.ref x :: st) σ := by
  obtain ⟨p, e, R, s, m, args, below, meth, c, cells, slots, A⟩ := M
  intro H locs ls hP hS hl
  subst hs; subst hx
  have hn' : (k : Nat) < i.2.2.1 := by simpa [Nat.blt_eq] using hn
  exact lv_astore_n hC.1 hC.2.1 hd rfl (lvh_has hl) hn' rfl (fun ls' h => kk H locs ls' hP hS (lvh_st1 hl.1 ho hn' h))
theorem v_lstore {k : Nat} {x x' : Int64} (hC : Cx S g M i rm) (hd : decode i.2.1 pc = .ok (.lstore k, 2)) (hx : x = x') (hn : Nat.blt (k + 1) i.2.2.1 = true) (ho : ok1 lv k = true) (hs : (lv.set k (some (.long x'))).set (k + 1) none = lv') (kk : V S g M i Q (pc + 2) lv' st σ) : V S g M i Q pc lv (.long x :: st) σ := by
  obtain ⟨p, e, R, s, m, args, below, meth, c, cells, slots, A⟩ := M
  intro H locs ls hP hS hl
  subst hs; subst hx
  have hn' : k + 1 < i.2.2.1 := by simpa [Nat.blt_eq] using hn
  exact lv_lstore hC.1 hC.2.1 hd (lvh_has hl) hn' rfl (fun ls' h => kk H locs ls' hP hS (lvh_st2 hl.1 ho hn' h))
theorem v_lstore_n {k : Fin 4} {x x' : Int64} (hC : Cx S g M i rm) (hd : decode i.2.1 pc = .ok (.lstore_n k, 1)) (hx : x = x') (hn : Nat.blt ((k : Nat) + 1) i.2.2.1 = true) (ho : ok1 lv (k : Nat) = true) (hs : (lv.set (k : Nat) (some (.long x'))).set ((k : Nat) + 1) none = lv') (kk : V S g M i Q (pc + 1) lv' st σ) : V S g M i Q pc lv (.long x :: st) σ := by
  obtain ⟨p, e, R, s, m, args, below, meth, c, cells, slots, A⟩ := M
  intro H locs ls hP hS hl
  subst hs; subst hx
  have hn' : (k : Nat) + 1 < i.2.2.1 := by simpa [Nat.blt_eq] using hn
  exact lv_lstore_n hC.1 hC.2.1 hd rfl (lvh_has hl) hn' rfl (fun ls' h => kk H locs ls' hP hS (lvh_st2 hl.1 ho hn' h))
theorem v_iinc {k : Nat} {n : Int} {x x' : Int32} (d : Int32) (he : Int32.ofInt n = d) (hx : x + d = x') (hC : Cx S g M i rm) (hd : decode i.2.1 pc = .ok (.iinc k n, 3)) (hk : lv[k]? = some (some (.int x))) (hn : Nat.blt k i.2.2.1 = true) (ho : ok1 lv k = true) (hs : lv.set k (some (.int x')) = lv') (kk : V S g M i Q (pc + 3) lv' st σ) : V S g M i Q pc lv st σ := by
  obtain ⟨p, e, R, s, m, args, below, meth, c, cells, slots, A⟩ := M
  intro H locs ls hP hS hl
  subst hs; subst hx
  subst he
  have hn' : k < i.2.2.1 := by simpa [Nat.blt_eq] using hn
  obtain ⟨q, hq⟩ := List.getElem?_of_mem (asl_iff.mpr hk)
  exact lv_iinc hC.1 hC.2.1 hd (lvh_has hl) hq rfl hn' rfl (fun ls' h => kk H locs ls' hP hS (lvh_st1 hl.1 ho hn' h))
end
end
section
/-! rows of V for the heap, calls, returns, loops -/
theorem fs_I {g : Gl} {σ : Sg} {j k : Nat} {ks : List Nat} {v : Int32} (hk : ks[k]? = some 0) : ks.mapIdx (fun x t => fv g (sI σ j k v) j x t) = (ks.mapIdx (fun x t => fv g σ j x t)).set k (.int v) := by
  apply List.ext_getElem?
  intro x
  by_cases e : x = k
  · subst e
    rw [List.getElem?_set_self (by simp; exact (List.getElem?_eq_some_iff.mp hk).1)]
    simp [hk, fv, gI_same]
  · rw [List.getElem?_set_ne (Ne.symm e)]
    simp only [List.getElem?_mapIdx]
    congr 1
    funext t
    match t with
    | 0 => simp only [fv]; rw [gI_ne σ v (Or.inr e)]
    | 1 => simp only [fv, gL_sI]
    | t + 2 => rfl
theorem fs_L {g : Gl} {σ : Sg} {j k : Nat} {ks : List Nat} {v : Int64} (hk : ks[k]? = some 1) : ks.mapIdx (fun x t => fv g (sL σ j k v) j x t) = (ks.mapIdx (fun x t => fv g σ j x t)).set k (.long v) := by
  apply List.ext_getElem?
  intro x
  by_cases e : x = k
  · subst e
    rw [List.getElem?_set_self (by simp; exact (List.getElem?_eq_some_iff.mp hk).1)]
    simp [hk, fv, gL_same]
  · rw [List.getElem?_set_ne (Ne.symm e)]
    simp only [List.getElem?_mapIdx]
    congr 1
    funext t
    match t with
    | 0 => simp only [fv, gI_sL]
    | 1 => simp only [fv]; rw [gL_ne σ v (Or.inr e)]
    | t + 2 => rfl
theorem rowI (σ : Sg) (j k : Nat) (v : Int32) : gI (sI σ j k v) j = upd (gI σ j) k v := by funext b; simp [gI, sI]; rfl
theorem rowL (σ : Sg) (j k : Nat) (v : Int64) : gL (sL σ j k v) j = vp_updL (gL σ j) k v := by funext b; simp [gL, sL]; rfl
section
variable {S : List Shp} {g : Gl} {M : Mc} {i : MI} {rm : Room} {Q : State → Prop} {pc : Nat} {lv lv' : List (Option Value)} {st : List Value} {σ : Sg}
theorem V.weak (h : lv.length = lv'.length) (hw : ∀ (j : Nat) (v : Value), lv'[j]? = some (some v) → lv[j]? = some (some v)) (kk : V S g M i Q pc lv' st σ) : V S g M i Q pc lv st σ := by
  obtain ⟨p, e, R, s, m, args, below, meth, c, cells, slots, A⟩ := M
  intro H locs ls hP hS hl
  exact kk H locs ls hP hS ⟨h ▸ hl.1, hl.2.1, hl.2.2.1, fun j v hj => hl.2.2.2 j v (hw j v hj)⟩
theorem v_get {index j ci t : Nat} {ks : List Nat} {q : vw_C} {v : Value} (k : Nat) (hC : Cx S g M i rm) (hS : S[j]? = some (.inr (ci, ks))) (hc : classes[ci]? = some q) (hk : k < q.2.2) (ht : ks[k]? = some t) (hv : fv g σ j k t = v) (hlink : Cond.fieldLink i.1.cls index (q.2.1 k).1 (q.2.1 k).2.1 (q.2.1 k).2.2.1 ∈ gtb) (hd : decode i.2.1 pc = .ok (.getfield index, 3)) (kk : V S g M i Q (pc + 3) lv (v :: st) σ) : V S g M i Q pc lv (.ref (gad g j) :: st) σ := by
  obtain ⟨p, e, R, s, m, args, below, meth, c, cells, slots, A⟩ := M
  intro H locs ls hP hS' hl
  obtain ⟨hx, hb, hml, hown, hts, hK, hret, hlk, hR, hroom, hgap, hA, hA2, hN⟩ := hC
  exact va_get hx hb hts (en_in ci q hc) hown hK hP j (wd_at hS) hc k hk (hts _ hlink) (fun _ h => h) (v := v) (by subst hv; simp [ht]) hd (kk H locs ls hP hS' hl)
theorem v_getN {index j ci t : Nat} {ks : List Nat} {q : vw_C} {v : Value} {host : String} (k : Nat) (hC : Cx S g M i rm) (hS : S[j]? = some (.inr (ci, ks))) (hc : classes[ci]? = some q) (hk : k < q.2.2) (ht : ks[k]? = some t) (hv : fv g σ j k t = v) (hlink : Cond.fieldLinkNest i.1.cls index (q.2.1 k).1 (q.2.1 k).2.1 (q.2.1 k).2.2.1 host ∈ nst) (hd : decode i.2.1 pc = .ok (.getfield index, 3)) (kk : V S g M i Q (pc + 3) lv (v :: st) σ) : V S g M i Q pc lv (.ref (gad g j) :: st) σ := by
  obtain ⟨p, e, R, s, m, args, below, meth, c, cells, slots, A⟩ := M
  intro H locs ls hP hS' hl
  obtain ⟨hx, hb, hml, hown, hts, hK, hret, hlk, hR, hroom, hgap, hA, hA2, hN⟩ := hC
  exact va_getN hx hb hts (en_in ci q hc) hown hK hP j (wd_at hS) hc k hk (va_Nw.use rfl (hN _ hlink)) (fun _ h => h) (v := v) (by subst hv; simp [ht]) hd (kk H locs ls hP hS' hl)
theorem v_putI {index j ci : Nat} {ks : List Nat} {q : vw_C} {x : Int32} (k : Nat) (hC : Cx S g M i rm) (hS : S[j]? = some (.inr (ci, ks))) (hc : classes[ci]? = some q) (hk : k < q.2.2) (ht : ks[k]? = some 0) (hfin : (q.2.1 k).2.2.2 = false) (hn : narrow (en_ty ci k) (.int x) = .int x) (hfit : fits (en_ty ci k) (.int x) = true) (hlink : Cond.fieldLink i.1.cls index (q.2.1 k).1 (q.2.1 k).2.1 (q.2.1 k).2.2.1 ∈ gtb) (hd : decode i.2.1 pc = .ok (.putfield index, 3)) (kk : V S g M i Q (pc + 3) lv st (sI σ j k x)) : V S g M i Q pc lv (.int x :: .ref (gad g j) :: st) σ := by
  obtain ⟨p, e, R, s, m, args, below, meth, c, cells, slots, A⟩ := M
  intro H locs ls hP hS' hl
  obtain ⟨hx, hb, hml, hown, hts, hK, hret, hlk, hR, hroom, hgap, hA, hA2, hN⟩ := hC
  refine va_put hx hb hts (en_in ci q hc) (en_ty ci) (en_tyok ci q hc) (en_nm ci q hc) hown hK hP (wd_D hgap hA σ) hS' j (wd_at hS) hc k hk (hts _ hlink) (fun _ h => h) hfin (en_tyok ci q hc k hk) hn hfit (by simp; exact (List.getElem?_eq_some_iff.mp ht).1) hd (fun H1 locs1 hP1 _ hS1 => ?_)
  refine kk H1 locs1 ls ?_ hS1 hl
  rw [wd_setI hS (by show Sum.inr (ci, _) = _; rw [fs_I ht])] at hP1
  exact hP1
theorem v_putIN {index j ci : Nat} {ks : List Nat} {q : vw_C} {x : Int32} {host : String} (k : Nat) (hC : Cx S g M i rm) (hS : S[j]? = some (.inr (ci, ks))) (hc : classes[ci]? = some q) (hk : k < q.2.2) (ht : ks[k]? = some 0) (hfin : (q.2.1 k).2.2.2 = false) (hn : narrow (en_ty ci k) (.int x) = .int x) (hfit : fits (en_ty ci k) (.int x) = true) (hlink : Cond.fieldLinkNest i.1.cls index (q.2.1 k).1 (q.2.1 k).2.1 (q.2.1 k).2.2.1 host ∈ nst) (hd : decode i.2.1 pc = .ok (.putfield index, 3)) (kk : V S g M i Q (pc + 3) lv st (sI σ j k x)) : V S g M i Q pc lv (.int x :: .ref (gad g j) :: st) σ := by
  obtain ⟨p, e, R, s, m, args, below, meth, c, cells, slots, A⟩ := M
  intro H locs ls hP hS' hl
  obtain ⟨hx, hb, hml, hown, hts, hK, hret, hlk, hR, hroom, hgap, hA, hA2, hN⟩ := hC
  refine va_putN hx hb hts (en_in ci q hc) (en_ty ci) (en_tyok ci q hc) (en_nm ci q hc) hown hK hP (wd_D hgap hA σ) hS' j (wd_at hS) hc k hk (va_Nw.use rfl (hN _ hlink)) (fun _ h => h) hfin (en_tyok ci q hc k hk) hn hfit (by simp; exact (List.getElem?_eq_some_iff.mp ht).1) hd (fun H1 locs1 hP1 _ hS1 => ?_)
  refine kk H1 locs1 ls ?_ hS1 hl
  rw [wd_setI hS (by show Sum.inr (ci, _) = _; rw [fs_I ht])] at hP1
  exact hP1
theorem v_putL {index j ci : Nat} {ks : List Nat} {q : vw_C} {x : Int64} (k : Nat) (hC : Cx S g M i rm) (hS : S[j]? = some (.inr (ci, ks))) (hc : classes[ci]? = some q) (hk : k < q.2.2) (ht : ks[k]? = some 1) (hfin : (q.2.1 k).2.2.2 = false) (hn : narrow (en_ty ci k) (.long x) = .long x) (hfit : fits (en_ty ci k) (.long x) = true) (hlink : Cond.fieldLink i.1.cls index (q.2.1 k).1 (q.2.1 k).2.1 (q.2.1 k).2.2.1 ∈ gtb) (hd : decode i.2.1 pc = .ok (.putfield index, 3)) (kk : V S g M i Q (pc + 3) lv st (sL σ j k x)) : V S g M i Q pc lv (.long x :: .ref (gad g j) :: st) σ := by
  obtain ⟨p, e, R, s, m, args, below, meth, c, cells, slots, A⟩ := M
  intro H locs ls hP hS' hl
  obtain ⟨hx, hb, hml, hown, hts, hK, hret, hlk, hR, hroom, hgap, hA, hA2, hN⟩ := hC
  refine va_put hx hb hts (en_in ci q hc) (en_ty ci) (en_tyok ci q hc) (en_nm ci q hc) hown hK hP (wd_D hgap hA σ) hS' j (wd_at hS) hc k hk (hts _ hlink) (fun _ h => h) hfin (en_tyok ci q hc k hk) hn hfit (by simp; exact (List.getElem?_eq_some_iff.mp ht).1) hd (fun H1 locs1 hP1 _ hS1 => ?_)
  refine kk H1 locs1 ls ?_ hS1 hl
  rw [wd_setL hS (by show Sum.inr (ci, _) = _; rw [fs_L ht])] at hP1
  exact hP1
theorem v_iald {j n : Nat} {x : Int32} (hC : Cx S g M i rm) (hS : S[j]? = some (.inl (0, n))) (hin : vp_in x n) (hd : decode i.2.1 pc = .ok (.iaload, 1)) (kk : V S g M i Q (pc + 1) lv (.int (gI σ j x.toNatClampNeg) :: st) σ) : V S g M i Q pc lv (.int x :: .ref (gad g j) :: st) σ := by
  obtain ⟨p, e, R, s, m, args, below, meth, c, cells, slots, A⟩ := M
  intro H locs ls hP hS' hl
  obtain ⟨hx, hb, hml, hown, hts, hK, hret, hlk, hR, hroom, hgap, hA, hA2, hN⟩ := hC
  exact va_iald hx hb hK hP j 0 (wd_at hS) rfl hin hd (kk H locs ls hP hS' hl)
theorem v_zald {j n : Nat} {x : Int32} (hC : Cx S g M i rm) (hS : S[j]? = some (.inl (2, n))) (hin : vp_in x n) (hd : decode i.2.1 pc = .ok (.baload, 1)) (kk : V S g M i Q (pc + 1) lv (.int (gI σ j x.toNatClampNeg) :: st) σ) : V S g M i Q pc lv (.int x :: .ref (gad g j) :: st) σ := by
  obtain ⟨p, e, R, s, m, args, below, meth, c, cells, slots, A⟩ := M
  intro H locs ls hP hS' hl
  obtain ⟨hx, hb, hml, hown, hts, hK, hret, hlk, hR, hroom, hgap, hA, hA2, hN⟩ := hC
  exact va_zald hx hb hK hP j 2 (wd_at hS) rfl hin hd (kk H locs ls hP hS' hl)
theorem v_lald {j n : Nat} {x : Int32} (hC : Cx S g M i rm) (hS : S[j]? = some (.inl (1, n))) (hin : vp_in x n) (hd : decode i.2.1 pc = .ok (.laload, 1)) (kk : V S g M i Q (pc + 1) lv (.long (gL σ j x.toNatClampNeg) :: st) σ) : V S g M i Q pc lv (.int x :: .ref (gad g j) :: st) σ := by
  obtain ⟨p, e, R, s, m, args, below, meth, c, cells, slots, A⟩ := M
  intro H locs ls hP hS' hl
  obtain ⟨hx, hb, hml, hown, hts, hK, hret, hlk, hR, hroom, hgap, hA, hA2, hN⟩ := hC
  exact va_lald hx hb hK hP j 1 (wd_at hS) rfl hin hd (kk H locs ls hP hS' hl)
theorem v_aald {j n t : Nat} {C : String} {cA : ClassId} {x : Int32} (hC : Cx S g M i rm) (hS : S[j]? = some (.inl (t + 3, n))) (hty : (gty g)[t + 3]? = some (g.2.2.2 (t + 3), .object C)) (hin : vp_in x n) (hd : decode i.2.1 pc = .ok (.aaload, 1)) (kk : V S g M i Q (pc + 1) lv (.ref (gad g (rix t x.toNatClampNeg)) :: st) σ) : V S g M i Q pc lv (.int x :: .ref (gad g j) :: st) σ := by
  obtain ⟨p, e, R, s, m, args, below, meth, c, cells, slots, A⟩ := M
  intro H locs ls hP hS' hl
  obtain ⟨hx, hb, hml, hown, hts, hK, hret, hlk, hR, hroom, hgap, hA, hA2, hN⟩ := hC
  exact va_aldq hx hb hK hP j (t + 3) (wd_at hS) hty hin hd (kk H locs ls hP hS' hl)
theorem v_iast {j n : Nat} {x y : Int32} (hC : Cx S g M i rm) (hS : S[j]? = some (.inl (0, n))) (hin : vp_in x n) (hd : decode i.2.1 pc = .ok (.iastore, 1)) (kk : V S g M i Q (pc + 1) lv st (sI σ j x.toNatClampNeg y)) : V S g M i Q pc lv (.int y :: .int x :: .ref (gad g j) :: st) σ := by
  obtain ⟨p, e, R, s, m, args, below, meth, c, cells, slots, A⟩ := M
  intro H locs ls hP hS' hl
  obtain ⟨hx, hb, hml, hown, hts, hK, hret, hlk, hR, hroom, hgap, hA, hA2, hN⟩ := hC
  refine va_iast hx hb hK hP (wd_D hgap hA σ) hS' j 0 (wd_at hS) rfl hin hd (fun H1 locs1 hP1 _ hS1 => kk H1 locs1 ls ?_ hS1 hl)
  rw [wd_setI (k := x.toNatClampNeg) (v := y) hS (by simp only [cE, rowI])] at hP1
  exact hP1
theorem v_zast {j n : Nat} {x y : Int32} (hC : Cx S g M i rm) (hS : S[j]? = some (.inl (2, n))) (hin : vp_in x n) (hd : decode i.2.1 pc = .ok (.bastore, 1)) (kk : V S g M i Q (pc + 1) lv st (sI σ j x.toNatClampNeg (vp_nar .boolean y))) : V S g M i Q pc lv (.int y :: .int x :: .ref (gad g j) :: st) σ := by
  obtain ⟨p, e, R, s, m, args, below, meth, c, cells, slots, A⟩ := M
  intro H locs ls hP hS' hl
  obtain ⟨hx, hb, hml, hown, hts, hK, hret, hlk, hR, hroom, hgap, hA, hA2, hN⟩ := hC
  refine va_zast hx hb hK hP (wd_D hgap hA σ) hS' j 2 (wd_at hS) rfl hin hd (fun H1 locs1 hP1 _ hS1 => kk H1 locs1 ls ?_ hS1 hl)
  rw [wd_setI (k := x.toNatClampNeg) (v := vp_nar .boolean y) hS (by simp only [cE, rowI])] at hP1
  exact hP1
theorem v_last {j n : Nat} {x : Int32} {y : Int64} (hC : Cx S g M i rm) (hS : S[j]? = some (.inl (1, n))) (hin : vp_in x n) (hd : decode i.2.1 pc = .ok (.lastore, 1)) (kk : V S g M i Q (pc + 1) lv st (sL σ j x.toNatClampNeg y)) : V S g M i Q pc lv (.long y :: .int x :: .ref (gad g j) :: st) σ := by
  obtain ⟨p, e, R, s, m, args, below, meth, c, cells, slots, A⟩ := M
  intro H locs ls hP hS' hl
  obtain ⟨hx, hb, hml, hown, hts, hK, hret, hlk, hR, hroom, hgap, hA, hA2, hN⟩ := hC
  refine va_last hx hb hK hP (wd_D hgap hA σ) hS' j 1 (wd_at hS) rfl hin hd (fun H1 locs1 hP1 _ hS1 => kk H1 locs1 ls ?_ hS1 hl)
  rw [wd_setL (k := x.toNatClampNeg) (v := y) hS (by simp only [cE, rowL])] at hP1
  exact hP1
theorem v_alen {j n : Nat} (v : Int32) (hv : Int32.ofNat n = v) (hC : Cx S g M i rm) (hS : S[j]? = some (.inl (0, n))) (hd : decode i.2.1 pc = .ok (.arraylength, 1)) (kk : V S g M i Q (pc + 1) lv (.int v :: st) σ) : V S g M i Q pc lv (.ref (gad g j) :: st) σ := by
  obtain ⟨p, e, R, s, m, args, below, meth, c, cells, slots, A⟩ := M
  intro H locs ls hP hS' hl
  obtain ⟨hx, hb, hml, hown, hts, hK, hret, hlk, hR, hroom, hgap, hA, hA2, hN⟩ := hC
  exact va_alen hx hb hK hP j 0 (wd_at hS) (ty := .int) rfl hv hd (kk H locs ls hP hS' hl)
def cpI (σ : Sg) (j0 j1 sp dp n : Nat) : Sg := (fun a => if a = j1 then va_cpy (σ.1 j0) (σ.1 j1) sp dp n else σ.1 a, σ.2)
theorem wd_cp {j0 j1 sp dp n N : Nat} (h : S[j1]? = some (.inl (0, N))) : (wd S g σ).set j1 (gad g j1, .inl (g.2.2.2 0, N, .inl (va_cpy (gI σ j0) (gI σ j1) sp dp n))) = wd S g (cpI σ j0 j1 sp dp n) := by
  apply List.ext_getElem?
  intro a
  by_cases hj : a = j1
  · subst hj
    rw [List.getElem?_set_self (by simp [wd]; exact (List.getElem?_eq_some_iff.mp h).1), wd_at h]
    simp only [cE, cpI]
    have e : gI (fun b => if b = a then va_cpy (σ.1 j0) (σ.1 a) sp dp n else σ.1 b, σ.2) a = va_cpy (gI σ j0) (gI σ a) sp dp n := by
      show (if a = a then va_cpy (σ.1 j0) (σ.1 a) sp dp n else σ.1 a) = _
      rw [if_pos rfl]; rfl
    rw [e]
  · rw [List.getElem?_set_ne (Ne.symm hj)]
    simp only [wd, List.getElem?_mapIdx]
    congr 1
    funext s'
    have hI : gI (cpI σ j0 j1 sp dp n) a = gI σ a := by funext b; simp [gI, cpI, hj]
    have hL : gL (cpI σ j0 j1 sp dp n) = gL σ := rfl
    congr 1
    rcases s' with ⟨t, n'⟩ | ⟨ci, ks⟩
    · match t with
      | 0 => simp only [cE, hI]
      | 1 => simp only [cE, hL]
      | 2 => simp only [cE, hI]
      | t + 3 => rfl
    · simp only [cE]
      congr 2
      apply List.ext_getElem?
      intro x
      simp only [List.getElem?_mapIdx]
      congr 1
      funext t
      match t with
      | 0 => simp only [fv, hI]
      | 1 => simp only [fv, hL]
      | t + 2 => rfl
theorem v_acopy {index j0 j1 n0 n1 fr lo : Nat} {sp dp n : Int32} (hC : Cx S g M i { frames := fr, cells := 0, slots := 0, locals := lo }) (hS0 : S[j0]? = some (.inl (0, n0))) (hS1 : S[j1]? = some (.inl (0, n1))) (h1 : ¬ sp < 0) (h2 : ¬ dp < 0) (h3 : ¬ n < 0) (h4 : sp.toNatClampNeg + n.toNatClampNeg ≤ n0) (h5 : dp.toNatClampNeg + n.toNatClampNeg ≤ n1)
    (hlink : Cond.methodLink i.1.cls index arraycopyName ∈ gtb) (hnat : Cond.native arraycopyName ∈ gtb) (hstat : Cond.static arraycopyName ∈ gtb) (hini : Cond.initialized "java/lang/System" ∈ gtb)
    (hfr : 1 ≤ fr) (hlo : nativeFrameWords "java/lang/System" "arraycopy" 5 + 11 ≤ lo) (hd : decode i.2.1 pc = .ok (.invokestatic index, 3)) (kk : V S g M i Q (pc + 3) lv [] (cpI σ j0 j1 sp.toNatClampNeg dp.toNatClampNeg n.toNatClampNeg)) : V S g M i Q pc lv [.int n, .int dp, .ref (gad g j1), .int sp, .ref (gad g j0)] σ := by
  obtain ⟨p, e, R, s, m, args, below, meth, c, cells, slots, A⟩ := M
  intro H locs ls hP hS' hl
  obtain ⟨hx, hb, hml, hown, hts, hK, hret, hlk, hR, hroom, hgap, hA, hA2, hN⟩ := hC
  subst hR
  refine va_copyi hx hb (hml.trans hl.2.1.symm) hown (hts _ hlink) (hts _ hnat) (hts _ hstat) (hts _ hini) hK hP (wd_D hgap hA σ) hS' j0 j1 0 0 (wd_at hS0) (wd_at hS1) rfl rfl rfl h1 h2 h3 h4 h5 (fun _ _ => rfl) hfr (by simpa using hlo) hd (fun H1 locs1 hP1 _ hS1' => kk H1 locs1 ls ?_ hS1' hl)
  rw [wd_cp hS1] at hP1
  exact hP1
theorem v_iret {P : Option Value → Sg → Prop} {x : Int32} (hC : Cx S g M i rm) (hr : i.2.2.2 = some .int) (hd : decode i.2.1 pc = .ok (.ireturn, 1)) (hp : P (some (.int x)) σ) : V S g M i (PQ S g M P) pc lv [.int x] σ := by
  obtain ⟨p, e, R, s, m, args, below, meth, c, cells, slots, A⟩ := M
  intro H locs ls hP hS' hl
  obtain ⟨hx, hb, hml, hown, hts, hK, hret, hlk, hR, hroom, hgap, hA, hA2, hN⟩ := hC
  exact W.iret hx hb (hret.trans hr) (fun t ht hW => ⟨⟨_, σ, rfl, hp, by rw [ht]; exact hP, hK.moved hW.alike⟩, hS'.F ht⟩) hS'.2.2 hd hlk
theorem v_zret {P : Option Value → Sg → Prop} {x : Int32} (hC : Cx S g M i rm) (hr : i.2.2.2 = some .boolean) (hn : narrow .boolean (.int x) = .int x) (hd : decode i.2.1 pc = .ok (.ireturn, 1)) (hp : P (some (.int x)) σ) : V S g M i (PQ S g M P) pc lv [.int x] σ := by
  obtain ⟨p, e, R, s, m, args, below, meth, c, cells, slots, A⟩ := M
  intro H locs ls hP hS' hl
  obtain ⟨hx, hb, hml, hown, hts, hK, hret, hlk, hR, hroom, hgap, hA, hA2, hN⟩ := hC
  exact W.zret hx hb (hret.trans hr) hn (fun t ht hW => ⟨⟨_, σ, rfl, hp, by rw [ht]; exact hP, hK.moved hW.alike⟩, hS'.F ht⟩) hS'.2.2 hd hlk
theorem v_lret {P : Option Value → Sg → Prop} {x : Int64} (hC : Cx S g M i rm) (hr : i.2.2.2 = some .long) (hd : decode i.2.1 pc = .ok (.lreturn, 1)) (hp : P (some (.long x)) σ) : V S g M i (PQ S g M P) pc lv [.long x] σ := by
  obtain ⟨p, e, R, s, m, args, below, meth, c, cells, slots, A⟩ := M
  intro H locs ls hP hS' hl
  obtain ⟨hx, hb, hml, hown, hts, hK, hret, hlk, hR, hroom, hgap, hA, hA2, hN⟩ := hC
  exact W.lret hx hb (hret.trans hr) (fun t ht hW => ⟨⟨_, σ, rfl, hp, by rw [ht]; exact hP, hK.moved hW.alike⟩, hS'.F ht⟩) hS'.2.2 hd hlk
theorem v_vret {P : Option Value → Sg → Prop} (hC : Cx S g M i rm) (hr : i.2.2.2 = none) (hd : decode i.2.1 pc = .ok (.return_, 1)) (hp : P none σ) : V S g M i (PQ S g M P) pc lv [] σ := by
  obtain ⟨p, e, R, s, m, args, below, meth, c, cells, slots, A⟩ := M
  intro H locs ls hP hS' hl
  obtain ⟨hx, hb, hml, hown, hts, hK, hret, hlk, hR, hroom, hgap, hA, hA2, hN⟩ := hC
  exact W.vret hx hb (hret.trans hr) (fun t ht hW => ⟨⟨_, σ, rfl, hp, by rw [ht]; exact hP, hK.moved hW.alike⟩, hS'.F ht⟩) hS'.2.2 hd hlk
end
end
section
/-! calls, loops, and the pure words that the printed functions are made of -/
/-- what a caller must know of a method -/
def Gm (i : MI) (n : Nat) : Prop := Cond.code i.1 i.2.1 i.2.2.1 i.2.2.2 ∈ gtb ∧ Cond.initialized i.1.cls ∈ gtb ∧ (i.1.cls ≠ "java/lang/invoke/MethodHandle" ∧ i.1.cls ≠ "java/lang/invoke/VarHandle" ∧ (parseMethodDescriptor i.1.desc).map (fun d => d.parameters.length) = some n)
def GmS (i : MI) (n : Nat) : Prop := Gm i n ∧ Cond.static i.1 ∈ gtb
def GmV (i : MI) (n : Nat) : Prop := Gm i n ∧ Cond.instanceMethod i.1 ∈ gtb ∧ Cond.selects i.1.cls i.1 i.1 ∈ gtb
theorem gm_good {i : MI} {n : Nat} (h : Gm i n) : GoodIn gtb (Cond.code i.1 i.2.1 i.2.2.1 i.2.2.2 :: gtb) := by
  intro w hw
  rcases List.mem_cons.mp hw with rfl | hw
  · exact gtb_good _ h.1
  · exact gtb_good _ hw
section
variable {S : List Shp} {g : Gl} {σ τ : Sg} {r : Option Value}
theorem ct_run {p : Program} {e : Env} {R : Room} {s : State} {m : MethodId} {args : Array Value} {below : List Frame} {meth : Method} {c : Code} {H : Heap} {locs : List Loc} {cells slots pc : Nat} {Q : State → Prop} {ls : Array Slot} {st0 rest : List Value} {a : Array Value} {A : Nat → Prop} (hS : va_S A s.heap H locs) (hA : ∀ k, k < S.length → A (gad g k)) (hA2 : ∀ q, s.heap.size ≤ q → A q)
    (hr : va_Run p g.1 e R s m args below meth c H locs cells slots 0 0 (F0 m pc ls st0) rest (Qc S g (Dt r τ) (Aw S g H.size) a) (Aw S g H.size))
    (kk : ∀ (H1 : Heap) (locs1 : List Loc), va_P g.2.1 classes (wd S g τ) H1 → va_S A s.heap H1 locs1 → W p g.1 e R s m args below meth c H1 locs1 cells slots Q (F0 m (pc + 3) ls (r.toList ++ rest))) : W p g.1 e R s m args below meth c H locs cells slots Q (F0 m pc ls st0) := by
  intro T hT X
  obtain ⟨v, st₀, t, T', L, h0, X', hL, e1, e2, ⟨⟨r', τ', hv, ⟨h1, h2⟩, hP1, hK1⟩, hz, hk⟩, st⟩ := hr T hT X
  cases hv
  subst h1; subst h2
  rw [h0] at hz hk
  have hF : ∀ q, Aw S g H.size q → A q := by
    intro q hq
    rcases hq with ⟨k, hk, rfl⟩ | hq
    · exact hA k hk
    · exact hA2 q (Nat.le_trans hS.1 hq)
  obtain ⟨t2, a1, b1⟩ := kk T'.heap (locs ++ L) (by rw [e1]; exact hP1)
    ⟨Nat.le_trans hS.1 (by rw [e1]; exact hz), fun q h1 h2 => by rw [e1, hk q (Nat.lt_of_lt_of_le h1 hS.1) (fun z => h2 (hF q z))]; exact hS.2.1 q h1 h2, fun q hq => by
      rcases List.mem_append.mp hq with h | h
      · exact hS.2.2 q h
      · exact hF _ (hL q h)⟩ T' rfl X'
  exact ⟨t2, st t2 a1, b1⟩
theorem ct_blind {as : List Value} {sz : Nat} : FrameBlind (va_Pc as (fun U => U.heap.size = sz ∧ va_P g.2.1 classes (wd S g σ) U.heap ∧ va_K g.2.1 classes (gty g) U ∧ gap S g ∧ Nst U)) := by
  intro a U gf mk q
  obtain ⟨q0, q1, qP, qK, qG, qN⟩ := q
  exact ⟨q0, q1, qP, va_K.moved (u := U) (U := U.calling gf mk a) (Vm.Alike.refl U.vm) qK, qG, Nst.same (u := U) rfl qN⟩
end
section
variable {S : List Shp} {g : Gl} {M : Mc} {i i' : MI} {Q : State → Prop} {pc index n fr lo fr' lo' : Nat} {lv : List (Option Value)} {stk rest as : List Value} {σ τ : Sg} {r : Option Value}
theorem v_callS (hG : GmS i' n) (hC : Cx S g M i { frames := fr, cells := 0, slots := 0, locals := lo }) (hc : Ct S g i' fr' lo' as σ (Dt r τ)) (hl : Cond.methodLink i.1.cls index i'.1 ∈ gtb) (hn : as.length = n) (hR : Nat.ble (fr' + 1) fr = true) (hR2 : Nat.ble (8 + (i'.2.2.1 + 11) + lo') lo = true) (hstk : stk = as.reverse ++ rest) (hW : Nat.ble (rest.map fun v => v.category).sum 8 = true) (hd : decode i.2.1 pc = .ok (.invokestatic index, 3)) (kk : V S g M i Q (pc + 3) lv (r.toList ++ rest) τ) : V S g M i Q pc lv stk σ := by
  obtain ⟨p, e, R, s, m, args, below, meth, c, cells, slots, A⟩ := M
  intro H locs ls hP hS hl'
  obtain ⟨hx, hb, hml, hown, hts, hK, hret, hlk, hRr, hroom, hgap, hA, hA2, hN⟩ := hC
  subst hRr
  obtain ⟨hG, hstat⟩ := hG
  exact ct_run hS hA hA2 (va_runS (As := as) (rest := rest) ⟨hx, hb, hml, hown, hts⟩ (hc H.size) ⟨callB_of n hts (gm_good hG) rfl rfl rfl (hts _ hG.2.1) (hts _ hl) hG.2.2 ⟨Nat.le_of_ble_eq_true hR, Nat.le_of_ble_eq_true hR2⟩, hts _ hstat⟩ ⟨ct_blind, fun U hU hW => ⟨rfl, by rw [hU], by rw [hU]; exact hP, va_K.moved hW.alike hK, hgap, Nst.warm hW hN⟩⟩ rfl hn hl'.2.1 hstk (by show 2 * 0 + _ ≤ 8; have := Nat.le_of_ble_eq_true hW; omega) hd hroom) (fun H1 locs1 h1 h2 => kk H1 locs1 ls h1 h2 hl')
theorem v_callSN {host : String} (hG : GmS i' n) (hC : Cx S g M i { frames := fr, cells := 0, slots := 0, locals := lo }) (hc : Ct S g i' fr' lo' as σ (Dt r τ)) (hl : Cond.methodLinkNest i.1.cls index i'.1 host ∈ nst) (hn : as.length = n) (hR : Nat.ble (fr' + 1) fr = true) (hR2 : Nat.ble (8 + (i'.2.2.1 + 11) + lo') lo = true) (hstk : stk = as.reverse ++ rest) (hW : Nat.ble (rest.map fun v => v.category).sum 8 = true) (hd : decode i.2.1 pc = .ok (.invokestatic index, 3)) (kk : V S g M i Q (pc + 3) lv (r.toList ++ rest) τ) : V S g M i Q pc lv stk σ := by
  obtain ⟨p, e, R, s, m, args, below, meth, c, cells, slots, A⟩ := M
  intro H locs ls hP hS hl'
  obtain ⟨hx, hb, hml, hown, hts, hK, hret, hlk, hRr, hroom, hgap, hA, hA2, hN⟩ := hC
  subst hRr
  obtain ⟨hG, hstat⟩ := hG
  exact ct_run hS hA hA2 (va_runSN (As := as) (rest := rest) ⟨hx, hb, hml, hown, hts⟩ (hc H.size) ⟨va_cnB n hts (gm_good hG) rfl rfl rfl (hN _ hl) (hts _ hG.2.1) hG.2.2 ⟨Nat.le_of_ble_eq_true hR, Nat.le_of_ble_eq_true hR2⟩, hts _ hstat, trivial⟩ ⟨ct_blind, fun U hU hW => ⟨rfl, by rw [hU], by rw [hU]; exact hP, va_K.moved hW.alike hK, hgap, Nst.warm hW hN⟩⟩ rfl hn hl'.2.1 hstk (by show 2 * 0 + _ ≤ 8; have := Nat.le_of_ble_eq_true hW; omega) hd hroom) (fun H1 locs1 h1 h2 => kk H1 locs1 ls h1 h2 hl')
theorem v_callV {j ci : Nat} {ks : List Nat} {q : vw_C} (hG : GmV i' n) (hC : Cx S g M i { frames := fr, cells := 0, slots := 0, locals := lo }) (hS0 : S[j]? = some (.inr (ci, ks))) (hq : classes[ci]? = some q) (hq1 : q.1 = i'.1.cls) (hc : Ct S g i' fr' lo' (.ref (gad g j) :: as) σ (Dt r τ)) (hl : Cond.methodLink i.1.cls index i'.1 ∈ gtb) (hn : as.length = n) (hR : Nat.ble (fr' + 1) fr = true) (hR2 : Nat.ble (8 + (i'.2.2.1 + 11) + lo') lo = true) (hstk : stk = as.reverse ++ .ref (gad g j) :: rest) (hW : Nat.ble (rest.map fun v => v.category).sum 8 = true) (hd : decode i.2.1 pc = .ok (.invokevirtual index, 3)) (kk : V S g M i Q (pc + 3) lv (r.toList ++ rest) τ) : V S g M i Q pc lv stk σ := by
  obtain ⟨p, e, R, s, m, args, below, meth, c, cells, slots, A⟩ := M
  intro H locs ls hP hS hl'
  obtain ⟨hx, hb, hml, hown, hts, hK, hret, hlk, hRr, hroom, hgap, hA, hA2, hN⟩ := hC
  subst hRr
  obtain ⟨hG, hins, hsel⟩ := hG
  exact ct_run hS hA hA2 (va_runV (As := as) (rest := rest) (C := i'.1.cls) ⟨hx, hb, hml, hown, hts⟩ (hc H.size) ⟨callB_of n hts (gm_good hG) rfl rfl rfl (hts _ hG.2.1) (hts _ hl) hG.2.2 ⟨Nat.le_of_ble_eq_true hR, Nat.le_of_ble_eq_true hR2⟩, hts _ hins, hts _ hsel⟩ ⟨ct_blind, hq1 ▸ va_recv hK hP hq (wd_at hS0), fun U hU hW => ⟨rfl, by rw [hU], by rw [hU]; exact hP, va_K.moved hW.alike hK, hgap, Nst.warm hW hN⟩⟩ rfl hn hl'.2.1 hstk (by show 2 * 0 + _ ≤ 8; have := Nat.le_of_ble_eq_true hW; omega) hd hroom) (fun H1 locs1 h1 h2 => kk H1 locs1 ls h1 h2 hl')
theorem v_callVN {j ci : Nat} {ks : List Nat} {q : vw_C} {host : String} (hG : GmV i' n) (hC : Cx S g M i { frames := fr, cells := 0, slots := 0, locals := lo }) (hS0 : S[j]? = some (.inr (ci, ks))) (hq : classes[ci]? = some q) (hq1 : q.1 = i'.1.cls) (hc : Ct S g i' fr' lo' (.ref (gad g j) :: as) σ (Dt r τ)) (hl : Cond.methodLinkNest i.1.cls index i'.1 host ∈ nst) (hn : as.length = n) (hR : Nat.ble (fr' + 1) fr = true) (hR2 : Nat.ble (8 + (i'.2.2.1 + 11) + lo') lo = true) (hstk : stk = as.reverse ++ .ref (gad g j) :: rest) (hW : Nat.ble (rest.map fun v => v.category).sum 8 = true) (hd : decode i.2.1 pc = .ok (.invokevirtual index, 3)) (kk : V S g M i Q (pc + 3) lv (r.toList ++ rest) τ) : V S g M i Q pc lv stk σ := by
  obtain ⟨p, e, R, s, m, args, below, meth, c, cells, slots, A⟩ := M
  intro H locs ls hP hS hl'
  obtain ⟨hx, hb, hml, hown, hts, hK, hret, hlk, hRr, hroom, hgap, hA, hA2, hN⟩ := hC
  subst hRr
  obtain ⟨hG, hins, hsel⟩ := hG
  exact ct_run hS hA hA2 (va_runVN (As := as) (rest := rest) (C := i'.1.cls) ⟨hx, hb, hml, hown, hts⟩ (hc H.size) ⟨va_cnB n hts (gm_good hG) rfl rfl rfl (hN _ hl) (hts _ hG.2.1) hG.2.2 ⟨Nat.le_of_ble_eq_true hR, Nat.le_of_ble_eq_true hR2⟩, hts _ hins, hts _ hsel⟩ ⟨ct_blind, hq1 ▸ va_recv hK hP hq (wd_at hS0), fun U hU hW => ⟨rfl, by rw [hU], by rw [hU]; exact hP, va_K.moved hW.alike hK, hgap, Nst.warm hW hN⟩⟩ rfl hn hl'.2.1 hstk (by show 2 * 0 + _ ≤ 8; have := Nat.le_of_ble_eq_true hW; omega) hd hroom) (fun H1 locs1 h1 h2 => kk H1 locs1 ls h1 h2 hl')
end
end
section
/-! the words that the printed functions are made of, and their rows -/
def bnd {α β : Type} (x : α) (f : α → Option β) : Option β := f x
theorem bnd_s {α β : Type} {x : α} {f : α → Option β} {y : β} (h : bnd x f = some y) : ∃ v, x = v ∧ f v = some y := ⟨x, rfl, h⟩
theorem obd_s {α β : Type} {x : Option α} {f : α → Option β} {y : β} (h : x.bind f = some y) : ∃ v, x = some v ∧ f v = some y := by
  cases x with
  | none => cases h
  | some v => exact ⟨v, rfl, h⟩
def aI (σ : Sg) (j n : Nat) (x : Int32) : Option Int32 := if x < 0 ∨ n ≤ x.toNatClampNeg then none else some (gI σ j x.toNatClampNeg)
def aL (σ : Sg) (j n : Nat) (x : Int32) : Option Int64 := if x < 0 ∨ n ≤ x.toNatClampNeg then none else some (gL σ j x.toNatClampNeg)
def aR (n : Nat) (x : Int32) : Option Nat := if x < 0 ∨ n ≤ x.toNatClampNeg then none else some x.toNatClampNeg
def wI (σ : Sg) (j n : Nat) (x y : Int32) : Option Sg := if x < 0 ∨ n ≤ x.toNatClampNeg then none else some (sI σ j x.toNatClampNeg y)
def wL (σ : Sg) (j n : Nat) (x : Int32) (y : Int64) : Option Sg := if x < 0 ∨ n ≤ x.toNatClampNeg then none else some (sL σ j x.toNatClampNeg y)
def wZ (σ : Sg) (j n : Nat) (x y : Int32) : Option Sg := if y = 0 ∨ y = 1 then wI σ j n x y else none
def dI (x y : Int32) : Option Int32 := if y = 0 then none else some (x / y)
def mI (x y : Int32) : Option Int32 := if y = 0 then none else some (x - x / y * y)
def dL (x y : Int64) : Option Int64 := if y = 0 then none else some (x / y)
def mL (x y : Int64) : Option Int64 := if y = 0 then none else some (x - x / y * y)
def zr (x : Int32) : Option Int32 := if x = 0 ∨ x = 1 then some x else none
def cpO (σ : Sg) (j0 n0 j1 n1 : Nat) (sp dp n : Int32) : Option Sg := if sp < 0 ∨ dp < 0 ∨ n < 0 ∨ n0 < sp.toNatClampNeg + n.toNatClampNeg ∨ n1 < dp.toNatClampNeg + n.toNatClampNeg then none else some (cpI σ j0 j1 sp.toNatClampNeg dp.toNatClampNeg n.toNatClampNeg)
theorem ifn {α : Type} {c : Prop} [Decidable c] {x y : α} (h : (if c then none else some x) = some y) : ¬ c ∧ x = y := by
  by_cases hc : c
  · rw [if_pos hc] at h; cases h
  · rw [if_neg hc] at h; exact ⟨hc, Option.some.inj h⟩
theorem aI_s {σ : Sg} {j n : Nat} {x v : Int32} (h : aI σ j n x = some v) : vp_in x n ∧ gI σ j x.toNatClampNeg = v := ifn h
theorem aL_s {σ : Sg} {j n : Nat} {x : Int32} {v : Int64} (h : aL σ j n x = some v) : vp_in x n ∧ gL σ j x.toNatClampNeg = v := ifn h
theorem aR_s {n k : Nat} {x : Int32} (h : aR n x = some k) : vp_in x n ∧ x.toNatClampNeg = k := ifn h
theorem aR_lt {n k : Nat} {x : Int32} (h : aR n x = some k) : k < n := by
  obtain ⟨h1, h2⟩ := aR_s h
  subst h2
  exact Nat.not_le.mp fun q => h1 (Or.inr q)
theorem wI_s {σ τ : Sg} {j n : Nat} {x y : Int32} (h : wI σ j n x y = some τ) : vp_in x n ∧ sI σ j x.toNatClampNeg y = τ := ifn h
theorem wL_s {σ τ : Sg} {j n : Nat} {x : Int32} {y : Int64} (h : wL σ j n x y = some τ) : vp_in x n ∧ sL σ j x.toNatClampNeg y = τ := ifn h
theorem nar01 {y : Int32} (h : y = 0 ∨ y = 1) : narrow .boolean (.int y) = .int y ∧ vp_nar .boolean y = y := by
  rcases h with rfl | rfl
  · exact ⟨rfl, rfl⟩
  · exact ⟨rfl, rfl⟩
theorem wZ_s {σ τ : Sg} {j n : Nat} {x y : Int32} (h : wZ σ j n x y = some τ) : vp_in x n ∧ sI σ j x.toNatClampNeg (vp_nar .boolean y) = τ := by
  unfold wZ at h
  by_cases hc : y = 0 ∨ y = 1
  · rw [if_pos hc] at h; rw [(nar01 hc).2]; exact wI_s h
  · rw [if_neg hc] at h; cases h
theorem zr_s {x v : Int32} (h : zr x = some v) : x = v ∧ narrow .boolean (.int x) = .int x := by
  unfold zr at h
  by_cases hc : x = 0 ∨ x = 1
  · rw [if_pos hc] at h; exact ⟨Option.some.inj h, (nar01 hc).1⟩
  · rw [if_neg hc] at h; cases h
/-- fuel -/
def FU : Nat := 1000000
def lpG {α β : Type} (body : α → Sg → Option ((α ⊕ β) × Sg)) : Nat → α → Sg → Option (β × Sg)
  | 0, _, _ => none
  | n + 1, a, σ => match body a σ with
    | none => none
    | some (.inl a', σ') => lpG body n a' σ'
    | some (.inr b, σ') => some (b, σ')
def lsub : List (Option Value) → List (Option Value) → Prop
  | [], [] => True
  | none :: a, _ :: b => lsub a b
  | some v :: a, some w :: b => v = w ∧ lsub a b
  | _, _ => False
theorem ls_nil : lsub [] [] := trivial
theorem ls_none {a b : List (Option Value)} {x : Option Value} (h : lsub a b) : lsub (none :: a) (x :: b) := h
theorem ls_some {a b : List (Option Value)} {v : Value} (h : lsub a b) : lsub (some v :: a) (some v :: b) := ⟨rfl, h⟩
theorem lsub_s : ∀ {a b : List (Option Value)}, lsub a b → b.length = a.length ∧ ∀ (j : Nat) (v : Value), a[j]? = some (some v) → b[j]? = some (some v)
  | [], [], _ => ⟨rfl, fun j v h => by simp at h⟩
  | [], _ :: _, h => h.elim
  | none :: a, [], h => h.elim
  | some v :: a, [], h => h.elim
  | none :: a, x :: b, h => by
    obtain ⟨h1, h2⟩ := lsub_s (a := a) (b := b) h
    refine ⟨by simp [h1], fun j v hj => ?_⟩
    match j, hj with
    | 0, hj => simp at hj
    | j + 1, hj => simpa using h2 j v (by simpa using hj)
  | some v :: a, none :: b, h => h.elim
  | some v :: a, some w :: b, h => by
    obtain ⟨rfl, h⟩ := h
    obtain ⟨h1, h2⟩ := lsub_s (a := a) (b := b) h
    refine ⟨by simp [h1], fun j u hj => ?_⟩
    match j, hj with
    | 0, hj => simpa using hj
    | j + 1, hj => simpa using h2 j u (by simpa using hj)
section
variable {S : List Shp} {g : Gl} {M : Mc} {i i' : MI} {rm : Room} {Q : State → Prop} {pc : Nat} {lv lv' : List (Option Value)} {st : List Value} {σ τ : Sg}
theorem V.ls (h : lsub lv' lv) (kk : V S g M i Q pc lv' st σ) : V S g M i Q pc lv st σ := V.weak (lsub_s h).1 (lsub_s h).2 kk
theorem v_aI {j n : Nat} {x v : Int32} (hC : Cx S g M i rm) (hS : S[j]? = some (.inl (0, n))) (ha : aI σ j n x = some v) (hd : decode i.2.1 pc = .ok (.iaload, 1)) (kk : V S g M i Q (pc + 1) lv (.int v :: st) σ) : V S g M i Q pc lv (.int x :: .ref (gad g j) :: st) σ := by
  obtain ⟨h1, rfl⟩ := aI_s ha
  exact v_iald hC hS h1 hd kk
theorem v_aZ {j n : Nat} {x v : Int32} (hC : Cx S g M i rm) (hS : S[j]? = some (.inl (2, n))) (ha : aI σ j n x = some v) (hd : decode i.2.1 pc = .ok (.baload, 1)) (kk : V S g M i Q (pc + 1) lv (.int v :: st) σ) : V S g M i Q pc lv (.int x :: .ref (gad g j) :: st) σ := by
  obtain ⟨h1, rfl⟩ := aI_s ha
  exact v_zald hC hS h1 hd kk
theorem v_aL {j n : Nat} {x : Int32} {v : Int64} (hC : Cx S g M i rm) (hS : S[j]? = some (.inl (1, n))) (ha : aL σ j n x = some v) (hd : decode i.2.1 pc = .ok (.laload, 1)) (kk : V S g M i Q (pc + 1) lv (.long v :: st) σ) : V S g M i Q pc lv (.int x :: .ref (gad g j) :: st) σ := by
  obtain ⟨h1, rfl⟩ := aL_s ha
  exact v_lald hC hS h1 hd kk
theorem v_aR {j n t k : Nat} {C : String} {x : Int32} (hC : Cx S g M i rm) (hS : S[j]? = some (.inl (t + 3, n))) (hty : (gty g)[t + 3]? = some (g.2.2.2 (t + 3), .object C)) (ha : aR n x = some k) (hd : decode i.2.1 pc = .ok (.aaload, 1)) (kk : V S g M i Q (pc + 1) lv (.ref (gad g (rix t k)) :: st) σ) : V S g M i Q pc lv (.int x :: .ref (gad g j) :: st) σ := by
  obtain ⟨h1, rfl⟩ := aR_s ha
  exact v_aald (cA := 0) hC hS hty h1 hd kk
theorem v_wI {j n : Nat} {x y : Int32} (hC : Cx S g M i rm) (hS : S[j]? = some (.inl (0, n))) (ha : wI σ j n x y = some τ) (hd : decode i.2.1 pc = .ok (.iastore, 1)) (kk : V S g M i Q (pc + 1) lv st τ) : V S g M i Q pc lv (.int y :: .int x :: .ref (gad g j) :: st) σ := by
  obtain ⟨h1, rfl⟩ := wI_s ha
  exact v_iast hC hS h1 hd kk
theorem v_wZ {j n : Nat} {x y : Int32} (hC : Cx S g M i rm) (hS : S[j]? = some (.inl (2, n))) (ha : wZ σ j n x y = some τ) (hd : decode i.2.1 pc = .ok (.bastore, 1)) (kk : V S g M i Q (pc + 1) lv st τ) : V S g M i Q pc lv (.int y :: .int x :: .ref (gad g j) :: st) σ := by
  obtain ⟨h1, rfl⟩ := wZ_s ha
  exact v_zast hC hS h1 hd kk
theorem v_wL {j n : Nat} {x : Int32} {y : Int64} (hC : Cx S g M i rm) (hS : S[j]? = some (.inl (1, n))) (ha : wL σ j n x y = some τ) (hd : decode i.2.1 pc = .ok (.lastore, 1)) (kk : V S g M i Q (pc + 1) lv st τ) : V S g M i Q pc lv (.long y :: .int x :: .ref (gad g j) :: st) σ := by
  obtain ⟨h1, rfl⟩ := wL_s ha
  exact v_last hC hS h1 hd kk
theorem v_dI {x y v : Int32} (hC : Cx S g M i rm) (ha : dI x y = some v) (hd : decode i.2.1 pc = .ok (.idiv, 1)) (kk : V S g M i Q (pc + 1) lv (.int v :: st) σ) : V S g M i Q pc lv (.int y :: .int x :: st) σ := by
  obtain ⟨h1, rfl⟩ := ifn ha
  exact v_idiv hC h1 hd kk
theorem v_mI {x y v : Int32} (hC : Cx S g M i rm) (ha : mI x y = some v) (hd : decode i.2.1 pc = .ok (.irem, 1)) (kk : V S g M i Q (pc + 1) lv (.int v :: st) σ) : V S g M i Q pc lv (.int y :: .int x :: st) σ := by
  obtain ⟨h1, rfl⟩ := ifn ha
  exact v_irem hC h1 hd kk
theorem v_dL {x y v : Int64} (hC : Cx S g M i rm) (ha : dL x y = some v) (hd : decode i.2.1 pc = .ok (.ldiv, 1)) (kk : V S g M i Q (pc + 1) lv (.long v :: st) σ) : V S g M i Q pc lv (.long y :: .long x :: st) σ := by
  obtain ⟨h1, rfl⟩ := ifn ha
  exact v_ldiv hC h1 hd kk
theorem v_mL {x y v : Int64} (hC : Cx S g M i rm) (ha : mL x y = some v) (hd : decode i.2.1 pc = .ok (.lrem, 1)) (kk : V S g M i Q (pc + 1) lv (.long v :: st) σ) : V S g M i Q pc lv (.long y :: .long x :: st) σ := by
  obtain ⟨h1, rfl⟩ := ifn ha
  exact v_lrem hC h1 hd kk
theorem v_cpO {index j0 j1 n0 n1 fr lo : Nat} {sp dp n : Int32} (hC : Cx S g M i { frames := fr, cells := 0, slots := 0, locals := lo }) (hS0 : S[j0]? = some (.inl (0, n0))) (hS1 : S[j1]? = some (.inl (0, n1))) (ha : cpO σ j0 n0 j1 n1 sp dp n = some τ)
    (hlink : Cond.methodLink i.1.cls index arraycopyName ∈ gtb) (hnat : Cond.native arraycopyName ∈ gtb) (hstat : Cond.static arraycopyName ∈ gtb) (hini : Cond.initialized "java/lang/System" ∈ gtb)
    (hfr : Nat.ble 1 fr = true) (hlo : Nat.ble (nativeFrameWords "java/lang/System" "arraycopy" 5 + 11) lo = true) (hd : decode i.2.1 pc = .ok (.invokestatic index, 3)) (kk : V S g M i Q (pc + 3) lv [] τ) : V S g M i Q pc lv [.int n, .int dp, .ref (gad g j1), .int sp, .ref (gad g j0)] σ := by
  obtain ⟨h1, rfl⟩ := ifn ha
  simp only [not_or] at h1
  obtain ⟨a1, a2, a3, a4, a5⟩ := h1
  exact v_acopy hC hS0 hS1 a1 a2 a3 (Nat.not_lt.mp a4) (Nat.not_lt.mp a5) hlink hnat hstat hini (Nat.le_of_ble_eq_true hfr) (Nat.le_of_ble_eq_true hlo) hd kk
theorem v_pI {index j ci : Nat} {ks : List Nat} {q : vw_C} {x : Int32} (k : Nat) (hC : Cx S g M i rm) (hS : S[j]? = some (.inr (ci, ks))) (hc : classes[ci]? = some q) (hk : Nat.blt k q.2.2 = true) (ht : ks[k]? = some 0) (hfin : (q.2.1 k).2.2.2 = false) (hn : narrow (en_ty ci k) (.int x) = .int x) (hfit : fits (en_ty ci k) (.int x) = true) (hlink : Cond.fieldLink i.1.cls index (q.2.1 k).1 (q.2.1 k).2.1 (q.2.1 k).2.2.1 ∈ gtb) (hτ : sI σ j k x = τ) (hd : decode i.2.1 pc = .ok (.putfield index, 3)) (kk : V S g M i Q (pc + 3) lv st τ) : V S g M i Q pc lv (.int x :: .ref (gad g j) :: st) σ := by
  subst hτ
  exact v_putI k hC hS hc (by simpa [Nat.blt_eq] using hk) ht hfin hn hfit hlink hd kk
theorem v_pIN {index j ci : Nat} {ks : List Nat} {q : vw_C} {x : Int32} {host : String} (k : Nat) (hC : Cx S g M i rm) (hS : S[j]? = some (.inr (ci, ks))) (hc : classes[ci]? = some q) (hk : Nat.blt k q.2.2 = true) (ht : ks[k]? = some 0) (hfin : (q.2.1 k).2.2.2 = false) (hn : narrow (en_ty ci k) (.int x) = .int x) (hfit : fits (en_ty ci k) (.int x) = true) (hlink : Cond.fieldLinkNest i.1.cls index (q.2.1 k).1 (q.2.1 k).2.1 (q.2.1 k).2.2.1 host ∈ nst) (hτ : sI σ j k x = τ) (hd : decode i.2.1 pc = .ok (.putfield index, 3)) (kk : V S g M i Q (pc + 3) lv st τ) : V S g M i Q pc lv (.int x :: .ref (gad g j) :: st) σ := by
  subst hτ
  exact v_putIN k hC hS hc (by simpa [Nat.blt_eq] using hk) ht hfin hn hfit hlink hd kk
theorem v_pL {index j ci : Nat} {ks : List Nat} {q : vw_C} {x : Int64} (k : Nat) (hC : Cx S g M i rm) (hS : S[j]? = some (.inr (ci, ks))) (hc : classes[ci]? = some q) (hk : Nat.blt k q.2.2 = true) (ht : ks[k]? = some 1) (hfin : (q.2.1 k).2.2.2 = false) (hn : narrow (en_ty ci k) (.long x) = .long x) (hfit : fits (en_ty ci k) (.long x) = true) (hlink : Cond.fieldLink i.1.cls index (q.2.1 k).1 (q.2.1 k).2.1 (q.2.1 k).2.2.1 ∈ gtb) (hτ : sL σ j k x = τ) (hd : decode i.2.1 pc = .ok (.putfield index, 3)) (kk : V S g M i Q (pc + 3) lv st τ) : V S g M i Q pc lv (.long x :: .ref (gad g j) :: st) σ := by
  subst hτ
  exact v_putL k hC hS hc (by simpa [Nat.blt_eq] using hk) ht hfin hn hfit hlink hd kk
theorem v_gt {index j ci t : Nat} {ks : List Nat} {q : vw_C} (k : Nat) (v : Value) (hC : Cx S g M i rm) (hS : S[j]? = some (.inr (ci, ks))) (hc : classes[ci]? = some q) (hk : Nat.blt k q.2.2 = true) (ht : ks[k]? = some t) (hv : fv g σ j k t = v) (hlink : Cond.fieldLink i.1.cls index (q.2.1 k).1 (q.2.1 k).2.1 (q.2.1 k).2.2.1 ∈ gtb) (hd : decode i.2.1 pc = .ok (.getfield index, 3)) (kk : V S g M i Q (pc + 3) lv (v :: st) σ) : V S g M i Q pc lv (.ref (gad g j) :: st) σ := v_get k hC hS hc (by simpa [Nat.blt_eq] using hk) ht hv hlink hd kk
theorem v_gtN {index j ci t : Nat} {ks : List Nat} {q : vw_C} {host : String} (k : Nat) (v : Value) (hC : Cx S g M i rm) (hS : S[j]? = some (.inr (ci, ks))) (hc : classes[ci]? = some q) (hk : Nat.blt k q.2.2 = true) (ht : ks[k]? = some t) (hv : fv g σ j k t = v) (hlink : Cond.fieldLinkNest i.1.cls index (q.2.1 k).1 (q.2.1 k).2.1 (q.2.1 k).2.2.1 host ∈ nst) (hd : decode i.2.1 pc = .ok (.getfield index, 3)) (kk : V S g M i Q (pc + 3) lv (v :: st) σ) : V S g M i Q pc lv (.ref (gad g j) :: st) σ := v_getN k hC hS hc (by simpa [Nat.blt_eq] using hk) ht hv hlink hd kk
theorem v_loop {α β : Type} {body : α → Sg → Option ((α ⊕ β) × Sg)} (lvH : α → List (Option Value)) (X : β → Sg → Prop) (hb : ∀ (a : α) (σ : Sg) (u : (α ⊕ β) × Sg), body a σ = some u → (∀ a', u.1 = .inl a' → V S g M i Q pc (lvH a') st u.2) → (∀ b, u.1 = .inr b → X b u.2) → V S g M i Q pc (lvH a) st σ) : ∀ (n : Nat) (a : α) (σ : Sg) (w : β × Sg), lpG body n a σ = some w → X w.1 w.2 → V S g M i Q pc (lvH a) st σ
  | 0, a, σ, w, h, _ => by cases h
  | n + 1, a, σ, w, h, hx => by
    unfold lpG at h
    cases hb1 : body a σ with
    | none => rw [hb1] at h; cases h
    | some u =>
      obtain ⟨u1, u2⟩ := u
      rw [hb1] at h
      cases u1 with
      | inl a' =>
        refine hb a σ _ hb1 (fun a2 e => ?_) (fun b e => by cases e)
        obtain rfl := Sum.inl.inj e
        exact v_loop lvH X hb n a' u2 w h hx
      | inr b =>
        refine hb a σ _ hb1 (fun a2 e => by cases e) (fun b2 e => ?_)
        obtain rfl := Sum.inr.inj e
        have e2 := Option.some.inj h
        subst e2
        exact hx
theorem v_loopR {α ρ ε : Type} {body : α → Sg → Option ((α ⊕ (ρ ⊕ ε)) × Sg)} (lvH : α → List (Option Value)) (Y : ρ → Sg → Prop) (X : ε → Sg → Prop) (hb : ∀ (a : α) (σ : Sg) (u : (α ⊕ (ρ ⊕ ε)) × Sg), body a σ = some u → (∀ a', u.1 = .inl a' → V S g M i Q pc (lvH a') st u.2) → (∀ r, u.1 = .inr (.inl r) → Y r u.2) → (∀ b, u.1 = .inr (.inr b) → X b u.2) → V S g M i Q pc (lvH a) st σ) (n : Nat) (a : α) (σ : Sg) (w : (ρ ⊕ ε) × Sg) (h : lpG body n a σ = some w) (h1 : ∀ r, w.1 = .inl r → Y r w.2) (h2 : ∀ b, w.1 = .inr b → X b w.2) : V S g M i Q pc (lvH a) st σ := by
  refine v_loop lvH (fun b τ => Sum.elim (fun r => Y r τ) (fun x => X x τ) b) (fun a σ u hu k1 k2 => hb a σ u hu k1 (fun r e => k2 _ e) (fun b e => k2 _ e)) n a σ w h ?_
  obtain ⟨w1, w2⟩ := w
  cases w1 with
  | inl r => exact h1 r rfl
  | inr b => exact h2 b rfl
theorem v_cS {index n fr lo fr' lo' : Nat} {stk as : List Value} {r : Option Value} (rest stk' : List Value) (hG : GmS i' n) (hC : Cx S g M i { frames := fr, cells := 0, slots := 0, locals := lo }) (hc : Ct S g i' fr' lo' as σ (Dt r τ)) (hl : Cond.methodLink i.1.cls index i'.1 ∈ gtb) (hn : as.length = n) (hR : Nat.ble (fr' + 1) fr = true) (hR2 : Nat.ble (8 + (i'.2.2.1 + 11) + lo') lo = true) (hstk : stk = as.reverse ++ rest) (hW : Nat.ble (rest.map fun v => v.category).sum 8 = true) (he : r.toList ++ rest = stk') (hd : decode i.2.1 pc = .ok (.invokestatic index, 3)) (kk : V S g M i Q (pc + 3) lv stk' τ) : V S g M i Q pc lv stk σ := v_callS hG hC hc hl hn hR hR2 hstk hW hd (he ▸ kk)
theorem v_cSN {index n fr lo fr' lo' : Nat} {host : String} {stk as : List Value} {r : Option Value} (rest stk' : List Value) (hG : GmS i' n) (hC : Cx S g M i { frames := fr, cells := 0, slots := 0, locals := lo }) (hc : Ct S g i' fr' lo' as σ (Dt r τ)) (hl : Cond.methodLinkNest i.1.cls index i'.1 host ∈ nst) (hn : as.length = n) (hR : Nat.ble (fr' + 1) fr = true) (hR2 : Nat.ble (8 + (i'.2.2.1 + 11) + lo') lo = true) (hstk : stk = as.reverse ++ rest) (hW : Nat.ble (rest.map fun v => v.category).sum 8 = true) (he : r.toList ++ rest = stk') (hd : decode i.2.1 pc = .ok (.invokestatic index, 3)) (kk : V S g M i Q (pc + 3) lv stk' τ) : V S g M i Q pc lv stk σ := v_callSN hG hC hc hl hn hR hR2 hstk hW hd (he ▸ kk)
theorem v_cV {index n fr lo fr' lo' j ci : Nat} {ks : List Nat} {q : vw_C} {stk as : List Value} {r : Option Value} (rest stk' : List Value) (hG : GmV i' n) (hC : Cx S g M i { frames := fr, cells := 0, slots := 0, locals := lo }) (hS0 : S[j]? = some (.inr (ci, ks))) (hq : classes[ci]? = some q) (hq1 : q.1 = i'.1.cls) (hc : Ct S g i' fr' lo' (.ref (gad g j) :: as) σ (Dt r τ)) (hl : Cond.methodLink i.1.cls index i'.1 ∈ gtb) (hn : as.length = n) (hR : Nat.ble (fr' + 1) fr = true) (hR2 : Nat.ble (8 + (i'.2.2.1 + 11) + lo') lo = true) (hstk : stk = as.reverse ++ .ref (gad g j) :: rest) (hW : Nat.ble (rest.map fun v => v.category).sum 8 = true) (he : r.toList ++ rest = stk') (hd : decode i.2.1 pc = .ok (.invokevirtual index, 3)) (kk : V S g M i Q (pc + 3) lv stk' τ) : V S g M i Q pc lv stk σ := v_callV hG hC hS0 hq hq1 hc hl hn hR hR2 hstk hW hd (he ▸ kk)
theorem v_cVN {index n fr lo fr' lo' j ci : Nat} {host : String} {ks : List Nat} {q : vw_C} {stk as : List Value} {r : Option Value} (rest stk' : List Value) (hG : GmV i' n) (hC : Cx S g M i { frames := fr, cells := 0, slots := 0, locals := lo }) (hS0 : S[j]? = some (.inr (ci, ks))) (hq : classes[ci]? = some q) (hq1 : q.1 = i'.1.cls) (hc : Ct S g i' fr' lo' (.ref (gad g j) :: as) σ (Dt r τ)) (hl : Cond.methodLinkNest i.1.cls index i'.1 host ∈ nst) (hn : as.length = n) (hR : Nat.ble (fr' + 1) fr = true) (hR2 : Nat.ble (8 + (i'.2.2.1 + 11) + lo') lo = true) (hstk : stk = as.reverse ++ .ref (gad g j) :: rest) (hW : Nat.ble (rest.map fun v => v.category).sum 8 = true) (he : r.toList ++ rest = stk') (hd : decode i.2.1 pc = .ok (.invokevirtual index, 3)) (kk : V S g M i Q (pc + 3) lv stk' τ) : V S g M i Q pc lv stk σ := v_callVN hG hC hS0 hq hq1 hc hl hn hR hR2 hstk hW hd (he ▸ kk)
theorem v_zr {P : Option Value → Sg → Prop} {x v : Int32} (hC : Cx S g M i rm) (hr : i.2.2.2 = some .boolean) (hv : zr x = some v) (hd : decode i.2.1 pc = .ok (.ireturn, 1)) (hp : P (some (.int v)) σ) : V S g M i (PQ S g M P) pc lv [.int x] σ := by
  obtain ⟨rfl, h2⟩ := zr_s hv
  exact v_zret hC hr h2 hd hp
end
theorem ne_toInt {x k : Int32} (h : ¬ x = k) : x.toInt ≠ k.toInt := fun e => h (Int32.toInt_inj.mp e)
end
