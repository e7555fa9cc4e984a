section
-- ===== PART A: goes FIRST, ahead of the names: the tables' words, and 'selects' of the private methods out of them =====
/-- a private method of a class that the tables say can be made, by its rows of tables_1 -/
def lw_okq (q : MethodName × Nat) : Prop := (q.1.cls ≠ "java/lang/invoke/MethodHandle" ∧ q.1.cls ≠ "java/lang/invoke/VarHandle") ∧ Cond.instantiable q.1.cls q.2 ∈ tables_1 ∧ Cond.privateMethod q.1 ∈ tables_1 ∧ Cond.instanceMethod q.1 ∈ tables_1
theorem lw_p0 : lw_okq (⟨"PairsStand$Kept", "isAhead", "(II)Z"⟩, 8) := ⟨⟨by decide +kernel, by decide +kernel⟩, List.mem_of_getElem? (i := 24) (by decide +kernel), List.mem_of_getElem? (i := 339) (by decide +kernel), List.mem_of_getElem? (i := 340) (by decide +kernel)⟩
theorem lw_p1 : lw_okq (⟨"PairsStand$Basis", "keepWork", "(I)V"⟩, 7) := ⟨⟨by decide +kernel, by decide +kernel⟩, List.mem_of_getElem? (i := 74) (by decide +kernel), List.mem_of_getElem? (i := 374) (by decide +kernel), List.mem_of_getElem? (i := 375) (by decide +kernel)⟩
theorem lw_p2 : lw_okq (⟨"PairsStand$Basis", "clearPlace", "(I)V"⟩, 7) := ⟨⟨by decide +kernel, by decide +kernel⟩, List.mem_of_getElem? (i := 74) (by decide +kernel), List.mem_of_getElem? (i := 378) (by decide +kernel), List.mem_of_getElem? (i := 379) (by decide +kernel)⟩
theorem lw_p3 : lw_okq (⟨"PairsStand", "fillStanding", "()V"⟩, 13) := ⟨⟨by decide +kernel, by decide +kernel⟩, List.mem_of_getElem? (i := 16) (by decide +kernel), List.mem_of_getElem? (i := 443) (by decide +kernel), List.mem_of_getElem? (i := 444) (by decide +kernel)⟩
theorem lw_p4 : lw_okq (⟨"PairsStand", "fillOrder", "()V"⟩, 13) := ⟨⟨by decide +kernel, by decide +kernel⟩, List.mem_of_getElem? (i := 16) (by decide +kernel), List.mem_of_getElem? (i := 477) (by decide +kernel), List.mem_of_getElem? (i := 478) (by decide +kernel)⟩
theorem lw_p5 : lw_okq (⟨"PairsStand$Standing", "withOneMore", "(I)I"⟩, 3) := ⟨⟨by decide +kernel, by decide +kernel⟩, List.mem_of_getElem? (i := 131) (by decide +kernel), List.mem_of_getElem? (i := 493) (by decide +kernel), List.mem_of_getElem? (i := 494) (by decide +kernel)⟩
theorem lw_p6 : lw_okq (⟨"PairsStand$Standing", "withTwoForOne", "(I)I"⟩, 3) := ⟨⟨by decide +kernel, by decide +kernel⟩, List.mem_of_getElem? (i := 131) (by decide +kernel), List.mem_of_getElem? (i := 497) (by decide +kernel), List.mem_of_getElem? (i := 498) (by decide +kernel)⟩
theorem lw_p7 : lw_okq (⟨"PairsStand$Standing", "twoMore", "(II)I"⟩, 3) := ⟨⟨by decide +kernel, by decide +kernel⟩, List.mem_of_getElem? (i := 131) (by decide +kernel), List.mem_of_getElem? (i := 501) (by decide +kernel), List.mem_of_getElem? (i := 502) (by decide +kernel)⟩
theorem lw_p8 : lw_okq (⟨"PairsStand", "fillTimes", "(LPairsStand$Sheet;)V"⟩, 13) := ⟨⟨by decide +kernel, by decide +kernel⟩, List.mem_of_getElem? (i := 16) (by decide +kernel), List.mem_of_getElem? (i := 516) (by decide +kernel), List.mem_of_getElem? (i := 517) (by decide +kernel)⟩
theorem lw_p9 : lw_okq (⟨"PairsStand$Root", "wholeNumber", "(LPairsStand$Rows;LPairsStand$Sheet;II)J"⟩, 3) := ⟨⟨by decide +kernel, by decide +kernel⟩, List.mem_of_getElem? (i := 164) (by decide +kernel), List.mem_of_getElem? (i := 559) (by decide +kernel), List.mem_of_getElem? (i := 560) (by decide +kernel)⟩
theorem lw_p10 : lw_okq (⟨"PairsStand$Root", "product", "(JJ)J"⟩, 3) := ⟨⟨by decide +kernel, by decide +kernel⟩, List.mem_of_getElem? (i := 164) (by decide +kernel), List.mem_of_getElem? (i := 565) (by decide +kernel), List.mem_of_getElem? (i := 566) (by decide +kernel)⟩
theorem lw_p11 : lw_okq (⟨"PairsStand$Root", "plus", "(JJ)J"⟩, 3) := ⟨⟨by decide +kernel, by decide +kernel⟩, List.mem_of_getElem? (i := 164) (by decide +kernel), List.mem_of_getElem? (i := 571) (by decide +kernel), List.mem_of_getElem? (i := 572) (by decide +kernel)⟩
theorem lw_p12 : lw_okq (⟨"PairsStand$Root", "ofPlaces", "(II)J"⟩, 3) := ⟨⟨by decide +kernel, by decide +kernel⟩, List.mem_of_getElem? (i := 164) (by decide +kernel), List.mem_of_getElem? (i := 578) (by decide +kernel), List.mem_of_getElem? (i := 579) (by decide +kernel)⟩
theorem lw_p13 : lw_okq (⟨"PairsStand$Root", "minus", "(JJ)J"⟩, 3) := ⟨⟨by decide +kernel, by decide +kernel⟩, List.mem_of_getElem? (i := 164) (by decide +kernel), List.mem_of_getElem? (i := 582) (by decide +kernel), List.mem_of_getElem? (i := 583) (by decide +kernel)⟩
theorem lw_p14 : lw_okq (⟨"PairsStand", "drawTimes", "(I)I"⟩, 13) := ⟨⟨by decide +kernel, by decide +kernel⟩, List.mem_of_getElem? (i := 16) (by decide +kernel), List.mem_of_getElem? (i := 591) (by decide +kernel), List.mem_of_getElem? (i := 592) (by decide +kernel)⟩
theorem lw_p15 : lw_okq (⟨"PairsStand", "fillClasses", "(LPairsStand$Sheet;)V"⟩, 13) := ⟨⟨by decide +kernel, by decide +kernel⟩, List.mem_of_getElem? (i := 16) (by decide +kernel), List.mem_of_getElem? (i := 605) (by decide +kernel), List.mem_of_getElem? (i := 606) (by decide +kernel)⟩
def lw_privs_1 : List (MethodName × Nat) := [(⟨"PairsStand$Kept", "isAhead", "(II)Z"⟩, 8), (⟨"PairsStand$Basis", "keepWork", "(I)V"⟩, 7), (⟨"PairsStand$Basis", "clearPlace", "(I)V"⟩, 7), (⟨"PairsStand", "fillStanding", "()V"⟩, 13), (⟨"PairsStand", "fillOrder", "()V"⟩, 13), (⟨"PairsStand$Standing", "withOneMore", "(I)I"⟩, 3), (⟨"PairsStand$Standing", "withTwoForOne", "(I)I"⟩, 3), (⟨"PairsStand$Standing", "twoMore", "(II)I"⟩, 3), (⟨"PairsStand", "fillTimes", "(LPairsStand$Sheet;)V"⟩, 13), (⟨"PairsStand$Root", "wholeNumber", "(LPairsStand$Rows;LPairsStand$Sheet;II)J"⟩, 3), (⟨"PairsStand$Root", "product", "(JJ)J"⟩, 3), (⟨"PairsStand$Root", "plus", "(JJ)J"⟩, 3), (⟨"PairsStand$Root", "ofPlaces", "(II)J"⟩, 3), (⟨"PairsStand$Root", "minus", "(JJ)J"⟩, 3), (⟨"PairsStand", "drawTimes", "(I)I"⟩, 13), (⟨"PairsStand", "fillClasses", "(LPairsStand$Sheet;)V"⟩, 13)]
theorem lw_r1 : ∀ q ∈ lw_privs_1, lw_okq q := List.forall_mem_cons.mpr ⟨lw_p0, List.forall_mem_cons.mpr ⟨lw_p1, List.forall_mem_cons.mpr ⟨lw_p2, List.forall_mem_cons.mpr ⟨lw_p3, List.forall_mem_cons.mpr ⟨lw_p4, List.forall_mem_cons.mpr ⟨lw_p5, List.forall_mem_cons.mpr ⟨lw_p6, List.forall_mem_cons.mpr ⟨lw_p7, List.forall_mem_cons.mpr ⟨lw_p8, List.forall_mem_cons.mpr ⟨lw_p9, List.forall_mem_cons.mpr ⟨lw_p10, List.forall_mem_cons.mpr ⟨lw_p11, List.forall_mem_cons.mpr ⟨lw_p12, List.forall_mem_cons.mpr ⟨lw_p13, List.forall_mem_cons.mpr ⟨lw_p14, List.forall_mem_cons.mpr ⟨lw_p15, fun _ h => absurd h List.not_mem_nil⟩⟩⟩⟩⟩⟩⟩⟩⟩⟩⟩⟩⟩⟩⟩⟩
theorem lw_p16 : lw_okq (⟨"PairsStand", "fillRays", "()V"⟩, 13) := ⟨⟨by decide +kernel, by decide +kernel⟩, List.mem_of_getElem? (i := 16) (by decide +kernel), List.mem_of_getElem? (i := 622) (by decide +kernel), List.mem_of_getElem? (i := 623) (by decide +kernel)⟩
theorem lw_p17 : lw_okq (⟨"PairsStand$Rays", "insert", "(J)V"⟩, 2) := ⟨⟨by decide +kernel, by decide +kernel⟩, List.mem_of_getElem? (i := 180) (by decide +kernel), List.mem_of_getElem? (i := 635) (by decide +kernel), List.mem_of_getElem? (i := 636) (by decide +kernel)⟩
theorem lw_p18 : lw_okq (⟨"PairsStand", "isBroken", "(I)Z"⟩, 13) := ⟨⟨by decide +kernel, by decide +kernel⟩, List.mem_of_getElem? (i := 16) (by decide +kernel), List.mem_of_getElem? (i := 673) (by decide +kernel), List.mem_of_getElem? (i := 674) (by decide +kernel)⟩
theorem lw_p19 : lw_okq (⟨"PairsStandModel", "rest", "(J)I"⟩, 27) := ⟨⟨by decide +kernel, by decide +kernel⟩, List.mem_of_getElem? (i := 774) (by decide +kernel), List.mem_of_getElem? (i := 879) (by decide +kernel), List.mem_of_getElem? (i := 880) (by decide +kernel)⟩
theorem lw_p20 : lw_okq (⟨"PairsStandModel", "over", "(II)I"⟩, 27) := ⟨⟨by decide +kernel, by decide +kernel⟩, List.mem_of_getElem? (i := 774) (by decide +kernel), List.mem_of_getElem? (i := 883) (by decide +kernel), List.mem_of_getElem? (i := 884) (by decide +kernel)⟩
theorem lw_p21 : lw_okq (⟨"PairsStandModel", "isPair", "(I)Z"⟩, 27) := ⟨⟨by decide +kernel, by decide +kernel⟩, List.mem_of_getElem? (i := 774) (by decide +kernel), List.mem_of_getElem? (i := 897) (by decide +kernel), List.mem_of_getElem? (i := 898) (by decide +kernel)⟩
theorem lw_p22 : lw_okq (⟨"PairsStandModel", "ahead", "(I)I"⟩, 27) := ⟨⟨by decide +kernel, by decide +kernel⟩, List.mem_of_getElem? (i := 774) (by decide +kernel), List.mem_of_getElem? (i := 911) (by decide +kernel), List.mem_of_getElem? (i := 912) (by decide +kernel)⟩
theorem lw_p23 : lw_okq (⟨"PairsStandModel", "namePlace", "(I)I"⟩, 27) := ⟨⟨by decide +kernel, by decide +kernel⟩, List.mem_of_getElem? (i := 774) (by decide +kernel), List.mem_of_getElem? (i := 915) (by decide +kernel), List.mem_of_getElem? (i := 916) (by decide +kernel)⟩
theorem lw_p24 : lw_okq (⟨"PairsStandModel", "rankOf", "(II)I"⟩, 27) := ⟨⟨by decide +kernel, by decide +kernel⟩, List.mem_of_getElem? (i := 774) (by decide +kernel), List.mem_of_getElem? (i := 919) (by decide +kernel), List.mem_of_getElem? (i := 920) (by decide +kernel)⟩
theorem lw_p25 : lw_okq (⟨"PairsStandModel", "laysAxis", "(I)V"⟩, 27) := ⟨⟨by decide +kernel, by decide +kernel⟩, List.mem_of_getElem? (i := 774) (by decide +kernel), List.mem_of_getElem? (i := 926) (by decide +kernel), List.mem_of_getElem? (i := 927) (by decide +kernel)⟩
theorem lw_p26 : lw_okq (⟨"PairsStandModel", "laysRow", "(II)V"⟩, 27) := ⟨⟨by decide +kernel, by decide +kernel⟩, List.mem_of_getElem? (i := 774) (by decide +kernel), List.mem_of_getElem? (i := 930) (by decide +kernel), List.mem_of_getElem? (i := 931) (by decide +kernel)⟩
theorem lw_p27 : lw_okq (⟨"PairsStandModel", "numberOf", "(III)I"⟩, 27) := ⟨⟨by decide +kernel, by decide +kernel⟩, List.mem_of_getElem? (i := 774) (by decide +kernel), List.mem_of_getElem? (i := 934) (by decide +kernel), List.mem_of_getElem? (i := 935) (by decide +kernel)⟩
theorem lw_p28 : lw_okq (⟨"PairsStandModel", "ranks", "()I"⟩, 27) := ⟨⟨by decide +kernel, by decide +kernel⟩, List.mem_of_getElem? (i := 774) (by decide +kernel), List.mem_of_getElem? (i := 938) (by decide +kernel), List.mem_of_getElem? (i := 939) (by decide +kernel)⟩
theorem lw_p29 : lw_okq (⟨"PairsStandModel", "changes", "(II)V"⟩, 27) := ⟨⟨by decide +kernel, by decide +kernel⟩, List.mem_of_getElem? (i := 774) (by decide +kernel), List.mem_of_getElem? (i := 942) (by decide +kernel), List.mem_of_getElem? (i := 943) (by decide +kernel)⟩
theorem lw_p30 : lw_okq (⟨"PairsStandModel", "adds", "(III)V"⟩, 27) := ⟨⟨by decide +kernel, by decide +kernel⟩, List.mem_of_getElem? (i := 774) (by decide +kernel), List.mem_of_getElem? (i := 946) (by decide +kernel), List.mem_of_getElem? (i := 947) (by decide +kernel)⟩
theorem lw_p31 : lw_okq (⟨"PairsStandModel", "whoIs", "(J)I"⟩, 27) := ⟨⟨by decide +kernel, by decide +kernel⟩, List.mem_of_getElem? (i := 774) (by decide +kernel), List.mem_of_getElem? (i := 967) (by decide +kernel), List.mem_of_getElem? (i := 968) (by decide +kernel)⟩
def lw_privs_2 : List (MethodName × Nat) := [(⟨"PairsStand", "fillRays", "()V"⟩, 13), (⟨"PairsStand$Rays", "insert", "(J)V"⟩, 2), (⟨"PairsStand", "isBroken", "(I)Z"⟩, 13), (⟨"PairsStandModel", "rest", "(J)I"⟩, 27), (⟨"PairsStandModel", "over", "(II)I"⟩, 27), (⟨"PairsStandModel", "isPair", "(I)Z"⟩, 27), (⟨"PairsStandModel", "ahead", "(I)I"⟩, 27), (⟨"PairsStandModel", "namePlace", "(I)I"⟩, 27), (⟨"PairsStandModel", "rankOf", "(II)I"⟩, 27), (⟨"PairsStandModel", "laysAxis", "(I)V"⟩, 27), (⟨"PairsStandModel", "laysRow", "(II)V"⟩, 27), (⟨"PairsStandModel", "numberOf", "(III)I"⟩, 27), (⟨"PairsStandModel", "ranks", "()I"⟩, 27), (⟨"PairsStandModel", "changes", "(II)V"⟩, 27), (⟨"PairsStandModel", "adds", "(III)V"⟩, 27), (⟨"PairsStandModel", "whoIs", "(J)I"⟩, 27)]
theorem lw_r2 : ∀ q ∈ lw_privs_2, lw_okq q := List.forall_mem_cons.mpr ⟨lw_p16, List.forall_mem_cons.mpr ⟨lw_p17, List.forall_mem_cons.mpr ⟨lw_p18, List.forall_mem_cons.mpr ⟨lw_p19, List.forall_mem_cons.mpr ⟨lw_p20, List.forall_mem_cons.mpr ⟨lw_p21, List.forall_mem_cons.mpr ⟨lw_p22, List.forall_mem_cons.mpr ⟨lw_p23, List.forall_mem_cons.mpr ⟨lw_p24, List.forall_mem_cons.mpr ⟨lw_p25, List.forall_mem_cons.mpr ⟨lw_p26, List.forall_mem_cons.mpr ⟨lw_p27, List.forall_mem_cons.mpr ⟨lw_p28, List.forall_mem_cons.mpr ⟨lw_p29, List.forall_mem_cons.mpr ⟨lw_p30, List.forall_mem_cons.mpr ⟨lw_p31, fun _ h => absurd h List.not_mem_nil⟩⟩⟩⟩⟩⟩⟩⟩⟩⟩⟩⟩⟩⟩⟩⟩
theorem lw_p32 : lw_okq (⟨"PairsStandModel", "isSet", "(I)Z"⟩, 27) := ⟨⟨by decide +kernel, by decide +kernel⟩, List.mem_of_getElem? (i := 774) (by decide +kernel), List.mem_of_getElem? (i := 988) (by decide +kernel), List.mem_of_getElem? (i := 989) (by decide +kernel)⟩
theorem lw_p33 : lw_okq (⟨"PairsStandModel", "isStanding", "(I)Z"⟩, 27) := ⟨⟨by decide +kernel, by decide +kernel⟩, List.mem_of_getElem? (i := 774) (by decide +kernel), List.mem_of_getElem? (i := 996) (by decide +kernel), List.mem_of_getElem? (i := 997) (by decide +kernel)⟩
theorem lw_p34 : lw_okq (⟨"PairsStandModel", "mostOf", "()I"⟩, 27) := ⟨⟨by decide +kernel, by decide +kernel⟩, List.mem_of_getElem? (i := 774) (by decide +kernel), List.mem_of_getElem? (i := 1007) (by decide +kernel), List.mem_of_getElem? (i := 1008) (by decide +kernel)⟩
theorem lw_p35 : lw_okq (⟨"PairsStandModel", "weights", "(I)I"⟩, 27) := ⟨⟨by decide +kernel, by decide +kernel⟩, List.mem_of_getElem? (i := 774) (by decide +kernel), List.mem_of_getElem? (i := 1020) (by decide +kernel), List.mem_of_getElem? (i := 1021) (by decide +kernel)⟩
theorem lw_p36 : lw_okq (⟨"PairsStandModel", "bettered", "(I)I"⟩, 27) := ⟨⟨by decide +kernel, by decide +kernel⟩, List.mem_of_getElem? (i := 774) (by decide +kernel), List.mem_of_getElem? (i := 1037) (by decide +kernel), List.mem_of_getElem? (i := 1038) (by decide +kernel)⟩
theorem lw_p37 : lw_okq (⟨"PairsStandModel", "tells", "(I)I"⟩, 27) := ⟨⟨by decide +kernel, by decide +kernel⟩, List.mem_of_getElem? (i := 774) (by decide +kernel), List.mem_of_getElem? (i := 1048) (by decide +kernel), List.mem_of_getElem? (i := 1049) (by decide +kernel)⟩
theorem lw_p38 : lw_okq (⟨"PairsStandModel", "tableAt", "(II)I"⟩, 27) := ⟨⟨by decide +kernel, by decide +kernel⟩, List.mem_of_getElem? (i := 774) (by decide +kernel), List.mem_of_getElem? (i := 1052) (by decide +kernel), List.mem_of_getElem? (i := 1053) (by decide +kernel)⟩
theorem lw_p39 : lw_okq (⟨"PairsStandModel", "difference", "(III)I"⟩, 27) := ⟨⟨by decide +kernel, by decide +kernel⟩, List.mem_of_getElem? (i := 774) (by decide +kernel), List.mem_of_getElem? (i := 1056) (by decide +kernel), List.mem_of_getElem? (i := 1057) (by decide +kernel)⟩
theorem lw_p40 : lw_okq (⟨"PairsStandModel", "halfOf", "()I"⟩, 27) := ⟨⟨by decide +kernel, by decide +kernel⟩, List.mem_of_getElem? (i := 774) (by decide +kernel), List.mem_of_getElem? (i := 1064) (by decide +kernel), List.mem_of_getElem? (i := 1065) (by decide +kernel)⟩
theorem lw_p41 : lw_okq (⟨"PairsStandModel", "laysWhole", "()V"⟩, 27) := ⟨⟨by decide +kernel, by decide +kernel⟩, List.mem_of_getElem? (i := 774) (by decide +kernel), List.mem_of_getElem? (i := 1073) (by decide +kernel), List.mem_of_getElem? (i := 1074) (by decide +kernel)⟩
theorem lw_p42 : lw_okq (⟨"PairsStandModel", "times", "(JJ)J"⟩, 27) := ⟨⟨by decide +kernel, by decide +kernel⟩, List.mem_of_getElem? (i := 774) (by decide +kernel), List.mem_of_getElem? (i := 1077) (by decide +kernel), List.mem_of_getElem? (i := 1078) (by decide +kernel)⟩
theorem lw_p43 : lw_okq (⟨"PairsStandModel", "plus", "(JJ)J"⟩, 27) := ⟨⟨by decide +kernel, by decide +kernel⟩, List.mem_of_getElem? (i := 774) (by decide +kernel), List.mem_of_getElem? (i := 1082) (by decide +kernel), List.mem_of_getElem? (i := 1083) (by decide +kernel)⟩
theorem lw_p44 : lw_okq (⟨"PairsStandModel", "rootOf", "(I)J"⟩, 27) := ⟨⟨by decide +kernel, by decide +kernel⟩, List.mem_of_getElem? (i := 774) (by decide +kernel), List.mem_of_getElem? (i := 1086) (by decide +kernel), List.mem_of_getElem? (i := 1087) (by decide +kernel)⟩
theorem lw_p45 : lw_okq (⟨"PairsStandModel", "less", "(JJ)J"⟩, 27) := ⟨⟨by decide +kernel, by decide +kernel⟩, List.mem_of_getElem? (i := 774) (by decide +kernel), List.mem_of_getElem? (i := 1090) (by decide +kernel), List.mem_of_getElem? (i := 1091) (by decide +kernel)⟩
theorem lw_p46 : lw_okq (⟨"PairsStandModel", "draws", "()V"⟩, 27) := ⟨⟨by decide +kernel, by decide +kernel⟩, List.mem_of_getElem? (i := 774) (by decide +kernel), List.mem_of_getElem? (i := 1100) (by decide +kernel), List.mem_of_getElem? (i := 1101) (by decide +kernel)⟩
theorem lw_p47 : lw_okq (⟨"PairsStandModel", "areAxes", "(I)Z"⟩, 27) := ⟨⟨by decide +kernel, by decide +kernel⟩, List.mem_of_getElem? (i := 774) (by decide +kernel), List.mem_of_getElem? (i := 1113) (by decide +kernel), List.mem_of_getElem? (i := 1114) (by decide +kernel)⟩
def lw_privs_3 : List (MethodName × Nat) := [(⟨"PairsStandModel", "isSet", "(I)Z"⟩, 27), (⟨"PairsStandModel", "isStanding", "(I)Z"⟩, 27), (⟨"PairsStandModel", "mostOf", "()I"⟩, 27), (⟨"PairsStandModel", "weights", "(I)I"⟩, 27), (⟨"PairsStandModel", "bettered", "(I)I"⟩, 27), (⟨"PairsStandModel", "tells", "(I)I"⟩, 27), (⟨"PairsStandModel", "tableAt", "(II)I"⟩, 27), (⟨"PairsStandModel", "difference", "(III)I"⟩, 27), (⟨"PairsStandModel", "halfOf", "()I"⟩, 27), (⟨"PairsStandModel", "laysWhole", "()V"⟩, 27), (⟨"PairsStandModel", "times", "(JJ)J"⟩, 27), (⟨"PairsStandModel", "plus", "(JJ)J"⟩, 27), (⟨"PairsStandModel", "rootOf", "(I)J"⟩, 27), (⟨"PairsStandModel", "less", "(JJ)J"⟩, 27), (⟨"PairsStandModel", "draws", "()V"⟩, 27), (⟨"PairsStandModel", "areAxes", "(I)Z"⟩, 27)]
theorem lw_r3 : ∀ q ∈ lw_privs_3, lw_okq q := List.forall_mem_cons.mpr ⟨lw_p32, List.forall_mem_cons.mpr ⟨lw_p33, List.forall_mem_cons.mpr ⟨lw_p34, List.forall_mem_cons.mpr ⟨lw_p35, List.forall_mem_cons.mpr ⟨lw_p36, List.forall_mem_cons.mpr ⟨lw_p37, List.forall_mem_cons.mpr ⟨lw_p38, List.forall_mem_cons.mpr ⟨lw_p39, List.forall_mem_cons.mpr ⟨lw_p40, List.forall_mem_cons.mpr ⟨lw_p41, List.forall_mem_cons.mpr ⟨lw_p42, List.forall_mem_cons.mpr ⟨lw_p43, List.forall_mem_cons.mpr ⟨lw_p44, List.forall_mem_cons.mpr ⟨lw_p45, List.forall_mem_cons.mpr ⟨lw_p46, List.forall_mem_cons.mpr ⟨lw_p47, fun _ h => absurd h List.not_mem_nil⟩⟩⟩⟩⟩⟩⟩⟩⟩⟩⟩⟩⟩⟩⟩⟩
theorem lw_p48 : lw_okq (⟨"PairsStandModel", "classWorth", "(II)I"⟩, 27) := ⟨⟨by decide +kernel, by decide +kernel⟩, List.mem_of_getElem? (i := 774) (by decide +kernel), List.mem_of_getElem? (i := 1117) (by decide +kernel), List.mem_of_getElem? (i := 1118) (by decide +kernel)⟩
theorem lw_p49 : lw_okq (⟨"PairsStandModel", "findsRays", "()V"⟩, 27) := ⟨⟨by decide +kernel, by decide +kernel⟩, List.mem_of_getElem? (i := 774) (by decide +kernel), List.mem_of_getElem? (i := 1129) (by decide +kernel), List.mem_of_getElem? (i := 1130) (by decide +kernel)⟩
theorem lw_p50 : lw_okq (⟨"PairsStandModel", "rayBy", "(II)J"⟩, 27) := ⟨⟨by decide +kernel, by decide +kernel⟩, List.mem_of_getElem? (i := 774) (by decide +kernel), List.mem_of_getElem? (i := 1133) (by decide +kernel), List.mem_of_getElem? (i := 1134) (by decide +kernel)⟩
theorem lw_p51 : lw_okq (⟨"PairsStandModel", "isBroken", "(I)Z"⟩, 27) := ⟨⟨by decide +kernel, by decide +kernel⟩, List.mem_of_getElem? (i := 774) (by decide +kernel), List.mem_of_getElem? (i := 1157) (by decide +kernel), List.mem_of_getElem? (i := 1158) (by decide +kernel)⟩
theorem lw_p52 : lw_okq (⟨"PairsStandModel", "lacks", "(II)I"⟩, 27) := ⟨⟨by decide +kernel, by decide +kernel⟩, List.mem_of_getElem? (i := 774) (by decide +kernel), List.mem_of_getElem? (i := 1176) (by decide +kernel), List.mem_of_getElem? (i := 1177) (by decide +kernel)⟩
theorem lw_p53 : lw_okq (⟨"PairsStandModel", "wrong", "(II)I"⟩, 27) := ⟨⟨by decide +kernel, by decide +kernel⟩, List.mem_of_getElem? (i := 774) (by decide +kernel), List.mem_of_getElem? (i := 1199) (by decide +kernel), List.mem_of_getElem? (i := 1200) (by decide +kernel)⟩
theorem lw_p54 : lw_okq (⟨"PairsStandModel", "nameMany", "()I"⟩, 27) := ⟨⟨by decide +kernel, by decide +kernel⟩, List.mem_of_getElem? (i := 774) (by decide +kernel), List.mem_of_getElem? (i := 1224) (by decide +kernel), List.mem_of_getElem? (i := 1225) (by decide +kernel)⟩
theorem lw_p55 : lw_okq (⟨"PairsStandModel", "linkMany", "()I"⟩, 27) := ⟨⟨by decide +kernel, by decide +kernel⟩, List.mem_of_getElem? (i := 774) (by decide +kernel), List.mem_of_getElem? (i := 1228) (by decide +kernel), List.mem_of_getElem? (i := 1229) (by decide +kernel)⟩
def lw_privs_4 : List (MethodName × Nat) := [(⟨"PairsStandModel", "classWorth", "(II)I"⟩, 27), (⟨"PairsStandModel", "findsRays", "()V"⟩, 27), (⟨"PairsStandModel", "rayBy", "(II)J"⟩, 27), (⟨"PairsStandModel", "isBroken", "(I)Z"⟩, 27), (⟨"PairsStandModel", "lacks", "(II)I"⟩, 27), (⟨"PairsStandModel", "wrong", "(II)I"⟩, 27), (⟨"PairsStandModel", "nameMany", "()I"⟩, 27), (⟨"PairsStandModel", "linkMany", "()I"⟩, 27)]
theorem lw_r4 : ∀ q ∈ lw_privs_4, lw_okq q := List.forall_mem_cons.mpr ⟨lw_p48, List.forall_mem_cons.mpr ⟨lw_p49, List.forall_mem_cons.mpr ⟨lw_p50, List.forall_mem_cons.mpr ⟨lw_p51, List.forall_mem_cons.mpr ⟨lw_p52, List.forall_mem_cons.mpr ⟨lw_p53, List.forall_mem_cons.mpr ⟨lw_p54, List.forall_mem_cons.mpr ⟨lw_p55, fun _ h => absurd h List.not_mem_nil⟩⟩⟩⟩⟩⟩⟩⟩
def lw_privs : List (MethodName × Nat) := lw_privs_1 ++ (lw_privs_2 ++ (lw_privs_3 ++ (lw_privs_4)))
def lw_tbl : List Cond := k2_sels lw_privs ++ tables_1
theorem lw_privs_ok : ∀ q ∈ lw_privs, lw_okq q := by
  show ∀ q ∈ lw_privs_1 ++ (lw_privs_2 ++ (lw_privs_3 ++ (lw_privs_4))), lw_okq q
  exact List.forall_mem_append.mpr ⟨lw_r1, List.forall_mem_append.mpr ⟨lw_r2, List.forall_mem_append.mpr ⟨lw_r3, lw_r4⟩⟩⟩
-- ===== end of PART A; then your names; then what follows =====
end
section
/-! ===== BEGIN printed: names, fields, word lists, decode rows ===== -/
def RX0 : String := "PairsStand$Basis"
def TX0 : u_T := fun k => match k with
  | 0 => ("PairsStand$Basis", "size", "I", false)
  | 1 => ("PairsStand$Basis", "prime", "I", false)
  | 2 => ("PairsStand$Basis", "wide", "I", false)
  | 3 => ("PairsStand$Basis", "leftOut", "I", false)
  | 4 => ("PairsStand$Basis", "kept", "[I", true)
  | 5 => ("PairsStand$Basis", "begins", "[Z", true)
  | _ => ("PairsStand$Basis", "work", "[I", true)
def tyX0 : Nat → FieldType := fun k => match k with
  | 0 => .int
  | 1 => .int
  | 2 => .int
  | 3 => .int
  | 4 => .array .int
  | 5 => .array .boolean
  | _ => .array .int
abbrev wsX00 : List Cond := u_ws RX0 TX0 7
theorem nmX0 : ∀ a, a < 7 → ∀ b, b < 7 → a ≠ b → (TX0 a).2.1 ≠ (TX0 b).2.1 := by decide +kernel
theorem tyX0_ok : ∀ k, k < 7 → parseFieldDescriptor (TX0 k).2.2.1 = some (tyX0 k) := by decide +kernel
abbrev cX0_init : ByteArray := prog_2_method_1_code
def yX0_init : MethodName := ⟨RX0, "<init>", "()V"⟩
abbrev cX0_clear : ByteArray := prog_2_method_2_code
def yX0_clear : MethodName := ⟨RX0, "clear", "(III)V"⟩
abbrev cX0_add : ByteArray := prog_2_method_3_code
def yX0_add : MethodName := ⟨RX0, "add", "([II)V"⟩
abbrev cX0_keepWork : ByteArray := prog_2_method_4_code
def yX0_keepWork : MethodName := ⟨RX0, "keepWork", "(I)V"⟩
abbrev cX0_clearPlace : ByteArray := prog_2_method_5_code
def yX0_clearPlace : MethodName := ⟨RX0, "clearPlace", "(I)V"⟩
def RX1 : String := "PairsStand$Hand"
def TX1 : u_T := fun k => match k with
  | 0 => ("PairsStand$Hand", "sort", "I", false)
  | 1 => ("PairsStand$Hand", "kind", "I", false)
  | 2 => ("PairsStand$Hand", "weight", "I", false)
  | 3 => ("PairsStand$Hand", "size", "I", false)
  | _ => ("PairsStand$Hand", "ray", "[I", true)
def tyX1 : Nat → FieldType := fun k => match k with
  | 0 => .int
  | 1 => .int
  | 2 => .int
  | 3 => .int
  | _ => .array .int
abbrev wsX10 : List Cond := u_ws RX1 TX1 5
theorem nmX1 : ∀ a, a < 5 → ∀ b, b < 5 → a ≠ b → (TX1 a).2.1 ≠ (TX1 b).2.1 := by decide +kernel
theorem tyX1_ok : ∀ k, k < 5 → parseFieldDescriptor (TX1 k).2.2.1 = some (tyX1 k) := by decide +kernel
abbrev cX1_init : ByteArray := prog_3_method_1_code
def yX1_init : MethodName := ⟨RX1, "<init>", "()V"⟩
abbrev cX1_takePair : ByteArray := prog_3_method_2_code
def yX1_takePair : MethodName := ⟨RX1, "takePair", "(II)V"⟩
abbrev cX1_takeRay : ByteArray := prog_3_method_3_code
def yX1_takeRay : MethodName := ⟨RX1, "takeRay", "(JII)V"⟩
abbrev cX1_orderTo : ByteArray := prog_3_method_4_code
def yX1_orderTo : MethodName := ⟨RX1, "orderTo", "(LPairsStand$Hand;)I"⟩
def RX2 : String := "PairsStand$Kept"
def TX2 : u_T := fun k => match k with
  | 0 => ("PairsStand$Kept", "prime", "I", false)
  | 1 => ("PairsStand$Kept", "wide", "I", false)
  | 2 => ("PairsStand$Kept", "pairs", "I", false)
  | 3 => ("PairsStand$Kept", "kinds", "[I", true)
  | 4 => ("PairsStand$Kept", "weights", "[I", true)
  | 5 => ("PairsStand$Kept", "names", "[J", true)
  | 6 => ("PairsStand$Kept", "entries", "[I", true)
  | _ => ("PairsStand$Kept", "lines", "[I", true)
def tyX2 : Nat → FieldType := fun k => match k with
  | 0 => .int
  | 1 => .int
  | 2 => .int
  | 3 => .array .int
  | 4 => .array .int
  | 5 => .array .long
  | 6 => .array .int
  | _ => .array .int
abbrev wsX20 : List Cond := u_ws RX2 TX2 8
theorem nmX2 : ∀ a, a < 8 → ∀ b, b < 8 → a ≠ b → (TX2 a).2.1 ≠ (TX2 b).2.1 := by decide +kernel
theorem tyX2_ok : ∀ k, k < 8 → parseFieldDescriptor (TX2 k).2.2.1 = some (tyX2 k) := by decide +kernel
abbrev cX2_init : ByteArray := prog_4_method_1_code
def yX2_init : MethodName := ⟨RX2, "<init>", "()V"⟩
abbrev cX2_become : ByteArray := prog_4_method_2_code
def yX2_become : MethodName := ⟨RX2, "become", "(LPairsStand$Kept;)V"⟩
abbrev cX2_has : ByteArray := prog_4_method_3_code
def yX2_has : MethodName := ⟨RX2, "has", "(I)Z"⟩
abbrev cX2_hasAll : ByteArray := prog_4_method_4_code
def yX2_hasAll : MethodName := ⟨RX2, "hasAll", "(I)Z"⟩
abbrev cX2_append : ByteArray := prog_4_method_5_code
def yX2_append : MethodName := ⟨RX2, "append", "(II)I"⟩
abbrev cX2_rowNumber : ByteArray := prog_4_method_6_code
def yX2_rowNumber : MethodName := ⟨RX2, "rowNumber", "(III)I"⟩
abbrev cX2_inFirst : ByteArray := prog_4_method_7_code
def yX2_inFirst : MethodName := ⟨RX2, "inFirst", "(IIII)I"⟩
abbrev cX2_inSecond : ByteArray := prog_4_method_8_code
def yX2_inSecond : MethodName := ⟨RX2, "inSecond", "(III)I"⟩
abbrev cX2_weightOf : ByteArray := prog_4_method_9_code
def yX2_weightOf : MethodName := ⟨RX2, "weightOf", "(I)I"⟩
abbrev cX2_placeInQueue : ByteArray := prog_4_method_10_code
def yX2_placeInQueue : MethodName := ⟨RX2, "placeInQueue", "(I)I"⟩
abbrev cX2_isAhead : ByteArray := prog_4_method_11_code
def yX2_isAhead : MethodName := ⟨RX2, "isAhead", "(II)Z"⟩
abbrev cX2_ownerOf : ByteArray := prog_4_method_12_code
def yX2_ownerOf : MethodName := ⟨RX2, "ownerOf", "(J)I"⟩
abbrev cX2_namesBelow : ByteArray := prog_4_method_13_code
def yX2_namesBelow : MethodName := ⟨RX2, "namesBelow", "(J)I"⟩
abbrev cX2_namesInAll : ByteArray := prog_4_method_14_code
def yX2_namesInAll : MethodName := ⟨RX2, "namesInAll", "()I"⟩
abbrev cX2_linesAt : ByteArray := prog_4_method_15_code
def yX2_linesAt : MethodName := ⟨RX2, "linesAt", "(I)I"⟩
abbrev cX2_linesInAll : ByteArray := prog_4_method_16_code
def yX2_linesInAll : MethodName := ⟨RX2, "linesInAll", "()I"⟩
def RX3 : String := "PairsStand$Rays"
def TX3 : u_T := fun k => match k with
  | 0 => ("PairsStand$Rays", "size", "I", false)
  | _ => ("PairsStand$Rays", "codes", "[J", true)
def tyX3 : Nat → FieldType := fun k => match k with
  | 0 => .int
  | _ => .array .long
abbrev wsX30 : List Cond := u_ws RX3 TX3 2
theorem nmX3 : ∀ a, a < 2 → ∀ b, b < 2 → a ≠ b → (TX3 a).2.1 ≠ (TX3 b).2.1 := by decide +kernel
theorem tyX3_ok : ∀ k, k < 2 → parseFieldDescriptor (TX3 k).2.2.1 = some (tyX3 k) := by decide +kernel
abbrev cX3_init : ByteArray := prog_5_method_1_code
def yX3_init : MethodName := ⟨RX3, "<init>", "()V"⟩
abbrev cX3_fill : ByteArray := prog_5_method_2_code
def yX3_fill : MethodName := ⟨RX3, "fill", "(LPairsStand$Rows;)V"⟩
abbrev cX3_has : ByteArray := prog_5_method_3_code
def yX3_has : MethodName := ⟨RX3, "has", "(I)Z"⟩
abbrev cX3_codeOf : ByteArray := prog_5_method_4_code
def yX3_codeOf : MethodName := ⟨RX3, "codeOf", "(LPairsStand$Rows;I)J"⟩
abbrev cX3_raysBelow : ByteArray := prog_5_method_5_code
def yX3_raysBelow : MethodName := ⟨RX3, "raysBelow", "(J)I"⟩
abbrev cX3_insert : ByteArray := prog_5_method_6_code
def yX3_insert : MethodName := ⟨RX3, "insert", "(J)V"⟩
def RX4 : String := "PairsStand$Root"
def TX4 : u_T := fun k => match k with
  | 0 => ("PairsStand$Root", "wide", "I", false)
  | 1 => ("PairsStand$Root", "isMuch", "Z", false)
  | _ => ("PairsStand$Root", "numbers", "[J", true)
def tyX4 : Nat → FieldType := fun k => match k with
  | 0 => .int
  | 1 => .boolean
  | _ => .array .long
abbrev wsX40 : List Cond := u_ws RX4 TX4 3
theorem nmX4 : ∀ a, a < 3 → ∀ b, b < 3 → a ≠ b → (TX4 a).2.1 ≠ (TX4 b).2.1 := by decide +kernel
theorem tyX4_ok : ∀ k, k < 3 → parseFieldDescriptor (TX4 k).2.2.1 = some (tyX4 k) := by decide +kernel
abbrev cX4_init : ByteArray := prog_6_method_1_code
def yX4_init : MethodName := ⟨RX4, "<init>", "()V"⟩
abbrev cX4_made : ByteArray := prog_6_method_2_code
def yX4_made : MethodName := ⟨RX4, "made", "(LPairsStand$Rows;LPairsStand$Sheet;)J"⟩
abbrev cX4_wholeNumber : ByteArray := prog_6_method_3_code
def yX4_wholeNumber : MethodName := ⟨RX4, "wholeNumber", "(LPairsStand$Rows;LPairsStand$Sheet;II)J"⟩
abbrev cX4_ofPlaces : ByteArray := prog_6_method_4_code
def yX4_ofPlaces : MethodName := ⟨RX4, "ofPlaces", "(II)J"⟩
abbrev cX4_plus : ByteArray := prog_6_method_5_code
def yX4_plus : MethodName := ⟨RX4, "plus", "(JJ)J"⟩
abbrev cX4_minus : ByteArray := prog_6_method_6_code
def yX4_minus : MethodName := ⟨RX4, "minus", "(JJ)J"⟩
abbrev cX4_product : ByteArray := prog_6_method_7_code
def yX4_product : MethodName := ⟨RX4, "product", "(JJ)J"⟩
def RX5 : String := "PairsStand$Rows"
def TX5 : u_T := fun k => match k with
  | 0 => ("PairsStand$Rows", "prime", "I", false)
  | 1 => ("PairsStand$Rows", "wide", "I", false)
  | 2 => ("PairsStand$Rows", "pairs", "I", false)
  | 3 => ("PairsStand$Rows", "numbers", "[I", true)
  | _ => ("PairsStand$Rows", "basis", "LPairsStand$Basis;", true)
def tyX5 : Nat → FieldType := fun k => match k with
  | 0 => .int
  | 1 => .int
  | 2 => .int
  | 3 => .array .int
  | _ => .object "PairsStand$Basis"
abbrev wsX50 : List Cond := u_ws RX5 TX5 5
theorem nmX5 : ∀ a, a < 5 → ∀ b, b < 5 → a ≠ b → (TX5 a).2.1 ≠ (TX5 b).2.1 := by decide +kernel
theorem tyX5_ok : ∀ k, k < 5 → parseFieldDescriptor (TX5 k).2.2.1 = some (tyX5 k) := by decide +kernel
abbrev cX5_init : ByteArray := prog_7_method_1_code
def yX5_init : MethodName := ⟨RX5, "<init>", "()V"⟩
abbrev cX5_fill : ByteArray := prog_7_method_2_code
def yX5_fill : MethodName := ⟨RX5, "fill", "(LPairsStand$Kept;)V"⟩
abbrev cX5_rankOf : ByteArray := prog_7_method_3_code
def yX5_rankOf : MethodName := ⟨RX5, "rankOf", "(II)I"⟩
abbrev cX5_isStanding : ByteArray := prog_7_method_4_code
def yX5_isStanding : MethodName := ⟨RX5, "isStanding", "(I)Z"⟩
abbrev cX5_coverBy : ByteArray := prog_7_method_5_code
def yX5_coverBy : MethodName := ⟨RX5, "coverBy", "(I[I)I"⟩
abbrev cX5_difference : ByteArray := prog_7_method_6_code
def yX5_difference : MethodName := ⟨RX5, "difference", "(III)I"⟩
def RX6 : String := "PairsStand$Sheet"
def TX6 : u_T := fun k => match k with
  | 0 => ("PairsStand$Sheet", "sort", "I", false)
  | 1 => ("PairsStand$Sheet", "size", "I", false)
  | _ => ("PairsStand$Sheet", "cells", "[J", true)
def tyX6 : Nat → FieldType := fun k => match k with
  | 0 => .int
  | 1 => .int
  | _ => .array .long
abbrev wsX60 : List Cond := u_ws RX6 TX6 3
theorem nmX6 : ∀ a, a < 3 → ∀ b, b < 3 → a ≠ b → (TX6 a).2.1 ≠ (TX6 b).2.1 := by decide +kernel
theorem tyX6_ok : ∀ k, k < 3 → parseFieldDescriptor (TX6 k).2.2.1 = some (tyX6 k) := by decide +kernel
abbrev cX6_init : ByteArray := prog_8_method_1_code
def yX6_init : MethodName := ⟨RX6, "<init>", "()V"⟩
abbrev cX6_become : ByteArray := prog_8_method_2_code
def yX6_become : MethodName := ⟨RX6, "become", "(II)V"⟩
abbrev cX6_isMissing : ByteArray := prog_8_method_3_code
def yX6_isMissing : MethodName := ⟨RX6, "isMissing", "()Z"⟩
abbrev cX6_has : ByteArray := prog_8_method_4_code
def yX6_has : MethodName := ⟨RX6, "has", "(I)Z"⟩
abbrev cX6_numberFor : ByteArray := prog_8_method_5_code
def yX6_numberFor : MethodName := ⟨RX6, "numberFor", "(I)J"⟩
def RX7 : String := "PairsStand$Skew"
def TX7 : u_T := fun k => match k with
  | 0 => ("PairsStand$Skew", "line", "[I", true)
  | _ => ("PairsStand$Skew", "basis", "LPairsStand$Basis;", true)
def tyX7 : Nat → FieldType := fun k => match k with
  | 0 => .array .int
  | _ => .object "PairsStand$Basis"
abbrev wsX70 : List Cond := u_ws RX7 TX7 2
theorem nmX7 : ∀ a, a < 2 → ∀ b, b < 2 → a ≠ b → (TX7 a).2.1 ≠ (TX7 b).2.1 := by decide +kernel
theorem tyX7_ok : ∀ k, k < 2 → parseFieldDescriptor (TX7 k).2.2.1 = some (tyX7 k) := by decide +kernel
abbrev cX7_init : ByteArray := prog_9_method_1_code
def yX7_init : MethodName := ⟨RX7, "<init>", "()V"⟩
abbrev cX7_numberAt : ByteArray := prog_9_method_2_code
def yX7_numberAt : MethodName := ⟨RX7, "numberAt", "(LPairsStand$Rows;[III)I"⟩
abbrev cX7_halfRank : ByteArray := prog_9_method_3_code
def yX7_halfRank : MethodName := ⟨RX7, "halfRank", "(LPairsStand$Rows;[I)I"⟩
def RX8 : String := "PairsStand$Standing"
def TX8 : u_T := fun k => match k with
  | 0 => ("PairsStand$Standing", "sets", "I", false)
  | 1 => ("PairsStand$Standing", "pairs", "I", false)
  | _ => ("PairsStand$Standing", "stand", "[Z", true)
def tyX8 : Nat → FieldType := fun k => match k with
  | 0 => .int
  | 1 => .int
  | _ => .array .boolean
abbrev wsX80 : List Cond := u_ws RX8 TX8 3
theorem nmX8 : ∀ a, a < 3 → ∀ b, b < 3 → a ≠ b → (TX8 a).2.1 ≠ (TX8 b).2.1 := by decide +kernel
theorem tyX8_ok : ∀ k, k < 3 → parseFieldDescriptor (TX8 k).2.2.1 = some (tyX8 k) := by decide +kernel
abbrev cX8_init : ByteArray := prog_10_method_1_code
def yX8_init : MethodName := ⟨RX8, "<init>", "()V"⟩
abbrev cX8_fill : ByteArray := prog_10_method_2_code
def yX8_fill : MethodName := ⟨RX8, "fill", "(LPairsStand$Rows;)V"⟩
abbrev cX8_greatest : ByteArray := prog_10_method_3_code
def yX8_greatest : MethodName := ⟨RX8, "greatest", "()I"⟩
abbrev cX8_bettered : ByteArray := prog_10_method_4_code
def yX8_bettered : MethodName := ⟨RX8, "bettered", "(I)I"⟩
abbrev cX8_withOneMore : ByteArray := prog_10_method_5_code
def yX8_withOneMore : MethodName := ⟨RX8, "withOneMore", "(I)I"⟩
abbrev cX8_withTwoForOne : ByteArray := prog_10_method_6_code
def yX8_withTwoForOne : MethodName := ⟨RX8, "withTwoForOne", "(I)I"⟩
abbrev cX8_twoMore : ByteArray := prog_10_method_7_code
def yX8_twoMore : MethodName := ⟨RX8, "twoMore", "(II)I"⟩
def RX9 : String := "PairsStand"
def TX9 : u_T := fun k => match k with
  | 0 => ("PairsStand", "now", "LPairsStand$Kept;", true)
  | 1 => ("PairsStand", "kept", "LPairsStand$Kept;", true)
  | 2 => ("PairsStand", "imageKept", "Z", false)
  | 3 => ("PairsStand", "rows", "LPairsStand$Rows;", true)
  | 4 => ("PairsStand", "standing", "LPairsStand$Standing;", true)
  | 5 => ("PairsStand", "skew", "LPairsStand$Skew;", true)
  | 6 => ("PairsStand", "rootMaker", "LPairsStand$Root;", true)
  | 7 => ("PairsStand", "rayBook", "LPairsStand$Rays;", true)
  | 8 => ("PairsStand", "sheets", "[LPairsStand$Sheet;", true)
  | 9 => ("PairsStand", "hands", "[LPairsStand$Hand;", true)
  | 10 => ("PairsStand", "order", "[I", true)
  | 11 => ("PairsStand", "times", "[I", true)
  | _ => ("PairsStand", "classes", "[I", true)
def tyX9 : Nat → FieldType := fun k => match k with
  | 0 => .object "PairsStand$Kept"
  | 1 => .object "PairsStand$Kept"
  | 2 => .boolean
  | 3 => .object "PairsStand$Rows"
  | 4 => .object "PairsStand$Standing"
  | 5 => .object "PairsStand$Skew"
  | 6 => .object "PairsStand$Root"
  | 7 => .object "PairsStand$Rays"
  | 8 => .array (.object "PairsStand$Sheet")
  | 9 => .array (.object "PairsStand$Hand")
  | 10 => .array .int
  | 11 => .array .int
  | _ => .array .int
abbrev wsX90 : List Cond := u_ws RX9 TX9 13
theorem nmX9 : ∀ a, a < 13 → ∀ b, b < 13 → a ≠ b → (TX9 a).2.1 ≠ (TX9 b).2.1 := by decide +kernel
theorem tyX9_ok : ∀ k, k < 13 → parseFieldDescriptor (TX9 k).2.2.1 = some (tyX9 k) := by decide +kernel
abbrev cX9_init : ByteArray := prog_1_method_1_code
def yX9_init : MethodName := ⟨RX9, "<init>", "()V"⟩
abbrev cX9_field : ByteArray := prog_1_method_2_code
def yX9_field : MethodName := ⟨RX9, "field", "(II)I"⟩
abbrev cX9_divided : ByteArray := prog_1_method_3_code
def yX9_divided : MethodName := ⟨RX9, "divided", "(II)I"⟩
abbrev cX9_pair : ByteArray := prog_1_method_4_code
def yX9_pair : MethodName := ⟨RX9, "pair", "(II)I"⟩
abbrev cX9_entry : ByteArray := prog_1_method_5_code
def yX9_entry : MethodName := ⟨RX9, "entry", "(IIII)I"⟩
abbrev cX9_set : ByteArray := prog_1_method_6_code
def yX9_set : MethodName := ⟨RX9, "set", "(III)I"⟩
abbrev cX9_told : ByteArray := prog_1_method_7_code
def yX9_told : MethodName := ⟨RX9, "told", "(II)I"⟩
abbrev cX9_number : ByteArray := prog_1_method_8_code
def yX9_number : MethodName := ⟨RX9, "number", "(III)I"⟩
abbrev cX9_drop : ByteArray := prog_1_method_9_code
def yX9_drop : MethodName := ⟨RX9, "drop", "()I"⟩
abbrev cX9_name : ByteArray := prog_1_method_10_code
def yX9_name : MethodName := ⟨RX9, "name", "(IJ)I"⟩
abbrev cX9_named : ByteArray := prog_1_method_11_code
def yX9_named : MethodName := ⟨RX9, "named", "(J)I"⟩
abbrev cX9_unname : ByteArray := prog_1_method_12_code
def yX9_unname : MethodName := ⟨RX9, "unname", "(I)I"⟩
abbrev cX9_nameAt : ByteArray := prog_1_method_13_code
def yX9_nameAt : MethodName := ⟨RX9, "nameAt", "(I)J"⟩
abbrev cX9_rank : ByteArray := prog_1_method_14_code
def yX9_rank : MethodName := ⟨RX9, "rank", "(I)I"⟩
abbrev cX9_stands : ByteArray := prog_1_method_15_code
def yX9_stands : MethodName := ⟨RX9, "stands", "(I)I"⟩
abbrev cX9_most : ByteArray := prog_1_method_16_code
def yX9_most : MethodName := ⟨RX9, "most", "()I"⟩
abbrev cX9_best : ByteArray := prog_1_method_17_code
def yX9_best : MethodName := ⟨RX9, "best", "(I)I"⟩
abbrev cX9_heavy : ByteArray := prog_1_method_18_code
def yX9_heavy : MethodName := ⟨RX9, "heavy", "(I)I"⟩
abbrev cX9_queue : ByteArray := prog_1_method_19_code
def yX9_queue : MethodName := ⟨RX9, "queue", "(I)I"⟩
abbrev cX9_greedy : ByteArray := prog_1_method_20_code
def yX9_greedy : MethodName := ⟨RX9, "greedy", "(I)I"⟩
abbrev cX9_better : ByteArray := prog_1_method_21_code
def yX9_better : MethodName := ⟨RX9, "better", "(I)I"⟩
abbrev cX9_table : ByteArray := prog_1_method_22_code
def yX9_table : MethodName := ⟨RX9, "table", "(III)I"⟩
abbrev cX9_half : ByteArray := prog_1_method_23_code
def yX9_half : MethodName := ⟨RX9, "half", "(I)I"⟩
abbrev cX9_root : ByteArray := prog_1_method_24_code
def yX9_root : MethodName := ⟨RX9, "root", "(I)J"⟩
abbrev cX9_claim : ByteArray := prog_1_method_25_code
def yX9_claim : MethodName := ⟨RX9, "claim", "(II)I"⟩
abbrev cX9_sure : ByteArray := prog_1_method_26_code
def yX9_sure : MethodName := ⟨RX9, "sure", "(II)I"⟩
abbrev cX9_cover : ByteArray := prog_1_method_27_code
def yX9_cover : MethodName := ⟨RX9, "cover", "(II)I"⟩
abbrev cX9_cheap : ByteArray := prog_1_method_28_code
def yX9_cheap : MethodName := ⟨RX9, "cheap", "(II)I"⟩
abbrev cX9_rays : ByteArray := prog_1_method_29_code
def yX9_rays : MethodName := ⟨RX9, "rays", "()I"⟩
abbrev cX9_ray : ByteArray := prog_1_method_30_code
def yX9_ray : MethodName := ⟨RX9, "ray", "(I)J"⟩
abbrev cX9_rayOf : ByteArray := prog_1_method_31_code
def yX9_rayOf : MethodName := ⟨RX9, "rayOf", "(II)I"⟩
abbrev cX9_link : ByteArray := prog_1_method_32_code
def yX9_link : MethodName := ⟨RX9, "link", "(III)I"⟩
abbrev cX9_breaks : ByteArray := prog_1_method_33_code
def yX9_breaks : MethodName := ⟨RX9, "breaks", "(I)I"⟩
abbrev cX9_feedback : ByteArray := prog_1_method_34_code
def yX9_feedback : MethodName := ⟨RX9, "feedback", "(I)I"⟩
abbrev cX9_hold : ByteArray := prog_1_method_35_code
def yX9_hold : MethodName := ⟨RX9, "hold", "(III)I"⟩
abbrev cX9_asPair : ByteArray := prog_1_method_36_code
def yX9_asPair : MethodName := ⟨RX9, "asPair", "(II)I"⟩
abbrev cX9_asRay : ByteArray := prog_1_method_37_code
def yX9_asRay : MethodName := ⟨RX9, "asRay", "(II)I"⟩
abbrev cX9_compare : ByteArray := prog_1_method_38_code
def yX9_compare : MethodName := ⟨RX9, "compare", "(II)I"⟩
abbrev cX9_sheet : ByteArray := prog_1_method_39_code
def yX9_sheet : MethodName := ⟨RX9, "sheet", "(III)I"⟩
abbrev cX9_cell : ByteArray := prog_1_method_40_code
def yX9_cell : MethodName := ⟨RX9, "cell", "(IIJ)I"⟩
abbrev cX9_read : ByteArray := prog_1_method_41_code
def yX9_read : MethodName := ⟨RX9, "read", "(II)J"⟩
abbrev cX9_load : ByteArray := prog_1_method_42_code
def yX9_load : MethodName := ⟨RX9, "load", "(III)I"⟩
abbrev cX9_image : ByteArray := prog_1_method_43_code
def yX9_image : MethodName := ⟨RX9, "image", "()I"⟩
abbrev cX9_back : ByteArray := prog_1_method_44_code
def yX9_back : MethodName := ⟨RX9, "back", "()I"⟩
abbrev cX9_count : ByteArray := prog_1_method_45_code
def yX9_count : MethodName := ⟨RX9, "count", "(I)I"⟩
abbrev cX9_fillStanding : ByteArray := prog_1_method_46_code
def yX9_fillStanding : MethodName := ⟨RX9, "fillStanding", "()V"⟩
abbrev cX9_fillRays : ByteArray := prog_1_method_47_code
def yX9_fillRays : MethodName := ⟨RX9, "fillRays", "()V"⟩
abbrev cX9_fillOrder : ByteArray := prog_1_method_48_code
def yX9_fillOrder : MethodName := ⟨RX9, "fillOrder", "()V"⟩
abbrev cX9_fillTimes : ByteArray := prog_1_method_49_code
def yX9_fillTimes : MethodName := ⟨RX9, "fillTimes", "(LPairsStand$Sheet;)V"⟩
abbrev cX9_drawTimes : ByteArray := prog_1_method_50_code
def yX9_drawTimes : MethodName := ⟨RX9, "drawTimes", "(I)I"⟩
abbrev cX9_fillClasses : ByteArray := prog_1_method_51_code
def yX9_fillClasses : MethodName := ⟨RX9, "fillClasses", "(LPairsStand$Sheet;)V"⟩
abbrev cX9_isBroken : ByteArray := prog_1_method_52_code
def yX9_isBroken : MethodName := ⟨RX9, "isBroken", "(I)Z"⟩
abbrev cX9_isPrime : ByteArray := prog_1_method_53_code
def yX9_isPrime : MethodName := ⟨RX9, "isPrime", "(I)Z"⟩
abbrev cX9_isBit : ByteArray := prog_1_method_54_code
def yX9_isBit : MethodName := ⟨RX9, "isBit", "(I)Z"⟩
abbrev cX9_isKind : ByteArray := prog_1_method_55_code
def yX9_isKind : MethodName := ⟨RX9, "isKind", "(I)Z"⟩
abbrev cX9_isWeight : ByteArray := prog_1_method_56_code
def yX9_isWeight : MethodName := ⟨RX9, "isWeight", "(I)Z"⟩
abbrev cX9_isSheet : ByteArray := prog_1_method_57_code
def yX9_isSheet : MethodName := ⟨RX9, "isSheet", "(I)Z"⟩
abbrev cX9_isHand : ByteArray := prog_1_method_58_code
def yX9_isHand : MethodName := ⟨RX9, "isHand", "(I)Z"⟩
abbrev cX9_isPoint : ByteArray := prog_1_method_59_code
def yX9_isPoint : MethodName := ⟨RX9, "isPoint", "(I)Z"⟩
abbrev cX9_isInt : ByteArray := prog_1_method_60_code
def yX9_isInt : MethodName := ⟨RX9, "isInt", "(J)Z"⟩
abbrev cX9_isName : ByteArray := prog_1_method_61_code
def yX9_isName : MethodName := ⟨RX9, "isName", "(J)Z"⟩
abbrev cX9_isUnder : ByteArray := prog_1_method_62_code
def yX9_isUnder : MethodName := ⟨RX9, "isUnder", "(II)Z"⟩
abbrev cX9_restOf : ByteArray := prog_1_method_63_code
def yX9_restOf : MethodName := ⟨RX9, "restOf", "(JI)I"⟩
abbrev cX9_quotient : ByteArray := prog_1_method_64_code
def yX9_quotient : MethodName := ⟨RX9, "quotient", "(III)I"⟩
abbrev cX9_hasRing : ByteArray := prog_1_method_65_code
def yX9_hasRing : MethodName := ⟨RX9, "hasRing", "([II)Z"⟩
def RX10 : String := "PairsStandModel"
def TX10 : u_T := fun k => match k with
  | 0 => ("PairsStandModel", "q", "I", false)
  | 1 => ("PairsStandModel", "wide", "I", false)
  | 2 => ("PairsStandModel", "pairs", "I", false)
  | 3 => ("PairsStandModel", "kind", "[I", true)
  | 4 => ("PairsStandModel", "weight", "[I", true)
  | 5 => ("PairsStandModel", "name", "[J", true)
  | 6 => ("PairsStandModel", "entries", "[I", true)
  | 7 => ("PairsStandModel", "links", "[I", true)
  | 8 => ("PairsStandModel", "rows", "[I", true)
  | 9 => ("PairsStandModel", "rowMany", "I", false)
  | 10 => ("PairsStandModel", "by", "[J", true)
  | 11 => ("PairsStandModel", "isMuch", "Z", false)
  | 12 => ("PairsStandModel", "whole", "[J", true)
  | 13 => ("PairsStandModel", "z", "I", false)
  | 14 => ("PairsStandModel", "rayAt", "[J", true)
  | 15 => ("PairsStandModel", "rayMany", "I", false)
  | 16 => ("PairsStandModel", "handSort", "[I", true)
  | 17 => ("PairsStandModel", "handKind", "[I", true)
  | 18 => ("PairsStandModel", "handWeight", "[I", true)
  | 19 => ("PairsStandModel", "handLong", "[I", true)
  | 20 => ("PairsStandModel", "handNumber", "[I", true)
  | 21 => ("PairsStandModel", "sorts", "[I", true)
  | 22 => ("PairsStandModel", "sizes", "[I", true)
  | 23 => ("PairsStandModel", "cells", "[J", true)
  | 24 => ("PairsStandModel", "isKept", "Z", false)
  | 25 => ("PairsStandModel", "kept", "[I", true)
  | _ => ("PairsStandModel", "keptName", "[J", true)
def tyX10 : Nat → FieldType := fun k => match k with
  | 0 => .int
  | 1 => .int
  | 2 => .int
  | 3 => .array .int
  | 4 => .array .int
  | 5 => .array .long
  | 6 => .array .int
  | 7 => .array .int
  | 8 => .array .int
  | 9 => .int
  | 10 => .array .long
  | 11 => .boolean
  | 12 => .array .long
  | 13 => .int
  | 14 => .array .long
  | 15 => .int
  | 16 => .array .int
  | 17 => .array .int
  | 18 => .array .int
  | 19 => .array .int
  | 20 => .array .int
  | 21 => .array .int
  | 22 => .array .int
  | 23 => .array .long
  | 24 => .boolean
  | 25 => .array .int
  | _ => .array .long
abbrev wsX100 : List Cond := u_ws RX10 TX10 27
theorem nmX10 : ∀ a, a < 27 → ∀ b, b < 27 → a ≠ b → (TX10 a).2.1 ≠ (TX10 b).2.1 := by decide +kernel
theorem tyX10_ok : ∀ k, k < 27 → parseFieldDescriptor (TX10 k).2.2.1 = some (tyX10 k) := by decide +kernel
abbrev cX10_init : ByteArray := prog_12_method_1_code
def yX10_init : MethodName := ⟨RX10, "<init>", "()V"⟩
abbrev cX10_in : ByteArray := prog_12_method_2_code
def yX10_in : MethodName := ⟨RX10, "in", "(JJJ)Z"⟩
abbrev cX10_has : ByteArray := prog_12_method_3_code
def yX10_has : MethodName := ⟨RX10, "has", "(II)Z"⟩
abbrev cX10_many : ByteArray := prog_12_method_4_code
def yX10_many : MethodName := ⟨RX10, "many", "(I)I"⟩
abbrev cX10_isPair : ByteArray := prog_12_method_5_code
def yX10_isPair : MethodName := ⟨RX10, "isPair", "(I)Z"⟩
abbrev cX10_isSet : ByteArray := prog_12_method_6_code
def yX10_isSet : MethodName := ⟨RX10, "isSet", "(I)Z"⟩
abbrev cX10_rest : ByteArray := prog_12_method_7_code
def yX10_rest : MethodName := ⟨RX10, "rest", "(J)I"⟩
abbrev cX10_over : ByteArray := prog_12_method_8_code
def yX10_over : MethodName := ⟨RX10, "over", "(II)I"⟩
abbrev cX10_isPrime : ByteArray := prog_12_method_9_code
def yX10_isPrime : MethodName := ⟨RX10, "isPrime", "(I)Z"⟩
abbrev cX10_field : ByteArray := prog_12_method_10_code
def yX10_field : MethodName := ⟨RX10, "field", "(II)I"⟩
abbrev cX10_divided : ByteArray := prog_12_method_11_code
def yX10_divided : MethodName := ⟨RX10, "divided", "(II)I"⟩
abbrev cX10_pair : ByteArray := prog_12_method_12_code
def yX10_pair : MethodName := ⟨RX10, "pair", "(II)I"⟩
abbrev cX10_entry : ByteArray := prog_12_method_13_code
def yX10_entry : MethodName := ⟨RX10, "entry", "(IIII)I"⟩
abbrev cX10_set : ByteArray := prog_12_method_14_code
def yX10_set : MethodName := ⟨RX10, "set", "(III)I"⟩
abbrev cX10_ahead : ByteArray := prog_12_method_15_code
def yX10_ahead : MethodName := ⟨RX10, "ahead", "(I)I"⟩
abbrev cX10_namePlace : ByteArray := prog_12_method_16_code
def yX10_namePlace : MethodName := ⟨RX10, "namePlace", "(I)I"⟩
abbrev cX10_told : ByteArray := prog_12_method_17_code
def yX10_told : MethodName := ⟨RX10, "told", "(II)I"⟩
abbrev cX10_numberOf : ByteArray := prog_12_method_18_code
def yX10_numberOf : MethodName := ⟨RX10, "numberOf", "(III)I"⟩
abbrev cX10_number : ByteArray := prog_12_method_19_code
def yX10_number : MethodName := ⟨RX10, "number", "(III)I"⟩
abbrev cX10_drop : ByteArray := prog_12_method_20_code
def yX10_drop : MethodName := ⟨RX10, "drop", "()I"⟩
abbrev cX10_isName : ByteArray := prog_12_method_21_code
def yX10_isName : MethodName := ⟨RX10, "isName", "(J)Z"⟩
abbrev cX10_whoIs : ByteArray := prog_12_method_22_code
def yX10_whoIs : MethodName := ⟨RX10, "whoIs", "(J)I"⟩
abbrev cX10_name : ByteArray := prog_12_method_23_code
def yX10_name : MethodName := ⟨RX10, "name", "(IJ)I"⟩
abbrev cX10_named : ByteArray := prog_12_method_24_code
def yX10_named : MethodName := ⟨RX10, "named", "(J)I"⟩
abbrev cX10_unname : ByteArray := prog_12_method_25_code
def yX10_unname : MethodName := ⟨RX10, "unname", "(I)I"⟩
abbrev cX10_nameAt : ByteArray := prog_12_method_26_code
def yX10_nameAt : MethodName := ⟨RX10, "nameAt", "(I)J"⟩
abbrev cX10_laysRow : ByteArray := prog_12_method_27_code
def yX10_laysRow : MethodName := ⟨RX10, "laysRow", "(II)V"⟩
abbrev cX10_laysAxis : ByteArray := prog_12_method_28_code
def yX10_laysAxis : MethodName := ⟨RX10, "laysAxis", "(I)V"⟩
abbrev cX10_adds : ByteArray := prog_12_method_29_code
def yX10_adds : MethodName := ⟨RX10, "adds", "(III)V"⟩
abbrev cX10_changes : ByteArray := prog_12_method_30_code
def yX10_changes : MethodName := ⟨RX10, "changes", "(II)V"⟩
abbrev cX10_ranks : ByteArray := prog_12_method_31_code
def yX10_ranks : MethodName := ⟨RX10, "ranks", "()I"⟩
abbrev cX10_rankOf : ByteArray := prog_12_method_32_code
def yX10_rankOf : MethodName := ⟨RX10, "rankOf", "(II)I"⟩
abbrev cX10_isStanding : ByteArray := prog_12_method_33_code
def yX10_isStanding : MethodName := ⟨RX10, "isStanding", "(I)Z"⟩
abbrev cX10_rank : ByteArray := prog_12_method_34_code
def yX10_rank : MethodName := ⟨RX10, "rank", "(I)I"⟩
abbrev cX10_stands : ByteArray := prog_12_method_35_code
def yX10_stands : MethodName := ⟨RX10, "stands", "(I)I"⟩
abbrev cX10_mostOf : ByteArray := prog_12_method_36_code
def yX10_mostOf : MethodName := ⟨RX10, "mostOf", "()I"⟩
abbrev cX10_most : ByteArray := prog_12_method_37_code
def yX10_most : MethodName := ⟨RX10, "most", "()I"⟩
abbrev cX10_best : ByteArray := prog_12_method_38_code
def yX10_best : MethodName := ⟨RX10, "best", "(I)I"⟩
abbrev cX10_weights : ByteArray := prog_12_method_39_code
def yX10_weights : MethodName := ⟨RX10, "weights", "(I)I"⟩
abbrev cX10_heavy : ByteArray := prog_12_method_40_code
def yX10_heavy : MethodName := ⟨RX10, "heavy", "(I)I"⟩
abbrev cX10_queue : ByteArray := prog_12_method_41_code
def yX10_queue : MethodName := ⟨RX10, "queue", "(I)I"⟩
abbrev cX10_greedy : ByteArray := prog_12_method_42_code
def yX10_greedy : MethodName := ⟨RX10, "greedy", "(I)I"⟩
abbrev cX10_bettered : ByteArray := prog_12_method_43_code
def yX10_bettered : MethodName := ⟨RX10, "bettered", "(I)I"⟩
abbrev cX10_better : ByteArray := prog_12_method_44_code
def yX10_better : MethodName := ⟨RX10, "better", "(I)I"⟩
abbrev cX10_tells : ByteArray := prog_12_method_45_code
def yX10_tells : MethodName := ⟨RX10, "tells", "(I)I"⟩
abbrev cX10_difference : ByteArray := prog_12_method_46_code
def yX10_difference : MethodName := ⟨RX10, "difference", "(III)I"⟩
abbrev cX10_tableAt : ByteArray := prog_12_method_47_code
def yX10_tableAt : MethodName := ⟨RX10, "tableAt", "(II)I"⟩
abbrev cX10_table : ByteArray := prog_12_method_48_code
def yX10_table : MethodName := ⟨RX10, "table", "(III)I"⟩
abbrev cX10_halfOf : ByteArray := prog_12_method_49_code
def yX10_halfOf : MethodName := ⟨RX10, "halfOf", "()I"⟩
abbrev cX10_half : ByteArray := prog_12_method_50_code
def yX10_half : MethodName := ⟨RX10, "half", "(I)I"⟩
abbrev cX10_times : ByteArray := prog_12_method_51_code
def yX10_times : MethodName := ⟨RX10, "times", "(JJ)J"⟩
abbrev cX10_plus : ByteArray := prog_12_method_52_code
def yX10_plus : MethodName := ⟨RX10, "plus", "(JJ)J"⟩
abbrev cX10_less : ByteArray := prog_12_method_53_code
def yX10_less : MethodName := ⟨RX10, "less", "(JJ)J"⟩
abbrev cX10_laysWhole : ByteArray := prog_12_method_54_code
def yX10_laysWhole : MethodName := ⟨RX10, "laysWhole", "()V"⟩
abbrev cX10_rootOf : ByteArray := prog_12_method_55_code
def yX10_rootOf : MethodName := ⟨RX10, "rootOf", "(I)J"⟩
abbrev cX10_root : ByteArray := prog_12_method_56_code
def yX10_root : MethodName := ⟨RX10, "root", "(I)J"⟩
abbrev cX10_draws : ByteArray := prog_12_method_57_code
def yX10_draws : MethodName := ⟨RX10, "draws", "()V"⟩
abbrev cX10_claim : ByteArray := prog_12_method_58_code
def yX10_claim : MethodName := ⟨RX10, "claim", "(II)I"⟩
abbrev cX10_sure : ByteArray := prog_12_method_59_code
def yX10_sure : MethodName := ⟨RX10, "sure", "(II)I"⟩
abbrev cX10_classWorth : ByteArray := prog_12_method_60_code
def yX10_classWorth : MethodName := ⟨RX10, "classWorth", "(II)I"⟩
abbrev cX10_areAxes : ByteArray := prog_12_method_61_code
def yX10_areAxes : MethodName := ⟨RX10, "areAxes", "(I)Z"⟩
abbrev cX10_cover : ByteArray := prog_12_method_62_code
def yX10_cover : MethodName := ⟨RX10, "cover", "(II)I"⟩
abbrev cX10_cheap : ByteArray := prog_12_method_63_code
def yX10_cheap : MethodName := ⟨RX10, "cheap", "(II)I"⟩
abbrev cX10_rayBy : ByteArray := prog_12_method_64_code
def yX10_rayBy : MethodName := ⟨RX10, "rayBy", "(II)J"⟩
abbrev cX10_findsRays : ByteArray := prog_12_method_65_code
def yX10_findsRays : MethodName := ⟨RX10, "findsRays", "()V"⟩
abbrev cX10_rays : ByteArray := prog_12_method_66_code
def yX10_rays : MethodName := ⟨RX10, "rays", "()I"⟩
abbrev cX10_ray : ByteArray := prog_12_method_67_code
def yX10_ray : MethodName := ⟨RX10, "ray", "(I)J"⟩
abbrev cX10_rayOf : ByteArray := prog_12_method_68_code
def yX10_rayOf : MethodName := ⟨RX10, "rayOf", "(II)I"⟩
abbrev cX10_isPoint : ByteArray := prog_12_method_69_code
def yX10_isPoint : MethodName := ⟨RX10, "isPoint", "(I)Z"⟩
abbrev cX10_link : ByteArray := prog_12_method_70_code
def yX10_link : MethodName := ⟨RX10, "link", "(III)I"⟩
abbrev cX10_isBroken : ByteArray := prog_12_method_71_code
def yX10_isBroken : MethodName := ⟨RX10, "isBroken", "(I)Z"⟩
abbrev cX10_breaks : ByteArray := prog_12_method_72_code
def yX10_breaks : MethodName := ⟨RX10, "breaks", "(I)I"⟩
abbrev cX10_feedback : ByteArray := prog_12_method_73_code
def yX10_feedback : MethodName := ⟨RX10, "feedback", "(I)I"⟩
abbrev cX10_isHand : ByteArray := prog_12_method_74_code
def yX10_isHand : MethodName := ⟨RX10, "isHand", "(I)Z"⟩
abbrev cX10_hold : ByteArray := prog_12_method_75_code
def yX10_hold : MethodName := ⟨RX10, "hold", "(III)I"⟩
abbrev cX10_lacks : ByteArray := prog_12_method_76_code
def yX10_lacks : MethodName := ⟨RX10, "lacks", "(II)I"⟩
abbrev cX10_isUnder : ByteArray := prog_12_method_77_code
def yX10_isUnder : MethodName := ⟨RX10, "isUnder", "(II)Z"⟩
abbrev cX10_asPair : ByteArray := prog_12_method_78_code
def yX10_asPair : MethodName := ⟨RX10, "asPair", "(II)I"⟩
abbrev cX10_asRay : ByteArray := prog_12_method_79_code
def yX10_asRay : MethodName := ⟨RX10, "asRay", "(II)I"⟩
abbrev cX10_compare : ByteArray := prog_12_method_80_code
def yX10_compare : MethodName := ⟨RX10, "compare", "(II)I"⟩
abbrev cX10_isSheet : ByteArray := prog_12_method_81_code
def yX10_isSheet : MethodName := ⟨RX10, "isSheet", "(I)Z"⟩
abbrev cX10_sheet : ByteArray := prog_12_method_82_code
def yX10_sheet : MethodName := ⟨RX10, "sheet", "(III)I"⟩
abbrev cX10_wrong : ByteArray := prog_12_method_83_code
def yX10_wrong : MethodName := ⟨RX10, "wrong", "(II)I"⟩
abbrev cX10_cell : ByteArray := prog_12_method_84_code
def yX10_cell : MethodName := ⟨RX10, "cell", "(IIJ)I"⟩
abbrev cX10_read : ByteArray := prog_12_method_85_code
def yX10_read : MethodName := ⟨RX10, "read", "(II)J"⟩
abbrev cX10_load : ByteArray := prog_12_method_86_code
def yX10_load : MethodName := ⟨RX10, "load", "(III)I"⟩
abbrev cX10_image : ByteArray := prog_12_method_87_code
def yX10_image : MethodName := ⟨RX10, "image", "()I"⟩
abbrev cX10_back : ByteArray := prog_12_method_88_code
def yX10_back : MethodName := ⟨RX10, "back", "()I"⟩
abbrev cX10_nameMany : ByteArray := prog_12_method_89_code
def yX10_nameMany : MethodName := ⟨RX10, "nameMany", "()I"⟩
abbrev cX10_linkMany : ByteArray := prog_12_method_90_code
def yX10_linkMany : MethodName := ⟨RX10, "linkMany", "()I"⟩
abbrev cX10_count : ByteArray := prog_12_method_91_code
def yX10_count : MethodName := ⟨RX10, "count", "(I)I"⟩
def RJ6 : String := "java/lang/Integer"
def TJ6 : u_T := fun k => match k with
  | _ => ("", "", "", false)
def tyJ6 : Nat → FieldType := fun k => match k with
  | _ => .int
abbrev wsJ60 : List Cond := u_ws RJ6 TJ6 0
theorem nmJ6 : ∀ a, a < 0 → ∀ b, b < 0 → a ≠ b → (TJ6 a).2.1 ≠ (TJ6 b).2.1 := by decide +kernel
theorem tyJ6_ok : ∀ k, k < 0 → parseFieldDescriptor (TJ6 k).2.2.1 = some (tyJ6 k) := by decide +kernel
abbrev cJ6_compare_7cf53 : ByteArray := prog_13_method_40_code
def yJ6_compare_7cf53 : MethodName := ⟨RJ6, "compare", "(II)I"⟩
abbrev cJ6_bitCount_0f7a4 : ByteArray := prog_13_method_49_code
def yJ6_bitCount_0f7a4 : MethodName := ⟨RJ6, "bitCount", "(I)I"⟩
def RJ9 : String := "java/lang/Math"
def TJ9 : u_T := fun k => match k with
  | _ => ("", "", "", false)
def tyJ9 : Nat → FieldType := fun k => match k with
  | _ => .int
abbrev wsJ90 : List Cond := u_ws RJ9 TJ9 0
theorem nmJ9 : ∀ a, a < 0 → ∀ b, b < 0 → a ≠ b → (TJ9 a).2.1 ≠ (TJ9 b).2.1 := by decide +kernel
theorem tyJ9_ok : ∀ k, k < 0 → parseFieldDescriptor (TJ9 k).2.2.1 = some (tyJ9 k) := by decide +kernel
abbrev cJ9_max_7cf53 : ByteArray := prog_14_method_65_code
def yJ9_max_7cf53 : MethodName := ⟨RJ9, "max", "(II)I"⟩
abbrev cJ9_min_7cf53 : ByteArray := prog_14_method_69_code
def yJ9_min_7cf53 : MethodName := ⟨RJ9, "min", "(II)I"⟩
def RJ10 : String := "java/lang/System"
def TJ10 : u_T := fun k => match k with
  | _ => ("", "", "", false)
def tyJ10 : Nat → FieldType := fun k => match k with
  | _ => .int
abbrev wsJ100 : List Cond := u_ws RJ10 TJ10 0
theorem nmJ10 : ∀ a, a < 0 → ∀ b, b < 0 → a ≠ b → (TJ10 a).2.1 ≠ (TJ10 b).2.1 := by decide +kernel
theorem tyJ10_ok : ∀ k, k < 0 → parseFieldDescriptor (TJ10 k).2.2.1 = some (tyJ10 k) := by decide +kernel
def RL : String := "PairsStandLaw"
abbrev cL_law : ByteArray := code
def yL_law : MethodName := ⟨RL, "law", "([I)Z"⟩
end
section
theorem dX0_init_0 : decode cX0_init 0 = .ok (.aload_n 0, 1) := by decide +kernel
theorem dX0_init_1 : decode cX0_init 1 = .ok (.invokespecial 3, 3) := by decide +kernel
theorem dX0_init_4 : decode cX0_init 4 = .ok (.aload_n 0, 1) := by decide +kernel
theorem dX0_init_5 : decode cX0_init 5 = .ok (.iconst 0, 1) := by decide +kernel
theorem dX0_init_6 : decode cX0_init 6 = .ok (.putfield 9, 3) := by decide +kernel
theorem dX0_init_9 : decode cX0_init 9 = .ok (.aload_n 0, 1) := by decide +kernel
theorem dX0_init_10 : decode cX0_init 10 = .ok (.bipush 7, 2) := by decide +kernel
theorem dX0_init_12 : decode cX0_init 12 = .ok (.putfield 15, 3) := by decide +kernel
theorem dX0_init_15 : decode cX0_init 15 = .ok (.aload_n 0, 1) := by decide +kernel
theorem dX0_init_16 : decode cX0_init 16 = .ok (.iconst 4, 1) := by decide +kernel
theorem dX0_init_17 : decode cX0_init 17 = .ok (.putfield 18, 3) := by decide +kernel
theorem dX0_init_20 : decode cX0_init 20 = .ok (.aload_n 0, 1) := by decide +kernel
theorem dX0_init_21 : decode cX0_init 21 = .ok (.iconst 0, 1) := by decide +kernel
theorem dX0_init_22 : decode cX0_init 22 = .ok (.putfield 21, 3) := by decide +kernel
theorem dX0_init_25 : decode cX0_init 25 = .ok (.aload_n 0, 1) := by decide +kernel
theorem dX0_init_26 : decode cX0_init 26 = .ok (.bipush 36, 2) := by decide +kernel
theorem dX0_init_28 : decode cX0_init 28 = .ok (.newarray .int, 2) := by decide +kernel
theorem dX0_init_30 : decode cX0_init 30 = .ok (.putfield 24, 3) := by decide +kernel
theorem dX0_init_33 : decode cX0_init 33 = .ok (.aload_n 0, 1) := by decide +kernel
theorem dX0_init_34 : decode cX0_init 34 = .ok (.bipush 6, 2) := by decide +kernel
theorem dX0_init_36 : decode cX0_init 36 = .ok (.newarray .boolean, 2) := by decide +kernel
theorem dX0_init_38 : decode cX0_init 38 = .ok (.putfield 28, 3) := by decide +kernel
theorem dX0_init_41 : decode cX0_init 41 = .ok (.aload_n 0, 1) := by decide +kernel
theorem dX0_init_42 : decode cX0_init 42 = .ok (.bipush 6, 2) := by decide +kernel
theorem dX0_init_44 : decode cX0_init 44 = .ok (.newarray .int, 2) := by decide +kernel
theorem dX0_init_46 : decode cX0_init 46 = .ok (.putfield 32, 3) := by decide +kernel
theorem dX0_init_49 : decode cX0_init 49 = .ok (.return_, 1) := by decide +kernel
theorem dX0_clear_0 : decode cX0_clear 0 = .ok (.aload_n 0, 1) := by decide +kernel
theorem dX0_clear_1 : decode cX0_clear 1 = .ok (.iload_n 1, 1) := by decide +kernel
theorem dX0_clear_2 : decode cX0_clear 2 = .ok (.putfield 15, 3) := by decide +kernel
theorem dX0_clear_5 : decode cX0_clear 5 = .ok (.aload_n 0, 1) := by decide +kernel
theorem dX0_clear_6 : decode cX0_clear 6 = .ok (.iload_n 2, 1) := by decide +kernel
theorem dX0_clear_7 : decode cX0_clear 7 = .ok (.putfield 18, 3) := by decide +kernel
theorem dX0_clear_10 : decode cX0_clear 10 = .ok (.aload_n 0, 1) := by decide +kernel
theorem dX0_clear_11 : decode cX0_clear 11 = .ok (.iload_n 3, 1) := by decide +kernel
theorem dX0_clear_12 : decode cX0_clear 12 = .ok (.putfield 21, 3) := by decide +kernel
theorem dX0_clear_15 : decode cX0_clear 15 = .ok (.aload_n 0, 1) := by decide +kernel
theorem dX0_clear_16 : decode cX0_clear 16 = .ok (.iconst 0, 1) := by decide +kernel
theorem dX0_clear_17 : decode cX0_clear 17 = .ok (.putfield 9, 3) := by decide +kernel
theorem dX0_clear_20 : decode cX0_clear 20 = .ok (.iconst 0, 1) := by decide +kernel
theorem dX0_clear_21 : decode cX0_clear 21 = .ok (.istore 4, 2) := by decide +kernel
theorem dX0_clear_23 : decode cX0_clear 23 = .ok (.iload 4, 2) := by decide +kernel
theorem dX0_clear_25 : decode cX0_clear 25 = .ok (.bipush 6, 2) := by decide +kernel
theorem dX0_clear_27 : decode cX0_clear 27 = .ok (.if_icmp .ge 17, 3) := by decide +kernel
theorem dX0_clear_30 : decode cX0_clear 30 = .ok (.aload_n 0, 1) := by decide +kernel
theorem dX0_clear_31 : decode cX0_clear 31 = .ok (.getfield 28, 3) := by decide +kernel
theorem dX0_clear_34 : decode cX0_clear 34 = .ok (.iload 4, 2) := by decide +kernel
theorem dX0_clear_36 : decode cX0_clear 36 = .ok (.iconst 0, 1) := by decide +kernel
theorem dX0_clear_37 : decode cX0_clear 37 = .ok (.bastore, 1) := by decide +kernel
theorem dX0_clear_38 : decode cX0_clear 38 = .ok (.iinc 4 1, 3) := by decide +kernel
theorem dX0_clear_41 : decode cX0_clear 41 = .ok (.goto (-18), 3) := by decide +kernel
theorem dX0_clear_44 : decode cX0_clear 44 = .ok (.return_, 1) := by decide +kernel
theorem dX0_add_0 : decode cX0_add 0 = .ok (.iconst 0, 1) := by decide +kernel
theorem dX0_add_1 : decode cX0_add 1 = .ok (.istore_n 3, 1) := by decide +kernel
theorem dX0_add_2 : decode cX0_add 2 = .ok (.iload_n 3, 1) := by decide +kernel
theorem dX0_add_3 : decode cX0_add 3 = .ok (.aload_n 0, 1) := by decide +kernel
theorem dX0_add_4 : decode cX0_add 4 = .ok (.getfield 18, 3) := by decide +kernel
theorem dX0_add_7 : decode cX0_add 7 = .ok (.if_icmp .ge 36, 3) := by decide +kernel
theorem dX0_add_10 : decode cX0_add 10 = .ok (.aload_n 0, 1) := by decide +kernel
theorem dX0_add_11 : decode cX0_add 11 = .ok (.getfield 32, 3) := by decide +kernel
theorem dX0_add_14 : decode cX0_add 14 = .ok (.iload_n 3, 1) := by decide +kernel
theorem dX0_add_15 : decode cX0_add 15 = .ok (.aload_n 0, 1) := by decide +kernel
theorem dX0_add_16 : decode cX0_add 16 = .ok (.getfield 21, 3) := by decide +kernel
theorem dX0_add_19 : decode cX0_add 19 = .ok (.iload_n 3, 1) := by decide +kernel
theorem dX0_add_20 : decode cX0_add 20 = .ok (.ishr, 1) := by decide +kernel
theorem dX0_add_21 : decode cX0_add 21 = .ok (.iconst 1, 1) := by decide +kernel
theorem dX0_add_22 : decode cX0_add 22 = .ok (.iand, 1) := by decide +kernel
theorem dX0_add_23 : decode cX0_add 23 = .ok (.iconst 1, 1) := by decide +kernel
theorem dX0_add_24 : decode cX0_add 24 = .ok (.if_icmp .ne 7, 3) := by decide +kernel
theorem dX0_add_27 : decode cX0_add 27 = .ok (.iconst 0, 1) := by decide +kernel
theorem dX0_add_28 : decode cX0_add 28 = .ok (.goto 8, 3) := by decide +kernel
theorem dX0_add_31 : decode cX0_add 31 = .ok (.aload_n 1, 1) := by decide +kernel
theorem dX0_add_32 : decode cX0_add 32 = .ok (.iload_n 2, 1) := by decide +kernel
theorem dX0_add_33 : decode cX0_add 33 = .ok (.iload_n 3, 1) := by decide +kernel
theorem dX0_add_34 : decode cX0_add 34 = .ok (.iadd, 1) := by decide +kernel
theorem dX0_add_35 : decode cX0_add 35 = .ok (.iaload, 1) := by decide +kernel
theorem dX0_add_36 : decode cX0_add 36 = .ok (.iastore, 1) := by decide +kernel
theorem dX0_add_37 : decode cX0_add 37 = .ok (.iinc 3 1, 3) := by decide +kernel
theorem dX0_add_40 : decode cX0_add 40 = .ok (.goto (-38), 3) := by decide +kernel
theorem dX0_add_43 : decode cX0_add 43 = .ok (.iconst 0, 1) := by decide +kernel
theorem dX0_add_44 : decode cX0_add 44 = .ok (.istore_n 3, 1) := by decide +kernel
theorem dX0_add_45 : decode cX0_add 45 = .ok (.iload_n 3, 1) := by decide +kernel
theorem dX0_add_46 : decode cX0_add 46 = .ok (.aload_n 0, 1) := by decide +kernel
theorem dX0_add_47 : decode cX0_add 47 = .ok (.getfield 18, 3) := by decide +kernel
theorem dX0_add_50 : decode cX0_add 50 = .ok (.if_icmp .ge 38, 3) := by decide +kernel
theorem dX0_add_53 : decode cX0_add 53 = .ok (.aload_n 0, 1) := by decide +kernel
theorem dX0_add_54 : decode cX0_add 54 = .ok (.getfield 32, 3) := by decide +kernel
theorem dX0_add_57 : decode cX0_add 57 = .ok (.iload_n 3, 1) := by decide +kernel
theorem dX0_add_58 : decode cX0_add 58 = .ok (.iaload, 1) := by decide +kernel
theorem dX0_add_59 : decode cX0_add 59 = .ok (.ifCond .eq 23, 3) := by decide +kernel
theorem dX0_add_62 : decode cX0_add 62 = .ok (.aload_n 0, 1) := by decide +kernel
theorem dX0_add_63 : decode cX0_add 63 = .ok (.getfield 28, 3) := by decide +kernel
theorem dX0_add_66 : decode cX0_add 66 = .ok (.iload_n 3, 1) := by decide +kernel
theorem dX0_add_67 : decode cX0_add 67 = .ok (.baload, 1) := by decide +kernel
theorem dX0_add_68 : decode cX0_add 68 = .ok (.ifCond .ne 9, 3) := by decide +kernel
theorem dX0_add_71 : decode cX0_add 71 = .ok (.aload_n 0, 1) := by decide +kernel
theorem dX0_add_72 : decode cX0_add 72 = .ok (.iload_n 3, 1) := by decide +kernel
theorem dX0_add_73 : decode cX0_add 73 = .ok (.invokevirtual 35, 3) := by decide +kernel
theorem dX0_add_76 : decode cX0_add 76 = .ok (.return_, 1) := by decide +kernel
theorem dX0_add_77 : decode cX0_add 77 = .ok (.aload_n 0, 1) := by decide +kernel
theorem dX0_add_78 : decode cX0_add 78 = .ok (.iload_n 3, 1) := by decide +kernel
theorem dX0_add_79 : decode cX0_add 79 = .ok (.invokevirtual 39, 3) := by decide +kernel
theorem dX0_add_82 : decode cX0_add 82 = .ok (.iinc 3 1, 3) := by decide +kernel
theorem dX0_add_85 : decode cX0_add 85 = .ok (.goto (-40), 3) := by decide +kernel
theorem dX0_add_88 : decode cX0_add 88 = .ok (.return_, 1) := by decide +kernel
theorem dX0_keepWork_0 : decode cX0_keepWork 0 = .ok (.aload_n 0, 1) := by decide +kernel
theorem dX0_keepWork_1 : decode cX0_keepWork 1 = .ok (.getfield 28, 3) := by decide +kernel
theorem dX0_keepWork_4 : decode cX0_keepWork 4 = .ok (.iload_n 1, 1) := by decide +kernel
theorem dX0_keepWork_5 : decode cX0_keepWork 5 = .ok (.iconst 1, 1) := by decide +kernel
theorem dX0_keepWork_6 : decode cX0_keepWork 6 = .ok (.bastore, 1) := by decide +kernel
theorem dX0_keepWork_7 : decode cX0_keepWork 7 = .ok (.aload_n 0, 1) := by decide +kernel
theorem dX0_keepWork_8 : decode cX0_keepWork 8 = .ok (.dup, 1) := by decide +kernel
theorem dX0_keepWork_9 : decode cX0_keepWork 9 = .ok (.getfield 9, 3) := by decide +kernel
theorem dX0_keepWork_12 : decode cX0_keepWork 12 = .ok (.iconst 1, 1) := by decide +kernel
theorem dX0_keepWork_13 : decode cX0_keepWork 13 = .ok (.iadd, 1) := by decide +kernel
theorem dX0_keepWork_14 : decode cX0_keepWork 14 = .ok (.putfield 9, 3) := by decide +kernel
theorem dX0_keepWork_17 : decode cX0_keepWork 17 = .ok (.iconst 0, 1) := by decide +kernel
theorem dX0_keepWork_18 : decode cX0_keepWork 18 = .ok (.istore_n 2, 1) := by decide +kernel
theorem dX0_keepWork_19 : decode cX0_keepWork 19 = .ok (.iload_n 2, 1) := by decide +kernel
theorem dX0_keepWork_20 : decode cX0_keepWork 20 = .ok (.aload_n 0, 1) := by decide +kernel
theorem dX0_keepWork_21 : decode cX0_keepWork 21 = .ok (.getfield 18, 3) := by decide +kernel
theorem dX0_keepWork_24 : decode cX0_keepWork 24 = .ok (.if_icmp .ge 26, 3) := by decide +kernel
theorem dX0_keepWork_27 : decode cX0_keepWork 27 = .ok (.aload_n 0, 1) := by decide +kernel
theorem dX0_keepWork_28 : decode cX0_keepWork 28 = .ok (.getfield 24, 3) := by decide +kernel
theorem dX0_keepWork_31 : decode cX0_keepWork 31 = .ok (.iload_n 1, 1) := by decide +kernel
theorem dX0_keepWork_32 : decode cX0_keepWork 32 = .ok (.bipush 6, 2) := by decide +kernel
theorem dX0_keepWork_34 : decode cX0_keepWork 34 = .ok (.imul, 1) := by decide +kernel
theorem dX0_keepWork_35 : decode cX0_keepWork 35 = .ok (.iload_n 2, 1) := by decide +kernel
theorem dX0_keepWork_36 : decode cX0_keepWork 36 = .ok (.iadd, 1) := by decide +kernel
theorem dX0_keepWork_37 : decode cX0_keepWork 37 = .ok (.aload_n 0, 1) := by decide +kernel
theorem dX0_keepWork_38 : decode cX0_keepWork 38 = .ok (.getfield 32, 3) := by decide +kernel
theorem dX0_keepWork_41 : decode cX0_keepWork 41 = .ok (.iload_n 2, 1) := by decide +kernel
theorem dX0_keepWork_42 : decode cX0_keepWork 42 = .ok (.iaload, 1) := by decide +kernel
theorem dX0_keepWork_43 : decode cX0_keepWork 43 = .ok (.iastore, 1) := by decide +kernel
theorem dX0_keepWork_44 : decode cX0_keepWork 44 = .ok (.iinc 2 1, 3) := by decide +kernel
theorem dX0_keepWork_47 : decode cX0_keepWork 47 = .ok (.goto (-28), 3) := by decide +kernel
theorem dX0_keepWork_50 : decode cX0_keepWork 50 = .ok (.return_, 1) := by decide +kernel
theorem dX0_clearPlace_0 : decode cX0_clearPlace 0 = .ok (.aload_n 0, 1) := by decide +kernel
theorem dX0_clearPlace_1 : decode cX0_clearPlace 1 = .ok (.getfield 15, 3) := by decide +kernel
theorem dX0_clearPlace_4 : decode cX0_clearPlace 4 = .ok (.aload_n 0, 1) := by decide +kernel
theorem dX0_clearPlace_5 : decode cX0_clearPlace 5 = .ok (.getfield 32, 3) := by decide +kernel
theorem dX0_clearPlace_8 : decode cX0_clearPlace 8 = .ok (.iload_n 1, 1) := by decide +kernel
theorem dX0_clearPlace_9 : decode cX0_clearPlace 9 = .ok (.iaload, 1) := by decide +kernel
theorem dX0_clearPlace_10 : decode cX0_clearPlace 10 = .ok (.isub, 1) := by decide +kernel
theorem dX0_clearPlace_11 : decode cX0_clearPlace 11 = .ok (.istore_n 2, 1) := by decide +kernel
theorem dX0_clearPlace_12 : decode cX0_clearPlace 12 = .ok (.aload_n 0, 1) := by decide +kernel
theorem dX0_clearPlace_13 : decode cX0_clearPlace 13 = .ok (.getfield 24, 3) := by decide +kernel
theorem dX0_clearPlace_16 : decode cX0_clearPlace 16 = .ok (.iload_n 1, 1) := by decide +kernel
theorem dX0_clearPlace_17 : decode cX0_clearPlace 17 = .ok (.bipush 6, 2) := by decide +kernel
theorem dX0_clearPlace_19 : decode cX0_clearPlace 19 = .ok (.imul, 1) := by decide +kernel
theorem dX0_clearPlace_20 : decode cX0_clearPlace 20 = .ok (.iload_n 1, 1) := by decide +kernel
theorem dX0_clearPlace_21 : decode cX0_clearPlace 21 = .ok (.iadd, 1) := by decide +kernel
theorem dX0_clearPlace_22 : decode cX0_clearPlace 22 = .ok (.iaload, 1) := by decide +kernel
theorem dX0_clearPlace_23 : decode cX0_clearPlace 23 = .ok (.istore_n 3, 1) := by decide +kernel
theorem dX0_clearPlace_24 : decode cX0_clearPlace 24 = .ok (.iload_n 1, 1) := by decide +kernel
theorem dX0_clearPlace_25 : decode cX0_clearPlace 25 = .ok (.istore 4, 2) := by decide +kernel
theorem dX0_clearPlace_27 : decode cX0_clearPlace 27 = .ok (.iload 4, 2) := by decide +kernel
theorem dX0_clearPlace_29 : decode cX0_clearPlace 29 = .ok (.aload_n 0, 1) := by decide +kernel
theorem dX0_clearPlace_30 : decode cX0_clearPlace 30 = .ok (.getfield 18, 3) := by decide +kernel
theorem dX0_clearPlace_33 : decode cX0_clearPlace 33 = .ok (.if_icmp .ge 45, 3) := by decide +kernel
theorem dX0_clearPlace_36 : decode cX0_clearPlace 36 = .ok (.aload_n 0, 1) := by decide +kernel
theorem dX0_clearPlace_37 : decode cX0_clearPlace 37 = .ok (.getfield 32, 3) := by decide +kernel
theorem dX0_clearPlace_40 : decode cX0_clearPlace 40 = .ok (.iload 4, 2) := by decide +kernel
theorem dX0_clearPlace_42 : decode cX0_clearPlace 42 = .ok (.aload_n 0, 1) := by decide +kernel
theorem dX0_clearPlace_43 : decode cX0_clearPlace 43 = .ok (.getfield 32, 3) := by decide +kernel
theorem dX0_clearPlace_46 : decode cX0_clearPlace 46 = .ok (.iload 4, 2) := by decide +kernel
theorem dX0_clearPlace_48 : decode cX0_clearPlace 48 = .ok (.iaload, 1) := by decide +kernel
theorem dX0_clearPlace_49 : decode cX0_clearPlace 49 = .ok (.iload_n 3, 1) := by decide +kernel
theorem dX0_clearPlace_50 : decode cX0_clearPlace 50 = .ok (.imul, 1) := by decide +kernel
theorem dX0_clearPlace_51 : decode cX0_clearPlace 51 = .ok (.iload_n 2, 1) := by decide +kernel
theorem dX0_clearPlace_52 : decode cX0_clearPlace 52 = .ok (.aload_n 0, 1) := by decide +kernel
theorem dX0_clearPlace_53 : decode cX0_clearPlace 53 = .ok (.getfield 24, 3) := by decide +kernel
theorem dX0_clearPlace_56 : decode cX0_clearPlace 56 = .ok (.iload_n 1, 1) := by decide +kernel
theorem dX0_clearPlace_57 : decode cX0_clearPlace 57 = .ok (.bipush 6, 2) := by decide +kernel
theorem dX0_clearPlace_59 : decode cX0_clearPlace 59 = .ok (.imul, 1) := by decide +kernel
theorem dX0_clearPlace_60 : decode cX0_clearPlace 60 = .ok (.iload 4, 2) := by decide +kernel
theorem dX0_clearPlace_62 : decode cX0_clearPlace 62 = .ok (.iadd, 1) := by decide +kernel
theorem dX0_clearPlace_63 : decode cX0_clearPlace 63 = .ok (.iaload, 1) := by decide +kernel
theorem dX0_clearPlace_64 : decode cX0_clearPlace 64 = .ok (.imul, 1) := by decide +kernel
theorem dX0_clearPlace_65 : decode cX0_clearPlace 65 = .ok (.iadd, 1) := by decide +kernel
theorem dX0_clearPlace_66 : decode cX0_clearPlace 66 = .ok (.aload_n 0, 1) := by decide +kernel
theorem dX0_clearPlace_67 : decode cX0_clearPlace 67 = .ok (.getfield 15, 3) := by decide +kernel
theorem dX0_clearPlace_70 : decode cX0_clearPlace 70 = .ok (.irem, 1) := by decide +kernel
theorem dX0_clearPlace_71 : decode cX0_clearPlace 71 = .ok (.iastore, 1) := by decide +kernel
theorem dX0_clearPlace_72 : decode cX0_clearPlace 72 = .ok (.iinc 4 1, 3) := by decide +kernel
theorem dX0_clearPlace_75 : decode cX0_clearPlace 75 = .ok (.goto (-48), 3) := by decide +kernel
theorem dX0_clearPlace_78 : decode cX0_clearPlace 78 = .ok (.return_, 1) := by decide +kernel
theorem dX1_init_0 : decode cX1_init 0 = .ok (.aload_n 0, 1) := by decide +kernel
theorem dX1_init_1 : decode cX1_init 1 = .ok (.invokespecial 3, 3) := by decide +kernel
theorem dX1_init_4 : decode cX1_init 4 = .ok (.aload_n 0, 1) := by decide +kernel
theorem dX1_init_5 : decode cX1_init 5 = .ok (.iconst 0, 1) := by decide +kernel
theorem dX1_init_6 : decode cX1_init 6 = .ok (.putfield 9, 3) := by decide +kernel
theorem dX1_init_9 : decode cX1_init 9 = .ok (.aload_n 0, 1) := by decide +kernel
theorem dX1_init_10 : decode cX1_init 10 = .ok (.iconst 0, 1) := by decide +kernel
theorem dX1_init_11 : decode cX1_init 11 = .ok (.putfield 15, 3) := by decide +kernel
theorem dX1_init_14 : decode cX1_init 14 = .ok (.aload_n 0, 1) := by decide +kernel
theorem dX1_init_15 : decode cX1_init 15 = .ok (.iconst 0, 1) := by decide +kernel
theorem dX1_init_16 : decode cX1_init 16 = .ok (.putfield 18, 3) := by decide +kernel
theorem dX1_init_19 : decode cX1_init 19 = .ok (.aload_n 0, 1) := by decide +kernel
theorem dX1_init_20 : decode cX1_init 20 = .ok (.iconst 0, 1) := by decide +kernel
theorem dX1_init_21 : decode cX1_init 21 = .ok (.putfield 21, 3) := by decide +kernel
theorem dX1_init_24 : decode cX1_init 24 = .ok (.aload_n 0, 1) := by decide +kernel
theorem dX1_init_25 : decode cX1_init 25 = .ok (.bipush 6, 2) := by decide +kernel
theorem dX1_init_27 : decode cX1_init 27 = .ok (.newarray .int, 2) := by decide +kernel
theorem dX1_init_29 : decode cX1_init 29 = .ok (.putfield 24, 3) := by decide +kernel
theorem dX1_init_32 : decode cX1_init 32 = .ok (.return_, 1) := by decide +kernel
theorem dX1_takePair_0 : decode cX1_takePair 0 = .ok (.aload_n 0, 1) := by decide +kernel
theorem dX1_takePair_1 : decode cX1_takePair 1 = .ok (.iconst 1, 1) := by decide +kernel
theorem dX1_takePair_2 : decode cX1_takePair 2 = .ok (.putfield 9, 3) := by decide +kernel
theorem dX1_takePair_5 : decode cX1_takePair 5 = .ok (.aload_n 0, 1) := by decide +kernel
theorem dX1_takePair_6 : decode cX1_takePair 6 = .ok (.iload_n 1, 1) := by decide +kernel
theorem dX1_takePair_7 : decode cX1_takePair 7 = .ok (.putfield 15, 3) := by decide +kernel
theorem dX1_takePair_10 : decode cX1_takePair 10 = .ok (.aload_n 0, 1) := by decide +kernel
theorem dX1_takePair_11 : decode cX1_takePair 11 = .ok (.iload_n 2, 1) := by decide +kernel
theorem dX1_takePair_12 : decode cX1_takePair 12 = .ok (.putfield 18, 3) := by decide +kernel
theorem dX1_takePair_15 : decode cX1_takePair 15 = .ok (.return_, 1) := by decide +kernel
theorem dX1_takeRay_0 : decode cX1_takeRay 0 = .ok (.aload_n 0, 1) := by decide +kernel
theorem dX1_takeRay_1 : decode cX1_takeRay 1 = .ok (.iconst 2, 1) := by decide +kernel
theorem dX1_takeRay_2 : decode cX1_takeRay 2 = .ok (.putfield 9, 3) := by decide +kernel
theorem dX1_takeRay_5 : decode cX1_takeRay 5 = .ok (.aload_n 0, 1) := by decide +kernel
theorem dX1_takeRay_6 : decode cX1_takeRay 6 = .ok (.iload 4, 2) := by decide +kernel
theorem dX1_takeRay_8 : decode cX1_takeRay 8 = .ok (.putfield 21, 3) := by decide +kernel
theorem dX1_takeRay_11 : decode cX1_takeRay 11 = .ok (.lload_n 1, 1) := by decide +kernel
theorem dX1_takeRay_12 : decode cX1_takeRay 12 = .ok (.lstore 5, 2) := by decide +kernel
theorem dX1_takeRay_14 : decode cX1_takeRay 14 = .ok (.iload 4, 2) := by decide +kernel
theorem dX1_takeRay_16 : decode cX1_takeRay 16 = .ok (.iconst 1, 1) := by decide +kernel
theorem dX1_takeRay_17 : decode cX1_takeRay 17 = .ok (.isub, 1) := by decide +kernel
theorem dX1_takeRay_18 : decode cX1_takeRay 18 = .ok (.istore 7, 2) := by decide +kernel
theorem dX1_takeRay_20 : decode cX1_takeRay 20 = .ok (.iload 7, 2) := by decide +kernel
theorem dX1_takeRay_22 : decode cX1_takeRay 22 = .ok (.ifCond .lt 29, 3) := by decide +kernel
theorem dX1_takeRay_25 : decode cX1_takeRay 25 = .ok (.aload_n 0, 1) := by decide +kernel
theorem dX1_takeRay_26 : decode cX1_takeRay 26 = .ok (.getfield 24, 3) := by decide +kernel
theorem dX1_takeRay_29 : decode cX1_takeRay 29 = .ok (.iload 7, 2) := by decide +kernel
theorem dX1_takeRay_31 : decode cX1_takeRay 31 = .ok (.lload 5, 2) := by decide +kernel
theorem dX1_takeRay_33 : decode cX1_takeRay 33 = .ok (.iload_n 3, 1) := by decide +kernel
theorem dX1_takeRay_34 : decode cX1_takeRay 34 = .ok (.i2l, 1) := by decide +kernel
theorem dX1_takeRay_35 : decode cX1_takeRay 35 = .ok (.lrem, 1) := by decide +kernel
theorem dX1_takeRay_36 : decode cX1_takeRay 36 = .ok (.l2i, 1) := by decide +kernel
theorem dX1_takeRay_37 : decode cX1_takeRay 37 = .ok (.iastore, 1) := by decide +kernel
theorem dX1_takeRay_38 : decode cX1_takeRay 38 = .ok (.lload 5, 2) := by decide +kernel
theorem dX1_takeRay_40 : decode cX1_takeRay 40 = .ok (.iload_n 3, 1) := by decide +kernel
theorem dX1_takeRay_41 : decode cX1_takeRay 41 = .ok (.i2l, 1) := by decide +kernel
theorem dX1_takeRay_42 : decode cX1_takeRay 42 = .ok (.ldiv, 1) := by decide +kernel
theorem dX1_takeRay_43 : decode cX1_takeRay 43 = .ok (.lstore 5, 2) := by decide +kernel
theorem dX1_takeRay_45 : decode cX1_takeRay 45 = .ok (.iinc 7 (-1), 3) := by decide +kernel
theorem dX1_takeRay_48 : decode cX1_takeRay 48 = .ok (.goto (-28), 3) := by decide +kernel
theorem dX1_takeRay_51 : decode cX1_takeRay 51 = .ok (.return_, 1) := by decide +kernel
theorem dX1_orderTo_0 : decode cX1_orderTo 0 = .ok (.aload_n 0, 1) := by decide +kernel
theorem dX1_orderTo_1 : decode cX1_orderTo 1 = .ok (.getfield 21, 3) := by decide +kernel
theorem dX1_orderTo_4 : decode cX1_orderTo 4 = .ok (.aload_n 1, 1) := by decide +kernel
theorem dX1_orderTo_5 : decode cX1_orderTo 5 = .ok (.getfield 21, 3) := by decide +kernel
theorem dX1_orderTo_8 : decode cX1_orderTo 8 = .ok (.invokestatic 28, 3) := by decide +kernel
theorem dX1_orderTo_11 : decode cX1_orderTo 11 = .ok (.istore_n 2, 1) := by decide +kernel
theorem dX1_orderTo_12 : decode cX1_orderTo 12 = .ok (.iconst 0, 1) := by decide +kernel
theorem dX1_orderTo_13 : decode cX1_orderTo 13 = .ok (.istore_n 3, 1) := by decide +kernel
theorem dX1_orderTo_14 : decode cX1_orderTo 14 = .ok (.iload_n 3, 1) := by decide +kernel
theorem dX1_orderTo_15 : decode cX1_orderTo 15 = .ok (.iload_n 2, 1) := by decide +kernel
theorem dX1_orderTo_16 : decode cX1_orderTo 16 = .ok (.if_icmp .ge 45, 3) := by decide +kernel
theorem dX1_orderTo_19 : decode cX1_orderTo 19 = .ok (.aload_n 0, 1) := by decide +kernel
theorem dX1_orderTo_20 : decode cX1_orderTo 20 = .ok (.getfield 24, 3) := by decide +kernel
theorem dX1_orderTo_23 : decode cX1_orderTo 23 = .ok (.iload_n 3, 1) := by decide +kernel
theorem dX1_orderTo_24 : decode cX1_orderTo 24 = .ok (.iaload, 1) := by decide +kernel
theorem dX1_orderTo_25 : decode cX1_orderTo 25 = .ok (.aload_n 1, 1) := by decide +kernel
theorem dX1_orderTo_26 : decode cX1_orderTo 26 = .ok (.getfield 24, 3) := by decide +kernel
theorem dX1_orderTo_29 : decode cX1_orderTo 29 = .ok (.iload_n 3, 1) := by decide +kernel
theorem dX1_orderTo_30 : decode cX1_orderTo 30 = .ok (.iaload, 1) := by decide +kernel
theorem dX1_orderTo_31 : decode cX1_orderTo 31 = .ok (.if_icmp .eq 24, 3) := by decide +kernel
theorem dX1_orderTo_34 : decode cX1_orderTo 34 = .ok (.aload_n 0, 1) := by decide +kernel
theorem dX1_orderTo_35 : decode cX1_orderTo 35 = .ok (.getfield 24, 3) := by decide +kernel
theorem dX1_orderTo_38 : decode cX1_orderTo 38 = .ok (.iload_n 3, 1) := by decide +kernel
theorem dX1_orderTo_39 : decode cX1_orderTo 39 = .ok (.iaload, 1) := by decide +kernel
theorem dX1_orderTo_40 : decode cX1_orderTo 40 = .ok (.aload_n 1, 1) := by decide +kernel
theorem dX1_orderTo_41 : decode cX1_orderTo 41 = .ok (.getfield 24, 3) := by decide +kernel
theorem dX1_orderTo_44 : decode cX1_orderTo 44 = .ok (.iload_n 3, 1) := by decide +kernel
theorem dX1_orderTo_45 : decode cX1_orderTo 45 = .ok (.iaload, 1) := by decide +kernel
theorem dX1_orderTo_46 : decode cX1_orderTo 46 = .ok (.if_icmp .ge 7, 3) := by decide +kernel
theorem dX1_orderTo_49 : decode cX1_orderTo 49 = .ok (.iconst (-1), 1) := by decide +kernel
theorem dX1_orderTo_50 : decode cX1_orderTo 50 = .ok (.goto 4, 3) := by decide +kernel
theorem dX1_orderTo_53 : decode cX1_orderTo 53 = .ok (.iconst 1, 1) := by decide +kernel
theorem dX1_orderTo_54 : decode cX1_orderTo 54 = .ok (.ireturn, 1) := by decide +kernel
theorem dX1_orderTo_55 : decode cX1_orderTo 55 = .ok (.iinc 3 1, 3) := by decide +kernel
theorem dX1_orderTo_58 : decode cX1_orderTo 58 = .ok (.goto (-44), 3) := by decide +kernel
theorem dX1_orderTo_61 : decode cX1_orderTo 61 = .ok (.aload_n 0, 1) := by decide +kernel
theorem dX1_orderTo_62 : decode cX1_orderTo 62 = .ok (.getfield 21, 3) := by decide +kernel
theorem dX1_orderTo_65 : decode cX1_orderTo 65 = .ok (.aload_n 1, 1) := by decide +kernel
theorem dX1_orderTo_66 : decode cX1_orderTo 66 = .ok (.getfield 21, 3) := by decide +kernel
theorem dX1_orderTo_69 : decode cX1_orderTo 69 = .ok (.invokestatic 34, 3) := by decide +kernel
theorem dX1_orderTo_72 : decode cX1_orderTo 72 = .ok (.ireturn, 1) := by decide +kernel
theorem dX2_init_0 : decode cX2_init 0 = .ok (.aload_n 0, 1) := by decide +kernel
theorem dX2_init_1 : decode cX2_init 1 = .ok (.invokespecial 3, 3) := by decide +kernel
theorem dX2_init_4 : decode cX2_init 4 = .ok (.aload_n 0, 1) := by decide +kernel
theorem dX2_init_5 : decode cX2_init 5 = .ok (.bipush 7, 2) := by decide +kernel
theorem dX2_init_7 : decode cX2_init 7 = .ok (.putfield 9, 3) := by decide +kernel
theorem dX2_init_10 : decode cX2_init 10 = .ok (.aload_n 0, 1) := by decide +kernel
theorem dX2_init_11 : decode cX2_init 11 = .ok (.iconst 4, 1) := by decide +kernel
theorem dX2_init_12 : decode cX2_init 12 = .ok (.putfield 15, 3) := by decide +kernel
theorem dX2_init_15 : decode cX2_init 15 = .ok (.aload_n 0, 1) := by decide +kernel
theorem dX2_init_16 : decode cX2_init 16 = .ok (.iconst 0, 1) := by decide +kernel
theorem dX2_init_17 : decode cX2_init 17 = .ok (.putfield 18, 3) := by decide +kernel
theorem dX2_init_20 : decode cX2_init 20 = .ok (.aload_n 0, 1) := by decide +kernel
theorem dX2_init_21 : decode cX2_init 21 = .ok (.bipush 10, 2) := by decide +kernel
theorem dX2_init_23 : decode cX2_init 23 = .ok (.newarray .int, 2) := by decide +kernel
theorem dX2_init_25 : decode cX2_init 25 = .ok (.putfield 21, 3) := by decide +kernel
theorem dX2_init_28 : decode cX2_init 28 = .ok (.aload_n 0, 1) := by decide +kernel
theorem dX2_init_29 : decode cX2_init 29 = .ok (.bipush 10, 2) := by decide +kernel
theorem dX2_init_31 : decode cX2_init 31 = .ok (.newarray .int, 2) := by decide +kernel
theorem dX2_init_33 : decode cX2_init 33 = .ok (.putfield 25, 3) := by decide +kernel
theorem dX2_init_36 : decode cX2_init 36 = .ok (.aload_n 0, 1) := by decide +kernel
theorem dX2_init_37 : decode cX2_init 37 = .ok (.bipush 10, 2) := by decide +kernel
theorem dX2_init_39 : decode cX2_init 39 = .ok (.newarray .long, 2) := by decide +kernel
theorem dX2_init_41 : decode cX2_init 41 = .ok (.putfield 28, 3) := by decide +kernel
theorem dX2_init_44 : decode cX2_init 44 = .ok (.aload_n 0, 1) := by decide +kernel
theorem dX2_init_45 : decode cX2_init 45 = .ok (.bipush 120, 2) := by decide +kernel
theorem dX2_init_47 : decode cX2_init 47 = .ok (.newarray .int, 2) := by decide +kernel
theorem dX2_init_49 : decode cX2_init 49 = .ok (.putfield 32, 3) := by decide +kernel
theorem dX2_init_52 : decode cX2_init 52 = .ok (.aload_n 0, 1) := by decide +kernel
theorem dX2_init_53 : decode cX2_init 53 = .ok (.bipush 8, 2) := by decide +kernel
theorem dX2_init_55 : decode cX2_init 55 = .ok (.newarray .int, 2) := by decide +kernel
theorem dX2_init_57 : decode cX2_init 57 = .ok (.putfield 35, 3) := by decide +kernel
theorem dX2_init_60 : decode cX2_init 60 = .ok (.return_, 1) := by decide +kernel
theorem dX2_become_0 : decode cX2_become 0 = .ok (.aload_n 0, 1) := by decide +kernel
theorem dX2_become_1 : decode cX2_become 1 = .ok (.aload_n 1, 1) := by decide +kernel
theorem dX2_become_2 : decode cX2_become 2 = .ok (.getfield 9, 3) := by decide +kernel
theorem dX2_become_5 : decode cX2_become 5 = .ok (.putfield 9, 3) := by decide +kernel
theorem dX2_become_8 : decode cX2_become 8 = .ok (.aload_n 0, 1) := by decide +kernel
theorem dX2_become_9 : decode cX2_become 9 = .ok (.aload_n 1, 1) := by decide +kernel
theorem dX2_become_10 : decode cX2_become 10 = .ok (.getfield 15, 3) := by decide +kernel
theorem dX2_become_13 : decode cX2_become 13 = .ok (.putfield 15, 3) := by decide +kernel
theorem dX2_become_16 : decode cX2_become 16 = .ok (.aload_n 0, 1) := by decide +kernel
theorem dX2_become_17 : decode cX2_become 17 = .ok (.aload_n 1, 1) := by decide +kernel
theorem dX2_become_18 : decode cX2_become 18 = .ok (.getfield 18, 3) := by decide +kernel
theorem dX2_become_21 : decode cX2_become 21 = .ok (.putfield 18, 3) := by decide +kernel
theorem dX2_become_24 : decode cX2_become 24 = .ok (.aload_n 1, 1) := by decide +kernel
theorem dX2_become_25 : decode cX2_become 25 = .ok (.getfield 21, 3) := by decide +kernel
theorem dX2_become_28 : decode cX2_become 28 = .ok (.iconst 0, 1) := by decide +kernel
theorem dX2_become_29 : decode cX2_become 29 = .ok (.aload_n 0, 1) := by decide +kernel
theorem dX2_become_30 : decode cX2_become 30 = .ok (.getfield 21, 3) := by decide +kernel
theorem dX2_become_33 : decode cX2_become 33 = .ok (.iconst 0, 1) := by decide +kernel
theorem dX2_become_34 : decode cX2_become 34 = .ok (.bipush 10, 2) := by decide +kernel
theorem dX2_become_36 : decode cX2_become 36 = .ok (.invokestatic 38, 3) := by decide +kernel
theorem dX2_become_39 : decode cX2_become 39 = .ok (.aload_n 1, 1) := by decide +kernel
theorem dX2_become_40 : decode cX2_become 40 = .ok (.getfield 25, 3) := by decide +kernel
theorem dX2_become_43 : decode cX2_become 43 = .ok (.iconst 0, 1) := by decide +kernel
theorem dX2_become_44 : decode cX2_become 44 = .ok (.aload_n 0, 1) := by decide +kernel
theorem dX2_become_45 : decode cX2_become 45 = .ok (.getfield 25, 3) := by decide +kernel
theorem dX2_become_48 : decode cX2_become 48 = .ok (.iconst 0, 1) := by decide +kernel
theorem dX2_become_49 : decode cX2_become 49 = .ok (.bipush 10, 2) := by decide +kernel
theorem dX2_become_51 : decode cX2_become 51 = .ok (.invokestatic 38, 3) := by decide +kernel
theorem dX2_become_54 : decode cX2_become 54 = .ok (.aload_n 1, 1) := by decide +kernel
theorem dX2_become_55 : decode cX2_become 55 = .ok (.getfield 28, 3) := by decide +kernel
theorem dX2_become_58 : decode cX2_become 58 = .ok (.iconst 0, 1) := by decide +kernel
theorem dX2_become_59 : decode cX2_become 59 = .ok (.aload_n 0, 1) := by decide +kernel
theorem dX2_become_60 : decode cX2_become 60 = .ok (.getfield 28, 3) := by decide +kernel
theorem dX2_become_63 : decode cX2_become 63 = .ok (.iconst 0, 1) := by decide +kernel
theorem dX2_become_64 : decode cX2_become 64 = .ok (.bipush 10, 2) := by decide +kernel
theorem dX2_become_66 : decode cX2_become 66 = .ok (.invokestatic 38, 3) := by decide +kernel
theorem dX2_become_69 : decode cX2_become 69 = .ok (.aload_n 1, 1) := by decide +kernel
theorem dX2_become_70 : decode cX2_become 70 = .ok (.getfield 32, 3) := by decide +kernel
theorem dX2_become_73 : decode cX2_become 73 = .ok (.iconst 0, 1) := by decide +kernel
theorem dX2_become_74 : decode cX2_become 74 = .ok (.aload_n 0, 1) := by decide +kernel
theorem dX2_become_75 : decode cX2_become 75 = .ok (.getfield 32, 3) := by decide +kernel
theorem dX2_become_78 : decode cX2_become 78 = .ok (.iconst 0, 1) := by decide +kernel
theorem dX2_become_79 : decode cX2_become 79 = .ok (.bipush 120, 2) := by decide +kernel
theorem dX2_become_81 : decode cX2_become 81 = .ok (.invokestatic 38, 3) := by decide +kernel
theorem dX2_become_84 : decode cX2_become 84 = .ok (.aload_n 1, 1) := by decide +kernel
theorem dX2_become_85 : decode cX2_become 85 = .ok (.getfield 35, 3) := by decide +kernel
theorem dX2_become_88 : decode cX2_become 88 = .ok (.iconst 0, 1) := by decide +kernel
theorem dX2_become_89 : decode cX2_become 89 = .ok (.aload_n 0, 1) := by decide +kernel
theorem dX2_become_90 : decode cX2_become 90 = .ok (.getfield 35, 3) := by decide +kernel
theorem dX2_become_93 : decode cX2_become 93 = .ok (.iconst 0, 1) := by decide +kernel
theorem dX2_become_94 : decode cX2_become 94 = .ok (.bipush 8, 2) := by decide +kernel
theorem dX2_become_96 : decode cX2_become 96 = .ok (.invokestatic 38, 3) := by decide +kernel
theorem dX2_become_99 : decode cX2_become 99 = .ok (.return_, 1) := by decide +kernel
theorem dX2_has_0 : decode cX2_has 0 = .ok (.iload_n 1, 1) := by decide +kernel
theorem dX2_has_1 : decode cX2_has 1 = .ok (.ifCond .lt 15, 3) := by decide +kernel
theorem dX2_has_4 : decode cX2_has 4 = .ok (.iload_n 1, 1) := by decide +kernel
theorem dX2_has_5 : decode cX2_has 5 = .ok (.aload_n 0, 1) := by decide +kernel
theorem dX2_has_6 : decode cX2_has 6 = .ok (.getfield 18, 3) := by decide +kernel
theorem dX2_has_9 : decode cX2_has 9 = .ok (.if_icmp .ge 7, 3) := by decide +kernel
theorem dX2_has_12 : decode cX2_has 12 = .ok (.iconst 1, 1) := by decide +kernel
theorem dX2_has_13 : decode cX2_has 13 = .ok (.goto 4, 3) := by decide +kernel
theorem dX2_has_16 : decode cX2_has 16 = .ok (.iconst 0, 1) := by decide +kernel
theorem dX2_has_17 : decode cX2_has 17 = .ok (.ireturn, 1) := by decide +kernel
theorem dX2_hasAll_0 : decode cX2_hasAll 0 = .ok (.iload_n 1, 1) := by decide +kernel
theorem dX2_hasAll_1 : decode cX2_hasAll 1 = .ok (.ifCond .lt 17, 3) := by decide +kernel
theorem dX2_hasAll_4 : decode cX2_hasAll 4 = .ok (.iload_n 1, 1) := by decide +kernel
theorem dX2_hasAll_5 : decode cX2_hasAll 5 = .ok (.iconst 1, 1) := by decide +kernel
theorem dX2_hasAll_6 : decode cX2_hasAll 6 = .ok (.aload_n 0, 1) := by decide +kernel
theorem dX2_hasAll_7 : decode cX2_hasAll 7 = .ok (.getfield 18, 3) := by decide +kernel
theorem dX2_hasAll_10 : decode cX2_hasAll 10 = .ok (.ishl, 1) := by decide +kernel
theorem dX2_hasAll_11 : decode cX2_hasAll 11 = .ok (.if_icmp .ge 7, 3) := by decide +kernel
theorem dX2_hasAll_14 : decode cX2_hasAll 14 = .ok (.iconst 1, 1) := by decide +kernel
theorem dX2_hasAll_15 : decode cX2_hasAll 15 = .ok (.goto 4, 3) := by decide +kernel
theorem dX2_hasAll_18 : decode cX2_hasAll 18 = .ok (.iconst 0, 1) := by decide +kernel
theorem dX2_hasAll_19 : decode cX2_hasAll 19 = .ok (.ireturn, 1) := by decide +kernel
theorem dX2_append_0 : decode cX2_append 0 = .ok (.aload_n 0, 1) := by decide +kernel
theorem dX2_append_1 : decode cX2_append 1 = .ok (.getfield 18, 3) := by decide +kernel
theorem dX2_append_4 : decode cX2_append 4 = .ok (.istore_n 3, 1) := by decide +kernel
theorem dX2_append_5 : decode cX2_append 5 = .ok (.aload_n 0, 1) := by decide +kernel
theorem dX2_append_6 : decode cX2_append 6 = .ok (.getfield 21, 3) := by decide +kernel
theorem dX2_append_9 : decode cX2_append 9 = .ok (.iload_n 3, 1) := by decide +kernel
theorem dX2_append_10 : decode cX2_append 10 = .ok (.iload_n 1, 1) := by decide +kernel
theorem dX2_append_11 : decode cX2_append 11 = .ok (.iastore, 1) := by decide +kernel
theorem dX2_append_12 : decode cX2_append 12 = .ok (.aload_n 0, 1) := by decide +kernel
theorem dX2_append_13 : decode cX2_append 13 = .ok (.getfield 25, 3) := by decide +kernel
theorem dX2_append_16 : decode cX2_append 16 = .ok (.iload_n 3, 1) := by decide +kernel
theorem dX2_append_17 : decode cX2_append 17 = .ok (.iload_n 2, 1) := by decide +kernel
theorem dX2_append_18 : decode cX2_append 18 = .ok (.iastore, 1) := by decide +kernel
theorem dX2_append_19 : decode cX2_append 19 = .ok (.aload_n 0, 1) := by decide +kernel
theorem dX2_append_20 : decode cX2_append 20 = .ok (.getfield 28, 3) := by decide +kernel
theorem dX2_append_23 : decode cX2_append 23 = .ok (.iload_n 3, 1) := by decide +kernel
theorem dX2_append_24 : decode cX2_append 24 = .ok (.lconst 0, 1) := by decide +kernel
theorem dX2_append_25 : decode cX2_append 25 = .ok (.lastore, 1) := by decide +kernel
theorem dX2_append_26 : decode cX2_append 26 = .ok (.iconst 0, 1) := by decide +kernel
theorem dX2_append_27 : decode cX2_append 27 = .ok (.istore 4, 2) := by decide +kernel
theorem dX2_append_29 : decode cX2_append 29 = .ok (.iload 4, 2) := by decide +kernel
theorem dX2_append_31 : decode cX2_append 31 = .ok (.bipush 12, 2) := by decide +kernel
theorem dX2_append_33 : decode cX2_append 33 = .ok (.if_icmp .ge 22, 3) := by decide +kernel
theorem dX2_append_36 : decode cX2_append 36 = .ok (.aload_n 0, 1) := by decide +kernel
theorem dX2_append_37 : decode cX2_append 37 = .ok (.getfield 32, 3) := by decide +kernel
theorem dX2_append_40 : decode cX2_append 40 = .ok (.iload_n 3, 1) := by decide +kernel
theorem dX2_append_41 : decode cX2_append 41 = .ok (.bipush 12, 2) := by decide +kernel
theorem dX2_append_43 : decode cX2_append 43 = .ok (.imul, 1) := by decide +kernel
theorem dX2_append_44 : decode cX2_append 44 = .ok (.iload 4, 2) := by decide +kernel
theorem dX2_append_46 : decode cX2_append 46 = .ok (.iadd, 1) := by decide +kernel
theorem dX2_append_47 : decode cX2_append 47 = .ok (.iconst 0, 1) := by decide +kernel
theorem dX2_append_48 : decode cX2_append 48 = .ok (.iastore, 1) := by decide +kernel
theorem dX2_append_49 : decode cX2_append 49 = .ok (.iinc 4 1, 3) := by decide +kernel
theorem dX2_append_52 : decode cX2_append 52 = .ok (.goto (-23), 3) := by decide +kernel
theorem dX2_append_55 : decode cX2_append 55 = .ok (.aload_n 0, 1) := by decide +kernel
theorem dX2_append_56 : decode cX2_append 56 = .ok (.dup, 1) := by decide +kernel
theorem dX2_append_57 : decode cX2_append 57 = .ok (.getfield 18, 3) := by decide +kernel
theorem dX2_append_60 : decode cX2_append 60 = .ok (.iconst 1, 1) := by decide +kernel
theorem dX2_append_61 : decode cX2_append 61 = .ok (.iadd, 1) := by decide +kernel
theorem dX2_append_62 : decode cX2_append 62 = .ok (.putfield 18, 3) := by decide +kernel
theorem dX2_append_65 : decode cX2_append 65 = .ok (.iload_n 3, 1) := by decide +kernel
theorem dX2_append_66 : decode cX2_append 66 = .ok (.ireturn, 1) := by decide +kernel
theorem dX2_rowNumber_0 : decode cX2_rowNumber 0 = .ok (.aload_n 0, 1) := by decide +kernel
theorem dX2_rowNumber_1 : decode cX2_rowNumber 1 = .ok (.getfield 32, 3) := by decide +kernel
theorem dX2_rowNumber_4 : decode cX2_rowNumber 4 = .ok (.iload_n 1, 1) := by decide +kernel
theorem dX2_rowNumber_5 : decode cX2_rowNumber 5 = .ok (.bipush 12, 2) := by decide +kernel
theorem dX2_rowNumber_7 : decode cX2_rowNumber 7 = .ok (.imul, 1) := by decide +kernel
theorem dX2_rowNumber_8 : decode cX2_rowNumber 8 = .ok (.iload_n 3, 1) := by decide +kernel
theorem dX2_rowNumber_9 : decode cX2_rowNumber 9 = .ok (.iadd, 1) := by decide +kernel
theorem dX2_rowNumber_10 : decode cX2_rowNumber 10 = .ok (.iaload, 1) := by decide +kernel
theorem dX2_rowNumber_11 : decode cX2_rowNumber 11 = .ok (.istore 4, 2) := by decide +kernel
theorem dX2_rowNumber_13 : decode cX2_rowNumber 13 = .ok (.aload_n 0, 1) := by decide +kernel
theorem dX2_rowNumber_14 : decode cX2_rowNumber 14 = .ok (.getfield 32, 3) := by decide +kernel
theorem dX2_rowNumber_17 : decode cX2_rowNumber 17 = .ok (.iload_n 1, 1) := by decide +kernel
theorem dX2_rowNumber_18 : decode cX2_rowNumber 18 = .ok (.bipush 12, 2) := by decide +kernel
theorem dX2_rowNumber_20 : decode cX2_rowNumber 20 = .ok (.imul, 1) := by decide +kernel
theorem dX2_rowNumber_21 : decode cX2_rowNumber 21 = .ok (.bipush 6, 2) := by decide +kernel
theorem dX2_rowNumber_23 : decode cX2_rowNumber 23 = .ok (.iadd, 1) := by decide +kernel
theorem dX2_rowNumber_24 : decode cX2_rowNumber 24 = .ok (.iload_n 3, 1) := by decide +kernel
theorem dX2_rowNumber_25 : decode cX2_rowNumber 25 = .ok (.iadd, 1) := by decide +kernel
theorem dX2_rowNumber_26 : decode cX2_rowNumber 26 = .ok (.iaload, 1) := by decide +kernel
theorem dX2_rowNumber_27 : decode cX2_rowNumber 27 = .ok (.istore 5, 2) := by decide +kernel
theorem dX2_rowNumber_29 : decode cX2_rowNumber 29 = .ok (.aload_n 0, 1) := by decide +kernel
theorem dX2_rowNumber_30 : decode cX2_rowNumber 30 = .ok (.getfield 21, 3) := by decide +kernel
theorem dX2_rowNumber_33 : decode cX2_rowNumber 33 = .ok (.iload_n 1, 1) := by decide +kernel
theorem dX2_rowNumber_34 : decode cX2_rowNumber 34 = .ok (.iaload, 1) := by decide +kernel
theorem dX2_rowNumber_35 : decode cX2_rowNumber 35 = .ok (.istore 6, 2) := by decide +kernel
theorem dX2_rowNumber_37 : decode cX2_rowNumber 37 = .ok (.iload_n 2, 1) := by decide +kernel
theorem dX2_rowNumber_38 : decode cX2_rowNumber 38 = .ok (.ifCond .ne 17, 3) := by decide +kernel
theorem dX2_rowNumber_41 : decode cX2_rowNumber 41 = .ok (.iload 6, 2) := by decide +kernel
theorem dX2_rowNumber_43 : decode cX2_rowNumber 43 = .ok (.iload 4, 2) := by decide +kernel
theorem dX2_rowNumber_45 : decode cX2_rowNumber 45 = .ok (.iload 5, 2) := by decide +kernel
theorem dX2_rowNumber_47 : decode cX2_rowNumber 47 = .ok (.iload_n 3, 1) := by decide +kernel
theorem dX2_rowNumber_48 : decode cX2_rowNumber 48 = .ok (.invokestatic 44, 3) := by decide +kernel
theorem dX2_rowNumber_51 : decode cX2_rowNumber 51 = .ok (.i2l, 1) := by decide +kernel
theorem dX2_rowNumber_52 : decode cX2_rowNumber 52 = .ok (.goto 13, 3) := by decide +kernel
theorem dX2_rowNumber_55 : decode cX2_rowNumber 55 = .ok (.iload 6, 2) := by decide +kernel
theorem dX2_rowNumber_57 : decode cX2_rowNumber 57 = .ok (.iload 4, 2) := by decide +kernel
theorem dX2_rowNumber_59 : decode cX2_rowNumber 59 = .ok (.iload 5, 2) := by decide +kernel
theorem dX2_rowNumber_61 : decode cX2_rowNumber 61 = .ok (.invokestatic 48, 3) := by decide +kernel
theorem dX2_rowNumber_64 : decode cX2_rowNumber 64 = .ok (.i2l, 1) := by decide +kernel
theorem dX2_rowNumber_65 : decode cX2_rowNumber 65 = .ok (.aload_n 0, 1) := by decide +kernel
theorem dX2_rowNumber_66 : decode cX2_rowNumber 66 = .ok (.getfield 9, 3) := by decide +kernel
theorem dX2_rowNumber_69 : decode cX2_rowNumber 69 = .ok (.invokestatic 52, 3) := by decide +kernel
theorem dX2_rowNumber_72 : decode cX2_rowNumber 72 = .ok (.ireturn, 1) := by decide +kernel
theorem dX2_inFirst_0 : decode cX2_inFirst 0 = .ok (.iload_n 0, 1) := by decide +kernel
theorem dX2_inFirst_1 : decode cX2_inFirst 1 = .ok (.lookupswitch 39 #[(2, 27), (4, 29)], 27) := by decide +kernel
theorem dX2_inFirst_28 : decode cX2_inFirst 28 = .ok (.iload_n 2, 1) := by decide +kernel
theorem dX2_inFirst_29 : decode cX2_inFirst 29 = .ok (.ireturn, 1) := by decide +kernel
theorem dX2_inFirst_30 : decode cX2_inFirst 30 = .ok (.iload_n 3, 1) := by decide +kernel
theorem dX2_inFirst_31 : decode cX2_inFirst 31 = .ok (.ifCond .ne 7, 3) := by decide +kernel
theorem dX2_inFirst_34 : decode cX2_inFirst 34 = .ok (.iconst 0, 1) := by decide +kernel
theorem dX2_inFirst_35 : decode cX2_inFirst 35 = .ok (.goto 4, 3) := by decide +kernel
theorem dX2_inFirst_38 : decode cX2_inFirst 38 = .ok (.iload_n 2, 1) := by decide +kernel
theorem dX2_inFirst_39 : decode cX2_inFirst 39 = .ok (.ireturn, 1) := by decide +kernel
theorem dX2_inFirst_40 : decode cX2_inFirst 40 = .ok (.iload_n 1, 1) := by decide +kernel
theorem dX2_inFirst_41 : decode cX2_inFirst 41 = .ok (.ireturn, 1) := by decide +kernel
theorem dX2_inSecond_0 : decode cX2_inSecond 0 = .ok (.iload_n 0, 1) := by decide +kernel
theorem dX2_inSecond_1 : decode cX2_inSecond 1 = .ok (.tableswitch 47 1 5 #[35, 45, 39, 45, 45], 35) := by decide +kernel
theorem dX2_inSecond_36 : decode cX2_inSecond 36 = .ok (.iload_n 1, 1) := by decide +kernel
theorem dX2_inSecond_37 : decode cX2_inSecond 37 = .ok (.iload_n 2, 1) := by decide +kernel
theorem dX2_inSecond_38 : decode cX2_inSecond 38 = .ok (.iadd, 1) := by decide +kernel
theorem dX2_inSecond_39 : decode cX2_inSecond 39 = .ok (.ireturn, 1) := by decide +kernel
theorem dX2_inSecond_40 : decode cX2_inSecond 40 = .ok (.iload_n 1, 1) := by decide +kernel
theorem dX2_inSecond_41 : decode cX2_inSecond 41 = .ok (.iload_n 2, 1) := by decide +kernel
theorem dX2_inSecond_42 : decode cX2_inSecond 42 = .ok (.iadd, 1) := by decide +kernel
theorem dX2_inSecond_43 : decode cX2_inSecond 43 = .ok (.iload_n 1, 1) := by decide +kernel
theorem dX2_inSecond_44 : decode cX2_inSecond 44 = .ok (.iadd, 1) := by decide +kernel
theorem dX2_inSecond_45 : decode cX2_inSecond 45 = .ok (.ireturn, 1) := by decide +kernel
theorem dX2_inSecond_46 : decode cX2_inSecond 46 = .ok (.iload_n 1, 1) := by decide +kernel
theorem dX2_inSecond_47 : decode cX2_inSecond 47 = .ok (.ireturn, 1) := by decide +kernel
theorem dX2_inSecond_48 : decode cX2_inSecond 48 = .ok (.iload_n 2, 1) := by decide +kernel
theorem dX2_inSecond_49 : decode cX2_inSecond 49 = .ok (.ireturn, 1) := by decide +kernel
theorem dX2_weightOf_0 : decode cX2_weightOf 0 = .ok (.iconst 0, 1) := by decide +kernel
theorem dX2_weightOf_1 : decode cX2_weightOf 1 = .ok (.istore_n 2, 1) := by decide +kernel
theorem dX2_weightOf_2 : decode cX2_weightOf 2 = .ok (.iconst 0, 1) := by decide +kernel
theorem dX2_weightOf_3 : decode cX2_weightOf 3 = .ok (.istore_n 3, 1) := by decide +kernel
theorem dX2_weightOf_4 : decode cX2_weightOf 4 = .ok (.iload_n 3, 1) := by decide +kernel
theorem dX2_weightOf_5 : decode cX2_weightOf 5 = .ok (.aload_n 0, 1) := by decide +kernel
theorem dX2_weightOf_6 : decode cX2_weightOf 6 = .ok (.getfield 18, 3) := by decide +kernel
theorem dX2_weightOf_9 : decode cX2_weightOf 9 = .ok (.if_icmp .ge 27, 3) := by decide +kernel
theorem dX2_weightOf_12 : decode cX2_weightOf 12 = .ok (.iload_n 1, 1) := by decide +kernel
theorem dX2_weightOf_13 : decode cX2_weightOf 13 = .ok (.iload_n 3, 1) := by decide +kernel
theorem dX2_weightOf_14 : decode cX2_weightOf 14 = .ok (.ishr, 1) := by decide +kernel
theorem dX2_weightOf_15 : decode cX2_weightOf 15 = .ok (.iconst 1, 1) := by decide +kernel
theorem dX2_weightOf_16 : decode cX2_weightOf 16 = .ok (.iand, 1) := by decide +kernel
theorem dX2_weightOf_17 : decode cX2_weightOf 17 = .ok (.iconst 1, 1) := by decide +kernel
theorem dX2_weightOf_18 : decode cX2_weightOf 18 = .ok (.if_icmp .ne 12, 3) := by decide +kernel
theorem dX2_weightOf_21 : decode cX2_weightOf 21 = .ok (.iload_n 2, 1) := by decide +kernel
theorem dX2_weightOf_22 : decode cX2_weightOf 22 = .ok (.aload_n 0, 1) := by decide +kernel
theorem dX2_weightOf_23 : decode cX2_weightOf 23 = .ok (.getfield 25, 3) := by decide +kernel
theorem dX2_weightOf_26 : decode cX2_weightOf 26 = .ok (.iload_n 3, 1) := by decide +kernel
theorem dX2_weightOf_27 : decode cX2_weightOf 27 = .ok (.iaload, 1) := by decide +kernel
theorem dX2_weightOf_28 : decode cX2_weightOf 28 = .ok (.iadd, 1) := by decide +kernel
theorem dX2_weightOf_29 : decode cX2_weightOf 29 = .ok (.istore_n 2, 1) := by decide +kernel
theorem dX2_weightOf_30 : decode cX2_weightOf 30 = .ok (.iinc 3 1, 3) := by decide +kernel
theorem dX2_weightOf_33 : decode cX2_weightOf 33 = .ok (.goto (-29), 3) := by decide +kernel
theorem dX2_weightOf_36 : decode cX2_weightOf 36 = .ok (.iload_n 2, 1) := by decide +kernel
theorem dX2_weightOf_37 : decode cX2_weightOf 37 = .ok (.ireturn, 1) := by decide +kernel
theorem dX2_placeInQueue_0 : decode cX2_placeInQueue 0 = .ok (.iconst 0, 1) := by decide +kernel
theorem dX2_placeInQueue_1 : decode cX2_placeInQueue 1 = .ok (.istore_n 2, 1) := by decide +kernel
theorem dX2_placeInQueue_2 : decode cX2_placeInQueue 2 = .ok (.iconst 0, 1) := by decide +kernel
theorem dX2_placeInQueue_3 : decode cX2_placeInQueue 3 = .ok (.istore_n 3, 1) := by decide +kernel
theorem dX2_placeInQueue_4 : decode cX2_placeInQueue 4 = .ok (.iload_n 3, 1) := by decide +kernel
theorem dX2_placeInQueue_5 : decode cX2_placeInQueue 5 = .ok (.aload_n 0, 1) := by decide +kernel
theorem dX2_placeInQueue_6 : decode cX2_placeInQueue 6 = .ok (.getfield 18, 3) := by decide +kernel
theorem dX2_placeInQueue_9 : decode cX2_placeInQueue 9 = .ok (.if_icmp .ge 21, 3) := by decide +kernel
theorem dX2_placeInQueue_12 : decode cX2_placeInQueue 12 = .ok (.aload_n 0, 1) := by decide +kernel
theorem dX2_placeInQueue_13 : decode cX2_placeInQueue 13 = .ok (.iload_n 3, 1) := by decide +kernel
theorem dX2_placeInQueue_14 : decode cX2_placeInQueue 14 = .ok (.iload_n 1, 1) := by decide +kernel
theorem dX2_placeInQueue_15 : decode cX2_placeInQueue 15 = .ok (.invokevirtual 56, 3) := by decide +kernel
theorem dX2_placeInQueue_18 : decode cX2_placeInQueue 18 = .ok (.ifCond .eq 6, 3) := by decide +kernel
theorem dX2_placeInQueue_21 : decode cX2_placeInQueue 21 = .ok (.iinc 2 1, 3) := by decide +kernel
theorem dX2_placeInQueue_24 : decode cX2_placeInQueue 24 = .ok (.iinc 3 1, 3) := by decide +kernel
theorem dX2_placeInQueue_27 : decode cX2_placeInQueue 27 = .ok (.goto (-23), 3) := by decide +kernel
theorem dX2_placeInQueue_30 : decode cX2_placeInQueue 30 = .ok (.iload_n 2, 1) := by decide +kernel
theorem dX2_placeInQueue_31 : decode cX2_placeInQueue 31 = .ok (.ireturn, 1) := by decide +kernel
theorem dX2_isAhead_0 : decode cX2_isAhead 0 = .ok (.aload_n 0, 1) := by decide +kernel
theorem dX2_isAhead_1 : decode cX2_isAhead 1 = .ok (.getfield 25, 3) := by decide +kernel
theorem dX2_isAhead_4 : decode cX2_isAhead 4 = .ok (.iload_n 1, 1) := by decide +kernel
theorem dX2_isAhead_5 : decode cX2_isAhead 5 = .ok (.iaload, 1) := by decide +kernel
theorem dX2_isAhead_6 : decode cX2_isAhead 6 = .ok (.aload_n 0, 1) := by decide +kernel
theorem dX2_isAhead_7 : decode cX2_isAhead 7 = .ok (.getfield 25, 3) := by decide +kernel
theorem dX2_isAhead_10 : decode cX2_isAhead 10 = .ok (.iload_n 2, 1) := by decide +kernel
theorem dX2_isAhead_11 : decode cX2_isAhead 11 = .ok (.iaload, 1) := by decide +kernel
theorem dX2_isAhead_12 : decode cX2_isAhead 12 = .ok (.if_icmp .eq 24, 3) := by decide +kernel
theorem dX2_isAhead_15 : decode cX2_isAhead 15 = .ok (.aload_n 0, 1) := by decide +kernel
theorem dX2_isAhead_16 : decode cX2_isAhead 16 = .ok (.getfield 25, 3) := by decide +kernel
theorem dX2_isAhead_19 : decode cX2_isAhead 19 = .ok (.iload_n 1, 1) := by decide +kernel
theorem dX2_isAhead_20 : decode cX2_isAhead 20 = .ok (.iaload, 1) := by decide +kernel
theorem dX2_isAhead_21 : decode cX2_isAhead 21 = .ok (.aload_n 0, 1) := by decide +kernel
theorem dX2_isAhead_22 : decode cX2_isAhead 22 = .ok (.getfield 25, 3) := by decide +kernel
theorem dX2_isAhead_25 : decode cX2_isAhead 25 = .ok (.iload_n 2, 1) := by decide +kernel
theorem dX2_isAhead_26 : decode cX2_isAhead 26 = .ok (.iaload, 1) := by decide +kernel
theorem dX2_isAhead_27 : decode cX2_isAhead 27 = .ok (.if_icmp .le 7, 3) := by decide +kernel
theorem dX2_isAhead_30 : decode cX2_isAhead 30 = .ok (.iconst 1, 1) := by decide +kernel
theorem dX2_isAhead_31 : decode cX2_isAhead 31 = .ok (.goto 4, 3) := by decide +kernel
theorem dX2_isAhead_34 : decode cX2_isAhead 34 = .ok (.iconst 0, 1) := by decide +kernel
theorem dX2_isAhead_35 : decode cX2_isAhead 35 = .ok (.ireturn, 1) := by decide +kernel
theorem dX2_isAhead_36 : decode cX2_isAhead 36 = .ok (.aload_n 0, 1) := by decide +kernel
theorem dX2_isAhead_37 : decode cX2_isAhead 37 = .ok (.getfield 21, 3) := by decide +kernel
theorem dX2_isAhead_40 : decode cX2_isAhead 40 = .ok (.iload_n 1, 1) := by decide +kernel
theorem dX2_isAhead_41 : decode cX2_isAhead 41 = .ok (.iaload, 1) := by decide +kernel
theorem dX2_isAhead_42 : decode cX2_isAhead 42 = .ok (.aload_n 0, 1) := by decide +kernel
theorem dX2_isAhead_43 : decode cX2_isAhead 43 = .ok (.getfield 21, 3) := by decide +kernel
theorem dX2_isAhead_46 : decode cX2_isAhead 46 = .ok (.iload_n 2, 1) := by decide +kernel
theorem dX2_isAhead_47 : decode cX2_isAhead 47 = .ok (.iaload, 1) := by decide +kernel
theorem dX2_isAhead_48 : decode cX2_isAhead 48 = .ok (.if_icmp .eq 24, 3) := by decide +kernel
theorem dX2_isAhead_51 : decode cX2_isAhead 51 = .ok (.aload_n 0, 1) := by decide +kernel
theorem dX2_isAhead_52 : decode cX2_isAhead 52 = .ok (.getfield 21, 3) := by decide +kernel
theorem dX2_isAhead_55 : decode cX2_isAhead 55 = .ok (.iload_n 1, 1) := by decide +kernel
theorem dX2_isAhead_56 : decode cX2_isAhead 56 = .ok (.iaload, 1) := by decide +kernel
theorem dX2_isAhead_57 : decode cX2_isAhead 57 = .ok (.aload_n 0, 1) := by decide +kernel
theorem dX2_isAhead_58 : decode cX2_isAhead 58 = .ok (.getfield 21, 3) := by decide +kernel
theorem dX2_isAhead_61 : decode cX2_isAhead 61 = .ok (.iload_n 2, 1) := by decide +kernel
theorem dX2_isAhead_62 : decode cX2_isAhead 62 = .ok (.iaload, 1) := by decide +kernel
theorem dX2_isAhead_63 : decode cX2_isAhead 63 = .ok (.if_icmp .ge 7, 3) := by decide +kernel
theorem dX2_isAhead_66 : decode cX2_isAhead 66 = .ok (.iconst 1, 1) := by decide +kernel
theorem dX2_isAhead_67 : decode cX2_isAhead 67 = .ok (.goto 4, 3) := by decide +kernel
theorem dX2_isAhead_70 : decode cX2_isAhead 70 = .ok (.iconst 0, 1) := by decide +kernel
theorem dX2_isAhead_71 : decode cX2_isAhead 71 = .ok (.ireturn, 1) := by decide +kernel
theorem dX2_isAhead_72 : decode cX2_isAhead 72 = .ok (.iload_n 1, 1) := by decide +kernel
theorem dX2_isAhead_73 : decode cX2_isAhead 73 = .ok (.iload_n 2, 1) := by decide +kernel
theorem dX2_isAhead_74 : decode cX2_isAhead 74 = .ok (.if_icmp .ge 7, 3) := by decide +kernel
theorem dX2_isAhead_77 : decode cX2_isAhead 77 = .ok (.iconst 1, 1) := by decide +kernel
theorem dX2_isAhead_78 : decode cX2_isAhead 78 = .ok (.goto 4, 3) := by decide +kernel
theorem dX2_isAhead_81 : decode cX2_isAhead 81 = .ok (.iconst 0, 1) := by decide +kernel
theorem dX2_isAhead_82 : decode cX2_isAhead 82 = .ok (.ireturn, 1) := by decide +kernel
theorem dX2_ownerOf_0 : decode cX2_ownerOf 0 = .ok (.iconst 0, 1) := by decide +kernel
theorem dX2_ownerOf_1 : decode cX2_ownerOf 1 = .ok (.istore_n 3, 1) := by decide +kernel
theorem dX2_ownerOf_2 : decode cX2_ownerOf 2 = .ok (.iload_n 3, 1) := by decide +kernel
theorem dX2_ownerOf_3 : decode cX2_ownerOf 3 = .ok (.aload_n 0, 1) := by decide +kernel
theorem dX2_ownerOf_4 : decode cX2_ownerOf 4 = .ok (.getfield 18, 3) := by decide +kernel
theorem dX2_ownerOf_7 : decode cX2_ownerOf 7 = .ok (.if_icmp .ge 22, 3) := by decide +kernel
theorem dX2_ownerOf_10 : decode cX2_ownerOf 10 = .ok (.aload_n 0, 1) := by decide +kernel
theorem dX2_ownerOf_11 : decode cX2_ownerOf 11 = .ok (.getfield 28, 3) := by decide +kernel
theorem dX2_ownerOf_14 : decode cX2_ownerOf 14 = .ok (.iload_n 3, 1) := by decide +kernel
theorem dX2_ownerOf_15 : decode cX2_ownerOf 15 = .ok (.laload, 1) := by decide +kernel
theorem dX2_ownerOf_16 : decode cX2_ownerOf 16 = .ok (.lload_n 1, 1) := by decide +kernel
theorem dX2_ownerOf_17 : decode cX2_ownerOf 17 = .ok (.lcmp, 1) := by decide +kernel
theorem dX2_ownerOf_18 : decode cX2_ownerOf 18 = .ok (.ifCond .ne 5, 3) := by decide +kernel
theorem dX2_ownerOf_21 : decode cX2_ownerOf 21 = .ok (.iload_n 3, 1) := by decide +kernel
theorem dX2_ownerOf_22 : decode cX2_ownerOf 22 = .ok (.ireturn, 1) := by decide +kernel
theorem dX2_ownerOf_23 : decode cX2_ownerOf 23 = .ok (.iinc 3 1, 3) := by decide +kernel
theorem dX2_ownerOf_26 : decode cX2_ownerOf 26 = .ok (.goto (-24), 3) := by decide +kernel
theorem dX2_ownerOf_29 : decode cX2_ownerOf 29 = .ok (.iconst (-1), 1) := by decide +kernel
theorem dX2_ownerOf_30 : decode cX2_ownerOf 30 = .ok (.ireturn, 1) := by decide +kernel
theorem dX2_namesBelow_0 : decode cX2_namesBelow 0 = .ok (.iconst 0, 1) := by decide +kernel
theorem dX2_namesBelow_1 : decode cX2_namesBelow 1 = .ok (.istore_n 3, 1) := by decide +kernel
theorem dX2_namesBelow_2 : decode cX2_namesBelow 2 = .ok (.iconst 0, 1) := by decide +kernel
theorem dX2_namesBelow_3 : decode cX2_namesBelow 3 = .ok (.istore 4, 2) := by decide +kernel
theorem dX2_namesBelow_5 : decode cX2_namesBelow 5 = .ok (.iload 4, 2) := by decide +kernel
theorem dX2_namesBelow_7 : decode cX2_namesBelow 7 = .ok (.aload_n 0, 1) := by decide +kernel
theorem dX2_namesBelow_8 : decode cX2_namesBelow 8 = .ok (.getfield 18, 3) := by decide +kernel
theorem dX2_namesBelow_11 : decode cX2_namesBelow 11 = .ok (.if_icmp .ge 36, 3) := by decide +kernel
theorem dX2_namesBelow_14 : decode cX2_namesBelow 14 = .ok (.aload_n 0, 1) := by decide +kernel
theorem dX2_namesBelow_15 : decode cX2_namesBelow 15 = .ok (.getfield 28, 3) := by decide +kernel
theorem dX2_namesBelow_18 : decode cX2_namesBelow 18 = .ok (.iload 4, 2) := by decide +kernel
theorem dX2_namesBelow_20 : decode cX2_namesBelow 20 = .ok (.laload, 1) := by decide +kernel
theorem dX2_namesBelow_21 : decode cX2_namesBelow 21 = .ok (.lconst 0, 1) := by decide +kernel
theorem dX2_namesBelow_22 : decode cX2_namesBelow 22 = .ok (.lcmp, 1) := by decide +kernel
theorem dX2_namesBelow_23 : decode cX2_namesBelow 23 = .ok (.ifCond .eq 18, 3) := by decide +kernel
theorem dX2_namesBelow_26 : decode cX2_namesBelow 26 = .ok (.aload_n 0, 1) := by decide +kernel
theorem dX2_namesBelow_27 : decode cX2_namesBelow 27 = .ok (.getfield 28, 3) := by decide +kernel
theorem dX2_namesBelow_30 : decode cX2_namesBelow 30 = .ok (.iload 4, 2) := by decide +kernel
theorem dX2_namesBelow_32 : decode cX2_namesBelow 32 = .ok (.laload, 1) := by decide +kernel
theorem dX2_namesBelow_33 : decode cX2_namesBelow 33 = .ok (.lload_n 1, 1) := by decide +kernel
theorem dX2_namesBelow_34 : decode cX2_namesBelow 34 = .ok (.lcmp, 1) := by decide +kernel
theorem dX2_namesBelow_35 : decode cX2_namesBelow 35 = .ok (.ifCond .ge 6, 3) := by decide +kernel
theorem dX2_namesBelow_38 : decode cX2_namesBelow 38 = .ok (.iinc 3 1, 3) := by decide +kernel
theorem dX2_namesBelow_41 : decode cX2_namesBelow 41 = .ok (.iinc 4 1, 3) := by decide +kernel
theorem dX2_namesBelow_44 : decode cX2_namesBelow 44 = .ok (.goto (-39), 3) := by decide +kernel
theorem dX2_namesBelow_47 : decode cX2_namesBelow 47 = .ok (.iload_n 3, 1) := by decide +kernel
theorem dX2_namesBelow_48 : decode cX2_namesBelow 48 = .ok (.ireturn, 1) := by decide +kernel
theorem dX2_namesInAll_0 : decode cX2_namesInAll 0 = .ok (.iconst 0, 1) := by decide +kernel
theorem dX2_namesInAll_1 : decode cX2_namesInAll 1 = .ok (.istore_n 1, 1) := by decide +kernel
theorem dX2_namesInAll_2 : decode cX2_namesInAll 2 = .ok (.iconst 0, 1) := by decide +kernel
theorem dX2_namesInAll_3 : decode cX2_namesInAll 3 = .ok (.istore_n 2, 1) := by decide +kernel
theorem dX2_namesInAll_4 : decode cX2_namesInAll 4 = .ok (.iload_n 2, 1) := by decide +kernel
theorem dX2_namesInAll_5 : decode cX2_namesInAll 5 = .ok (.aload_n 0, 1) := by decide +kernel
theorem dX2_namesInAll_6 : decode cX2_namesInAll 6 = .ok (.getfield 18, 3) := by decide +kernel
theorem dX2_namesInAll_9 : decode cX2_namesInAll 9 = .ok (.if_icmp .ge 23, 3) := by decide +kernel
theorem dX2_namesInAll_12 : decode cX2_namesInAll 12 = .ok (.aload_n 0, 1) := by decide +kernel
theorem dX2_namesInAll_13 : decode cX2_namesInAll 13 = .ok (.getfield 28, 3) := by decide +kernel
theorem dX2_namesInAll_16 : decode cX2_namesInAll 16 = .ok (.iload_n 2, 1) := by decide +kernel
theorem dX2_namesInAll_17 : decode cX2_namesInAll 17 = .ok (.laload, 1) := by decide +kernel
theorem dX2_namesInAll_18 : decode cX2_namesInAll 18 = .ok (.lconst 0, 1) := by decide +kernel
theorem dX2_namesInAll_19 : decode cX2_namesInAll 19 = .ok (.lcmp, 1) := by decide +kernel
theorem dX2_namesInAll_20 : decode cX2_namesInAll 20 = .ok (.ifCond .eq 6, 3) := by decide +kernel
theorem dX2_namesInAll_23 : decode cX2_namesInAll 23 = .ok (.iinc 1 1, 3) := by decide +kernel
theorem dX2_namesInAll_26 : decode cX2_namesInAll 26 = .ok (.iinc 2 1, 3) := by decide +kernel
theorem dX2_namesInAll_29 : decode cX2_namesInAll 29 = .ok (.goto (-25), 3) := by decide +kernel
theorem dX2_namesInAll_32 : decode cX2_namesInAll 32 = .ok (.iload_n 1, 1) := by decide +kernel
theorem dX2_namesInAll_33 : decode cX2_namesInAll 33 = .ok (.ireturn, 1) := by decide +kernel
theorem dX2_linesAt_0 : decode cX2_linesAt 0 = .ok (.aload_n 0, 1) := by decide +kernel
theorem dX2_linesAt_1 : decode cX2_linesAt 1 = .ok (.getfield 35, 3) := by decide +kernel
theorem dX2_linesAt_4 : decode cX2_linesAt 4 = .ok (.iload_n 1, 1) := by decide +kernel
theorem dX2_linesAt_5 : decode cX2_linesAt 5 = .ok (.iaload, 1) := by decide +kernel
theorem dX2_linesAt_6 : decode cX2_linesAt 6 = .ok (.invokestatic 60, 3) := by decide +kernel
theorem dX2_linesAt_9 : decode cX2_linesAt 9 = .ok (.ireturn, 1) := by decide +kernel
theorem dX2_linesInAll_0 : decode cX2_linesInAll 0 = .ok (.iconst 0, 1) := by decide +kernel
theorem dX2_linesInAll_1 : decode cX2_linesInAll 1 = .ok (.istore_n 1, 1) := by decide +kernel
theorem dX2_linesInAll_2 : decode cX2_linesInAll 2 = .ok (.iconst 0, 1) := by decide +kernel
theorem dX2_linesInAll_3 : decode cX2_linesInAll 3 = .ok (.istore_n 2, 1) := by decide +kernel
theorem dX2_linesInAll_4 : decode cX2_linesInAll 4 = .ok (.iload_n 2, 1) := by decide +kernel
theorem dX2_linesInAll_5 : decode cX2_linesInAll 5 = .ok (.bipush 8, 2) := by decide +kernel
theorem dX2_linesInAll_7 : decode cX2_linesInAll 7 = .ok (.if_icmp .ge 17, 3) := by decide +kernel
theorem dX2_linesInAll_10 : decode cX2_linesInAll 10 = .ok (.iload_n 1, 1) := by decide +kernel
theorem dX2_linesInAll_11 : decode cX2_linesInAll 11 = .ok (.aload_n 0, 1) := by decide +kernel
theorem dX2_linesInAll_12 : decode cX2_linesInAll 12 = .ok (.iload_n 2, 1) := by decide +kernel
theorem dX2_linesInAll_13 : decode cX2_linesInAll 13 = .ok (.invokevirtual 66, 3) := by decide +kernel
theorem dX2_linesInAll_16 : decode cX2_linesInAll 16 = .ok (.iadd, 1) := by decide +kernel
theorem dX2_linesInAll_17 : decode cX2_linesInAll 17 = .ok (.istore_n 1, 1) := by decide +kernel
theorem dX2_linesInAll_18 : decode cX2_linesInAll 18 = .ok (.iinc 2 1, 3) := by decide +kernel
theorem dX2_linesInAll_21 : decode cX2_linesInAll 21 = .ok (.goto (-17), 3) := by decide +kernel
theorem dX2_linesInAll_24 : decode cX2_linesInAll 24 = .ok (.iload_n 1, 1) := by decide +kernel
theorem dX2_linesInAll_25 : decode cX2_linesInAll 25 = .ok (.iconst 2, 1) := by decide +kernel
theorem dX2_linesInAll_26 : decode cX2_linesInAll 26 = .ok (.idiv, 1) := by decide +kernel
theorem dX2_linesInAll_27 : decode cX2_linesInAll 27 = .ok (.ireturn, 1) := by decide +kernel
theorem dX3_init_0 : decode cX3_init 0 = .ok (.aload_n 0, 1) := by decide +kernel
theorem dX3_init_1 : decode cX3_init 1 = .ok (.invokespecial 3, 3) := by decide +kernel
theorem dX3_init_4 : decode cX3_init 4 = .ok (.aload_n 0, 1) := by decide +kernel
theorem dX3_init_5 : decode cX3_init 5 = .ok (.iconst 0, 1) := by decide +kernel
theorem dX3_init_6 : decode cX3_init 6 = .ok (.putfield 9, 3) := by decide +kernel
theorem dX3_init_9 : decode cX3_init 9 = .ok (.aload_n 0, 1) := by decide +kernel
theorem dX3_init_10 : decode cX3_init 10 = .ok (.bipush 20, 2) := by decide +kernel
theorem dX3_init_12 : decode cX3_init 12 = .ok (.newarray .long, 2) := by decide +kernel
theorem dX3_init_14 : decode cX3_init 14 = .ok (.putfield 15, 3) := by decide +kernel
theorem dX3_init_17 : decode cX3_init 17 = .ok (.return_, 1) := by decide +kernel
theorem dX3_fill_0 : decode cX3_fill 0 = .ok (.aload_n 0, 1) := by decide +kernel
theorem dX3_fill_1 : decode cX3_fill 1 = .ok (.iconst 0, 1) := by decide +kernel
theorem dX3_fill_2 : decode cX3_fill 2 = .ok (.putfield 9, 3) := by decide +kernel
theorem dX3_fill_5 : decode cX3_fill 5 = .ok (.iconst 0, 1) := by decide +kernel
theorem dX3_fill_6 : decode cX3_fill 6 = .ok (.istore_n 2, 1) := by decide +kernel
theorem dX3_fill_7 : decode cX3_fill 7 = .ok (.iload_n 2, 1) := by decide +kernel
theorem dX3_fill_8 : decode cX3_fill 8 = .ok (.iconst 2, 1) := by decide +kernel
theorem dX3_fill_9 : decode cX3_fill 9 = .ok (.aload_n 1, 1) := by decide +kernel
theorem dX3_fill_10 : decode cX3_fill 10 = .ok (.getfield 19, 3) := by decide +kernel
theorem dX3_fill_13 : decode cX3_fill 13 = .ok (.imul, 1) := by decide +kernel
theorem dX3_fill_14 : decode cX3_fill 14 = .ok (.if_icmp .ge 22, 3) := by decide +kernel
theorem dX3_fill_17 : decode cX3_fill 17 = .ok (.aload_n 0, 1) := by decide +kernel
theorem dX3_fill_18 : decode cX3_fill 18 = .ok (.aload_n 0, 1) := by decide +kernel
theorem dX3_fill_19 : decode cX3_fill 19 = .ok (.aload_n 1, 1) := by decide +kernel
theorem dX3_fill_20 : decode cX3_fill 20 = .ok (.iload_n 2, 1) := by decide +kernel
theorem dX3_fill_21 : decode cX3_fill 21 = .ok (.bipush 6, 2) := by decide +kernel
theorem dX3_fill_23 : decode cX3_fill 23 = .ok (.imul, 1) := by decide +kernel
theorem dX3_fill_24 : decode cX3_fill 24 = .ok (.invokevirtual 24, 3) := by decide +kernel
theorem dX3_fill_27 : decode cX3_fill 27 = .ok (.invokevirtual 28, 3) := by decide +kernel
theorem dX3_fill_30 : decode cX3_fill 30 = .ok (.iinc 2 1, 3) := by decide +kernel
theorem dX3_fill_33 : decode cX3_fill 33 = .ok (.goto (-26), 3) := by decide +kernel
theorem dX3_fill_36 : decode cX3_fill 36 = .ok (.return_, 1) := by decide +kernel
theorem dX3_has_0 : decode cX3_has 0 = .ok (.iload_n 1, 1) := by decide +kernel
theorem dX3_has_1 : decode cX3_has 1 = .ok (.ifCond .lt 15, 3) := by decide +kernel
theorem dX3_has_4 : decode cX3_has 4 = .ok (.iload_n 1, 1) := by decide +kernel
theorem dX3_has_5 : decode cX3_has 5 = .ok (.aload_n 0, 1) := by decide +kernel
theorem dX3_has_6 : decode cX3_has 6 = .ok (.getfield 9, 3) := by decide +kernel
theorem dX3_has_9 : decode cX3_has 9 = .ok (.if_icmp .ge 7, 3) := by decide +kernel
theorem dX3_has_12 : decode cX3_has 12 = .ok (.iconst 1, 1) := by decide +kernel
theorem dX3_has_13 : decode cX3_has 13 = .ok (.goto 4, 3) := by decide +kernel
theorem dX3_has_16 : decode cX3_has 16 = .ok (.iconst 0, 1) := by decide +kernel
theorem dX3_has_17 : decode cX3_has 17 = .ok (.ireturn, 1) := by decide +kernel
theorem dX3_codeOf_0 : decode cX3_codeOf 0 = .ok (.iconst 0, 1) := by decide +kernel
theorem dX3_codeOf_1 : decode cX3_codeOf 1 = .ok (.istore_n 3, 1) := by decide +kernel
theorem dX3_codeOf_2 : decode cX3_codeOf 2 = .ok (.lconst 0, 1) := by decide +kernel
theorem dX3_codeOf_3 : decode cX3_codeOf 3 = .ok (.lstore 4, 2) := by decide +kernel
theorem dX3_codeOf_5 : decode cX3_codeOf 5 = .ok (.iconst 0, 1) := by decide +kernel
theorem dX3_codeOf_6 : decode cX3_codeOf 6 = .ok (.istore 6, 2) := by decide +kernel
theorem dX3_codeOf_8 : decode cX3_codeOf 8 = .ok (.iload 6, 2) := by decide +kernel
theorem dX3_codeOf_10 : decode cX3_codeOf 10 = .ok (.aload_n 1, 1) := by decide +kernel
theorem dX3_codeOf_11 : decode cX3_codeOf 11 = .ok (.getfield 32, 3) := by decide +kernel
theorem dX3_codeOf_14 : decode cX3_codeOf 14 = .ok (.if_icmp .ge 61, 3) := by decide +kernel
theorem dX3_codeOf_17 : decode cX3_codeOf 17 = .ok (.aload_n 1, 1) := by decide +kernel
theorem dX3_codeOf_18 : decode cX3_codeOf 18 = .ok (.getfield 35, 3) := by decide +kernel
theorem dX3_codeOf_21 : decode cX3_codeOf 21 = .ok (.iload_n 2, 1) := by decide +kernel
theorem dX3_codeOf_22 : decode cX3_codeOf 22 = .ok (.iload 6, 2) := by decide +kernel
theorem dX3_codeOf_24 : decode cX3_codeOf 24 = .ok (.iadd, 1) := by decide +kernel
theorem dX3_codeOf_25 : decode cX3_codeOf 25 = .ok (.iaload, 1) := by decide +kernel
theorem dX3_codeOf_26 : decode cX3_codeOf 26 = .ok (.istore 7, 2) := by decide +kernel
theorem dX3_codeOf_28 : decode cX3_codeOf 28 = .ok (.iload_n 3, 1) := by decide +kernel
theorem dX3_codeOf_29 : decode cX3_codeOf 29 = .ok (.ifCond .ne 19, 3) := by decide +kernel
theorem dX3_codeOf_32 : decode cX3_codeOf 32 = .ok (.iload 7, 2) := by decide +kernel
theorem dX3_codeOf_34 : decode cX3_codeOf 34 = .ok (.ifCond .eq 14, 3) := by decide +kernel
theorem dX3_codeOf_37 : decode cX3_codeOf 37 = .ok (.iconst 1, 1) := by decide +kernel
theorem dX3_codeOf_38 : decode cX3_codeOf 38 = .ok (.iload 7, 2) := by decide +kernel
theorem dX3_codeOf_40 : decode cX3_codeOf 40 = .ok (.aload_n 1, 1) := by decide +kernel
theorem dX3_codeOf_41 : decode cX3_codeOf 41 = .ok (.getfield 39, 3) := by decide +kernel
theorem dX3_codeOf_44 : decode cX3_codeOf 44 = .ok (.invokestatic 42, 3) := by decide +kernel
theorem dX3_codeOf_47 : decode cX3_codeOf 47 = .ok (.istore_n 3, 1) := by decide +kernel
theorem dX3_codeOf_48 : decode cX3_codeOf 48 = .ok (.lload 4, 2) := by decide +kernel
theorem dX3_codeOf_50 : decode cX3_codeOf 50 = .ok (.aload_n 1, 1) := by decide +kernel
theorem dX3_codeOf_51 : decode cX3_codeOf 51 = .ok (.getfield 39, 3) := by decide +kernel
theorem dX3_codeOf_54 : decode cX3_codeOf 54 = .ok (.i2l, 1) := by decide +kernel
theorem dX3_codeOf_55 : decode cX3_codeOf 55 = .ok (.lmul, 1) := by decide +kernel
theorem dX3_codeOf_56 : decode cX3_codeOf 56 = .ok (.iload 7, 2) := by decide +kernel
theorem dX3_codeOf_58 : decode cX3_codeOf 58 = .ok (.iload_n 3, 1) := by decide +kernel
theorem dX3_codeOf_59 : decode cX3_codeOf 59 = .ok (.imul, 1) := by decide +kernel
theorem dX3_codeOf_60 : decode cX3_codeOf 60 = .ok (.aload_n 1, 1) := by decide +kernel
theorem dX3_codeOf_61 : decode cX3_codeOf 61 = .ok (.getfield 39, 3) := by decide +kernel
theorem dX3_codeOf_64 : decode cX3_codeOf 64 = .ok (.irem, 1) := by decide +kernel
theorem dX3_codeOf_65 : decode cX3_codeOf 65 = .ok (.i2l, 1) := by decide +kernel
theorem dX3_codeOf_66 : decode cX3_codeOf 66 = .ok (.ladd, 1) := by decide +kernel
theorem dX3_codeOf_67 : decode cX3_codeOf 67 = .ok (.lstore 4, 2) := by decide +kernel
theorem dX3_codeOf_69 : decode cX3_codeOf 69 = .ok (.iinc 6 1, 3) := by decide +kernel
theorem dX3_codeOf_72 : decode cX3_codeOf 72 = .ok (.goto (-64), 3) := by decide +kernel
theorem dX3_codeOf_75 : decode cX3_codeOf 75 = .ok (.lload 4, 2) := by decide +kernel
theorem dX3_codeOf_77 : decode cX3_codeOf 77 = .ok (.lreturn, 1) := by decide +kernel
theorem dX3_raysBelow_0 : decode cX3_raysBelow 0 = .ok (.iconst 0, 1) := by decide +kernel
theorem dX3_raysBelow_1 : decode cX3_raysBelow 1 = .ok (.istore_n 3, 1) := by decide +kernel
theorem dX3_raysBelow_2 : decode cX3_raysBelow 2 = .ok (.iload_n 3, 1) := by decide +kernel
theorem dX3_raysBelow_3 : decode cX3_raysBelow 3 = .ok (.aload_n 0, 1) := by decide +kernel
theorem dX3_raysBelow_4 : decode cX3_raysBelow 4 = .ok (.getfield 9, 3) := by decide +kernel
theorem dX3_raysBelow_7 : decode cX3_raysBelow 7 = .ok (.if_icmp .ge 20, 3) := by decide +kernel
theorem dX3_raysBelow_10 : decode cX3_raysBelow 10 = .ok (.aload_n 0, 1) := by decide +kernel
theorem dX3_raysBelow_11 : decode cX3_raysBelow 11 = .ok (.getfield 15, 3) := by decide +kernel
theorem dX3_raysBelow_14 : decode cX3_raysBelow 14 = .ok (.iload_n 3, 1) := by decide +kernel
theorem dX3_raysBelow_15 : decode cX3_raysBelow 15 = .ok (.laload, 1) := by decide +kernel
theorem dX3_raysBelow_16 : decode cX3_raysBelow 16 = .ok (.lload_n 1, 1) := by decide +kernel
theorem dX3_raysBelow_17 : decode cX3_raysBelow 17 = .ok (.lcmp, 1) := by decide +kernel
theorem dX3_raysBelow_18 : decode cX3_raysBelow 18 = .ok (.ifCond .ge 9, 3) := by decide +kernel
theorem dX3_raysBelow_21 : decode cX3_raysBelow 21 = .ok (.iinc 3 1, 3) := by decide +kernel
theorem dX3_raysBelow_24 : decode cX3_raysBelow 24 = .ok (.goto (-22), 3) := by decide +kernel
theorem dX3_raysBelow_27 : decode cX3_raysBelow 27 = .ok (.iload_n 3, 1) := by decide +kernel
theorem dX3_raysBelow_28 : decode cX3_raysBelow 28 = .ok (.ireturn, 1) := by decide +kernel
theorem dX3_insert_0 : decode cX3_insert 0 = .ok (.aload_n 0, 1) := by decide +kernel
theorem dX3_insert_1 : decode cX3_insert 1 = .ok (.lload_n 1, 1) := by decide +kernel
theorem dX3_insert_2 : decode cX3_insert 2 = .ok (.invokevirtual 46, 3) := by decide +kernel
theorem dX3_insert_5 : decode cX3_insert 5 = .ok (.istore_n 3, 1) := by decide +kernel
theorem dX3_insert_6 : decode cX3_insert 6 = .ok (.iload_n 3, 1) := by decide +kernel
theorem dX3_insert_7 : decode cX3_insert 7 = .ok (.aload_n 0, 1) := by decide +kernel
theorem dX3_insert_8 : decode cX3_insert 8 = .ok (.getfield 9, 3) := by decide +kernel
theorem dX3_insert_11 : decode cX3_insert 11 = .ok (.if_icmp .ge 18, 3) := by decide +kernel
theorem dX3_insert_14 : decode cX3_insert 14 = .ok (.aload_n 0, 1) := by decide +kernel
theorem dX3_insert_15 : decode cX3_insert 15 = .ok (.getfield 15, 3) := by decide +kernel
theorem dX3_insert_18 : decode cX3_insert 18 = .ok (.iload_n 3, 1) := by decide +kernel
theorem dX3_insert_19 : decode cX3_insert 19 = .ok (.laload, 1) := by decide +kernel
theorem dX3_insert_20 : decode cX3_insert 20 = .ok (.lload_n 1, 1) := by decide +kernel
theorem dX3_insert_21 : decode cX3_insert 21 = .ok (.lcmp, 1) := by decide +kernel
theorem dX3_insert_22 : decode cX3_insert 22 = .ok (.ifCond .ne 7, 3) := by decide +kernel
theorem dX3_insert_25 : decode cX3_insert 25 = .ok (.iconst 1, 1) := by decide +kernel
theorem dX3_insert_26 : decode cX3_insert 26 = .ok (.goto 4, 3) := by decide +kernel
theorem dX3_insert_29 : decode cX3_insert 29 = .ok (.iconst 0, 1) := by decide +kernel
theorem dX3_insert_30 : decode cX3_insert 30 = .ok (.istore 4, 2) := by decide +kernel
theorem dX3_insert_32 : decode cX3_insert 32 = .ok (.lload_n 1, 1) := by decide +kernel
theorem dX3_insert_33 : decode cX3_insert 33 = .ok (.lconst 0, 1) := by decide +kernel
theorem dX3_insert_34 : decode cX3_insert 34 = .ok (.lcmp, 1) := by decide +kernel
theorem dX3_insert_35 : decode cX3_insert 35 = .ok (.ifCond .eq 20, 3) := by decide +kernel
theorem dX3_insert_38 : decode cX3_insert 38 = .ok (.iload 4, 2) := by decide +kernel
theorem dX3_insert_40 : decode cX3_insert 40 = .ok (.ifCond .ne 15, 3) := by decide +kernel
theorem dX3_insert_43 : decode cX3_insert 43 = .ok (.aload_n 0, 1) := by decide +kernel
theorem dX3_insert_44 : decode cX3_insert 44 = .ok (.getfield 9, 3) := by decide +kernel
theorem dX3_insert_47 : decode cX3_insert 47 = .ok (.aload_n 0, 1) := by decide +kernel
theorem dX3_insert_48 : decode cX3_insert 48 = .ok (.getfield 15, 3) := by decide +kernel
theorem dX3_insert_51 : decode cX3_insert 51 = .ok (.arraylength, 1) := by decide +kernel
theorem dX3_insert_52 : decode cX3_insert 52 = .ok (.if_icmp .lt 4, 3) := by decide +kernel
theorem dX3_insert_55 : decode cX3_insert 55 = .ok (.return_, 1) := by decide +kernel
theorem dX3_insert_56 : decode cX3_insert 56 = .ok (.aload_n 0, 1) := by decide +kernel
theorem dX3_insert_57 : decode cX3_insert 57 = .ok (.getfield 9, 3) := by decide +kernel
theorem dX3_insert_60 : decode cX3_insert 60 = .ok (.istore 5, 2) := by decide +kernel
theorem dX3_insert_62 : decode cX3_insert 62 = .ok (.iload 5, 2) := by decide +kernel
theorem dX3_insert_64 : decode cX3_insert 64 = .ok (.iload_n 3, 1) := by decide +kernel
theorem dX3_insert_65 : decode cX3_insert 65 = .ok (.if_icmp .le 25, 3) := by decide +kernel
theorem dX3_insert_68 : decode cX3_insert 68 = .ok (.aload_n 0, 1) := by decide +kernel
theorem dX3_insert_69 : decode cX3_insert 69 = .ok (.getfield 15, 3) := by decide +kernel
theorem dX3_insert_72 : decode cX3_insert 72 = .ok (.iload 5, 2) := by decide +kernel
theorem dX3_insert_74 : decode cX3_insert 74 = .ok (.aload_n 0, 1) := by decide +kernel
theorem dX3_insert_75 : decode cX3_insert 75 = .ok (.getfield 15, 3) := by decide +kernel
theorem dX3_insert_78 : decode cX3_insert 78 = .ok (.iload 5, 2) := by decide +kernel
theorem dX3_insert_80 : decode cX3_insert 80 = .ok (.iconst 1, 1) := by decide +kernel
theorem dX3_insert_81 : decode cX3_insert 81 = .ok (.isub, 1) := by decide +kernel
theorem dX3_insert_82 : decode cX3_insert 82 = .ok (.laload, 1) := by decide +kernel
theorem dX3_insert_83 : decode cX3_insert 83 = .ok (.lastore, 1) := by decide +kernel
theorem dX3_insert_84 : decode cX3_insert 84 = .ok (.iinc 5 (-1), 3) := by decide +kernel
theorem dX3_insert_87 : decode cX3_insert 87 = .ok (.goto (-25), 3) := by decide +kernel
theorem dX3_insert_90 : decode cX3_insert 90 = .ok (.aload_n 0, 1) := by decide +kernel
theorem dX3_insert_91 : decode cX3_insert 91 = .ok (.getfield 15, 3) := by decide +kernel
theorem dX3_insert_94 : decode cX3_insert 94 = .ok (.iload_n 3, 1) := by decide +kernel
theorem dX3_insert_95 : decode cX3_insert 95 = .ok (.lload_n 1, 1) := by decide +kernel
theorem dX3_insert_96 : decode cX3_insert 96 = .ok (.lastore, 1) := by decide +kernel
theorem dX3_insert_97 : decode cX3_insert 97 = .ok (.aload_n 0, 1) := by decide +kernel
theorem dX3_insert_98 : decode cX3_insert 98 = .ok (.dup, 1) := by decide +kernel
theorem dX3_insert_99 : decode cX3_insert 99 = .ok (.getfield 9, 3) := by decide +kernel
theorem dX3_insert_102 : decode cX3_insert 102 = .ok (.iconst 1, 1) := by decide +kernel
theorem dX3_insert_103 : decode cX3_insert 103 = .ok (.iadd, 1) := by decide +kernel
theorem dX3_insert_104 : decode cX3_insert 104 = .ok (.putfield 9, 3) := by decide +kernel
theorem dX3_insert_107 : decode cX3_insert 107 = .ok (.return_, 1) := by decide +kernel
theorem dX4_init_0 : decode cX4_init 0 = .ok (.aload_n 0, 1) := by decide +kernel
theorem dX4_init_1 : decode cX4_init 1 = .ok (.invokespecial 3, 3) := by decide +kernel
theorem dX4_init_4 : decode cX4_init 4 = .ok (.aload_n 0, 1) := by decide +kernel
theorem dX4_init_5 : decode cX4_init 5 = .ok (.iconst 4, 1) := by decide +kernel
theorem dX4_init_6 : decode cX4_init 6 = .ok (.putfield 9, 3) := by decide +kernel
theorem dX4_init_9 : decode cX4_init 9 = .ok (.aload_n 0, 1) := by decide +kernel
theorem dX4_init_10 : decode cX4_init 10 = .ok (.iconst 0, 1) := by decide +kernel
theorem dX4_init_11 : decode cX4_init 11 = .ok (.putfield 15, 3) := by decide +kernel
theorem dX4_init_14 : decode cX4_init 14 = .ok (.aload_n 0, 1) := by decide +kernel
theorem dX4_init_15 : decode cX4_init 15 = .ok (.bipush 36, 2) := by decide +kernel
theorem dX4_init_17 : decode cX4_init 17 = .ok (.newarray .long, 2) := by decide +kernel
theorem dX4_init_19 : decode cX4_init 19 = .ok (.putfield 19, 3) := by decide +kernel
theorem dX4_init_22 : decode cX4_init 22 = .ok (.return_, 1) := by decide +kernel
theorem dX4_made_0 : decode cX4_made 0 = .ok (.aload_n 0, 1) := by decide +kernel
theorem dX4_made_1 : decode cX4_made 1 = .ok (.aload_n 1, 1) := by decide +kernel
theorem dX4_made_2 : decode cX4_made 2 = .ok (.getfield 23, 3) := by decide +kernel
theorem dX4_made_5 : decode cX4_made 5 = .ok (.putfield 9, 3) := by decide +kernel
theorem dX4_made_8 : decode cX4_made 8 = .ok (.aload_n 0, 1) := by decide +kernel
theorem dX4_made_9 : decode cX4_made 9 = .ok (.iconst 0, 1) := by decide +kernel
theorem dX4_made_10 : decode cX4_made 10 = .ok (.putfield 15, 3) := by decide +kernel
theorem dX4_made_13 : decode cX4_made 13 = .ok (.iconst 0, 1) := by decide +kernel
theorem dX4_made_14 : decode cX4_made 14 = .ok (.istore_n 3, 1) := by decide +kernel
theorem dX4_made_15 : decode cX4_made 15 = .ok (.iload_n 3, 1) := by decide +kernel
theorem dX4_made_16 : decode cX4_made 16 = .ok (.aload_n 0, 1) := by decide +kernel
theorem dX4_made_17 : decode cX4_made 17 = .ok (.getfield 9, 3) := by decide +kernel
theorem dX4_made_20 : decode cX4_made 20 = .ok (.if_icmp .ge 50, 3) := by decide +kernel
theorem dX4_made_23 : decode cX4_made 23 = .ok (.iload_n 3, 1) := by decide +kernel
theorem dX4_made_24 : decode cX4_made 24 = .ok (.iconst 1, 1) := by decide +kernel
theorem dX4_made_25 : decode cX4_made 25 = .ok (.iadd, 1) := by decide +kernel
theorem dX4_made_26 : decode cX4_made 26 = .ok (.istore 4, 2) := by decide +kernel
theorem dX4_made_28 : decode cX4_made 28 = .ok (.iload 4, 2) := by decide +kernel
theorem dX4_made_30 : decode cX4_made 30 = .ok (.aload_n 0, 1) := by decide +kernel
theorem dX4_made_31 : decode cX4_made 31 = .ok (.getfield 9, 3) := by decide +kernel
theorem dX4_made_34 : decode cX4_made 34 = .ok (.if_icmp .ge 30, 3) := by decide +kernel
theorem dX4_made_37 : decode cX4_made 37 = .ok (.aload_n 0, 1) := by decide +kernel
theorem dX4_made_38 : decode cX4_made 38 = .ok (.getfield 19, 3) := by decide +kernel
theorem dX4_made_41 : decode cX4_made 41 = .ok (.iload_n 3, 1) := by decide +kernel
theorem dX4_made_42 : decode cX4_made 42 = .ok (.bipush 6, 2) := by decide +kernel
theorem dX4_made_44 : decode cX4_made 44 = .ok (.imul, 1) := by decide +kernel
theorem dX4_made_45 : decode cX4_made 45 = .ok (.iload 4, 2) := by decide +kernel
theorem dX4_made_47 : decode cX4_made 47 = .ok (.iadd, 1) := by decide +kernel
theorem dX4_made_48 : decode cX4_made 48 = .ok (.aload_n 0, 1) := by decide +kernel
theorem dX4_made_49 : decode cX4_made 49 = .ok (.aload_n 1, 1) := by decide +kernel
theorem dX4_made_50 : decode cX4_made 50 = .ok (.aload_n 2, 1) := by decide +kernel
theorem dX4_made_51 : decode cX4_made 51 = .ok (.iload_n 3, 1) := by decide +kernel
theorem dX4_made_52 : decode cX4_made 52 = .ok (.iload 4, 2) := by decide +kernel
theorem dX4_made_54 : decode cX4_made 54 = .ok (.invokevirtual 26, 3) := by decide +kernel
theorem dX4_made_57 : decode cX4_made 57 = .ok (.lastore, 1) := by decide +kernel
theorem dX4_made_58 : decode cX4_made 58 = .ok (.iinc 4 1, 3) := by decide +kernel
theorem dX4_made_61 : decode cX4_made 61 = .ok (.goto (-33), 3) := by decide +kernel
theorem dX4_made_64 : decode cX4_made 64 = .ok (.iinc 3 1, 3) := by decide +kernel
theorem dX4_made_67 : decode cX4_made 67 = .ok (.goto (-52), 3) := by decide +kernel
theorem dX4_made_70 : decode cX4_made 70 = .ok (.aload_n 0, 1) := by decide +kernel
theorem dX4_made_71 : decode cX4_made 71 = .ok (.iconst 1, 1) := by decide +kernel
theorem dX4_made_72 : decode cX4_made 72 = .ok (.aload_n 0, 1) := by decide +kernel
theorem dX4_made_73 : decode cX4_made 73 = .ok (.getfield 9, 3) := by decide +kernel
theorem dX4_made_76 : decode cX4_made 76 = .ok (.ishl, 1) := by decide +kernel
theorem dX4_made_77 : decode cX4_made 77 = .ok (.iconst 1, 1) := by decide +kernel
theorem dX4_made_78 : decode cX4_made 78 = .ok (.isub, 1) := by decide +kernel
theorem dX4_made_79 : decode cX4_made 79 = .ok (.iconst 0, 1) := by decide +kernel
theorem dX4_made_80 : decode cX4_made 80 = .ok (.invokevirtual 30, 3) := by decide +kernel
theorem dX4_made_83 : decode cX4_made 83 = .ok (.lstore_n 3, 1) := by decide +kernel
theorem dX4_made_84 : decode cX4_made 84 = .ok (.aload_n 0, 1) := by decide +kernel
theorem dX4_made_85 : decode cX4_made 85 = .ok (.getfield 15, 3) := by decide +kernel
theorem dX4_made_88 : decode cX4_made 88 = .ok (.ifCond .eq 9, 3) := by decide +kernel
theorem dX4_made_91 : decode cX4_made 91 = .ok (.ldc2_w 34, 3) := by decide +kernel
theorem dX4_made_94 : decode cX4_made 94 = .ok (.goto 4, 3) := by decide +kernel
theorem dX4_made_97 : decode cX4_made 97 = .ok (.lload_n 3, 1) := by decide +kernel
theorem dX4_made_98 : decode cX4_made 98 = .ok (.lreturn, 1) := by decide +kernel
theorem dX4_wholeNumber_0 : decode cX4_wholeNumber 0 = .ok (.lconst 0, 1) := by decide +kernel
theorem dX4_wholeNumber_1 : decode cX4_wholeNumber 1 = .ok (.lstore 5, 2) := by decide +kernel
theorem dX4_wholeNumber_3 : decode cX4_wholeNumber 3 = .ok (.iconst 0, 1) := by decide +kernel
theorem dX4_wholeNumber_4 : decode cX4_wholeNumber 4 = .ok (.istore 7, 2) := by decide +kernel
theorem dX4_wholeNumber_6 : decode cX4_wholeNumber 6 = .ok (.iload 7, 2) := by decide +kernel
theorem dX4_wholeNumber_8 : decode cX4_wholeNumber 8 = .ok (.aload_n 1, 1) := by decide +kernel
theorem dX4_wholeNumber_9 : decode cX4_wholeNumber 9 = .ok (.getfield 36, 3) := by decide +kernel
theorem dX4_wholeNumber_12 : decode cX4_wholeNumber 12 = .ok (.if_icmp .ge 37, 3) := by decide +kernel
theorem dX4_wholeNumber_15 : decode cX4_wholeNumber 15 = .ok (.aload_n 0, 1) := by decide +kernel
theorem dX4_wholeNumber_16 : decode cX4_wholeNumber 16 = .ok (.lload 5, 2) := by decide +kernel
theorem dX4_wholeNumber_18 : decode cX4_wholeNumber 18 = .ok (.aload_n 0, 1) := by decide +kernel
theorem dX4_wholeNumber_19 : decode cX4_wholeNumber 19 = .ok (.aload_n 2, 1) := by decide +kernel
theorem dX4_wholeNumber_20 : decode cX4_wholeNumber 20 = .ok (.iload 7, 2) := by decide +kernel
theorem dX4_wholeNumber_22 : decode cX4_wholeNumber 22 = .ok (.invokevirtual 39, 3) := by decide +kernel
theorem dX4_wholeNumber_25 : decode cX4_wholeNumber 25 = .ok (.aload_n 1, 1) := by decide +kernel
theorem dX4_wholeNumber_26 : decode cX4_wholeNumber 26 = .ok (.iload 7, 2) := by decide +kernel
theorem dX4_wholeNumber_28 : decode cX4_wholeNumber 28 = .ok (.iload_n 3, 1) := by decide +kernel
theorem dX4_wholeNumber_29 : decode cX4_wholeNumber 29 = .ok (.iload 4, 2) := by decide +kernel
theorem dX4_wholeNumber_31 : decode cX4_wholeNumber 31 = .ok (.invokevirtual 45, 3) := by decide +kernel
theorem dX4_wholeNumber_34 : decode cX4_wholeNumber 34 = .ok (.i2l, 1) := by decide +kernel
theorem dX4_wholeNumber_35 : decode cX4_wholeNumber 35 = .ok (.invokevirtual 49, 3) := by decide +kernel
theorem dX4_wholeNumber_38 : decode cX4_wholeNumber 38 = .ok (.invokevirtual 53, 3) := by decide +kernel
theorem dX4_wholeNumber_41 : decode cX4_wholeNumber 41 = .ok (.lstore 5, 2) := by decide +kernel
theorem dX4_wholeNumber_43 : decode cX4_wholeNumber 43 = .ok (.iinc 7 1, 3) := by decide +kernel
theorem dX4_wholeNumber_46 : decode cX4_wholeNumber 46 = .ok (.goto (-40), 3) := by decide +kernel
theorem dX4_wholeNumber_49 : decode cX4_wholeNumber 49 = .ok (.aload_n 0, 1) := by decide +kernel
theorem dX4_wholeNumber_50 : decode cX4_wholeNumber 50 = .ok (.dup, 1) := by decide +kernel
theorem dX4_wholeNumber_51 : decode cX4_wholeNumber 51 = .ok (.getfield 15, 3) := by decide +kernel
theorem dX4_wholeNumber_54 : decode cX4_wholeNumber 54 = .ok (.lload 5, 2) := by decide +kernel
theorem dX4_wholeNumber_56 : decode cX4_wholeNumber 56 = .ok (.invokestatic 56, 3) := by decide +kernel
theorem dX4_wholeNumber_59 : decode cX4_wholeNumber 59 = .ok (.ifCond .ne 7, 3) := by decide +kernel
theorem dX4_wholeNumber_62 : decode cX4_wholeNumber 62 = .ok (.iconst 1, 1) := by decide +kernel
theorem dX4_wholeNumber_63 : decode cX4_wholeNumber 63 = .ok (.goto 4, 3) := by decide +kernel
theorem dX4_wholeNumber_66 : decode cX4_wholeNumber 66 = .ok (.iconst 0, 1) := by decide +kernel
theorem dX4_wholeNumber_67 : decode cX4_wholeNumber 67 = .ok (.ior, 1) := by decide +kernel
theorem dX4_wholeNumber_68 : decode cX4_wholeNumber 68 = .ok (.putfield 15, 3) := by decide +kernel
theorem dX4_wholeNumber_71 : decode cX4_wholeNumber 71 = .ok (.lload 5, 2) := by decide +kernel
theorem dX4_wholeNumber_73 : decode cX4_wholeNumber 73 = .ok (.lreturn, 1) := by decide +kernel
theorem dX4_ofPlaces_0 : decode cX4_ofPlaces 0 = .ok (.iload_n 1, 1) := by decide +kernel
theorem dX4_ofPlaces_1 : decode cX4_ofPlaces 1 = .ok (.ifCond .eq 15, 3) := by decide +kernel
theorem dX4_ofPlaces_4 : decode cX4_ofPlaces 4 = .ok (.aload_n 0, 1) := by decide +kernel
theorem dX4_ofPlaces_5 : decode cX4_ofPlaces 5 = .ok (.getfield 15, 3) := by decide +kernel
theorem dX4_ofPlaces_8 : decode cX4_ofPlaces 8 = .ok (.ifCond .ne 8, 3) := by decide +kernel
theorem dX4_ofPlaces_11 : decode cX4_ofPlaces 11 = .ok (.iload_n 2, 1) := by decide +kernel
theorem dX4_ofPlaces_12 : decode cX4_ofPlaces 12 = .ok (.iconst 3, 1) := by decide +kernel
theorem dX4_ofPlaces_13 : decode cX4_ofPlaces 13 = .ok (.if_icmp .le 5, 3) := by decide +kernel
theorem dX4_ofPlaces_16 : decode cX4_ofPlaces 16 = .ok (.lconst 1, 1) := by decide +kernel
theorem dX4_ofPlaces_17 : decode cX4_ofPlaces 17 = .ok (.lreturn, 1) := by decide +kernel
theorem dX4_ofPlaces_18 : decode cX4_ofPlaces 18 = .ok (.iconst 0, 1) := by decide +kernel
theorem dX4_ofPlaces_19 : decode cX4_ofPlaces 19 = .ok (.istore_n 3, 1) := by decide +kernel
theorem dX4_ofPlaces_20 : decode cX4_ofPlaces 20 = .ok (.iload_n 3, 1) := by decide +kernel
theorem dX4_ofPlaces_21 : decode cX4_ofPlaces 21 = .ok (.aload_n 0, 1) := by decide +kernel
theorem dX4_ofPlaces_22 : decode cX4_ofPlaces 22 = .ok (.getfield 9, 3) := by decide +kernel
theorem dX4_ofPlaces_25 : decode cX4_ofPlaces 25 = .ok (.if_icmp .ge 17, 3) := by decide +kernel
theorem dX4_ofPlaces_28 : decode cX4_ofPlaces 28 = .ok (.iload_n 1, 1) := by decide +kernel
theorem dX4_ofPlaces_29 : decode cX4_ofPlaces 29 = .ok (.iload_n 3, 1) := by decide +kernel
theorem dX4_ofPlaces_30 : decode cX4_ofPlaces 30 = .ok (.ishr, 1) := by decide +kernel
theorem dX4_ofPlaces_31 : decode cX4_ofPlaces 31 = .ok (.iconst 1, 1) := by decide +kernel
theorem dX4_ofPlaces_32 : decode cX4_ofPlaces 32 = .ok (.iand, 1) := by decide +kernel
theorem dX4_ofPlaces_33 : decode cX4_ofPlaces 33 = .ok (.ifCond .ne 9, 3) := by decide +kernel
theorem dX4_ofPlaces_36 : decode cX4_ofPlaces 36 = .ok (.iinc 3 1, 3) := by decide +kernel
theorem dX4_ofPlaces_39 : decode cX4_ofPlaces 39 = .ok (.goto (-19), 3) := by decide +kernel
theorem dX4_ofPlaces_42 : decode cX4_ofPlaces 42 = .ok (.lconst 0, 1) := by decide +kernel
theorem dX4_ofPlaces_43 : decode cX4_ofPlaces 43 = .ok (.lstore 4, 2) := by decide +kernel
theorem dX4_ofPlaces_45 : decode cX4_ofPlaces 45 = .ok (.iconst 1, 1) := by decide +kernel
theorem dX4_ofPlaces_46 : decode cX4_ofPlaces 46 = .ok (.istore 6, 2) := by decide +kernel
theorem dX4_ofPlaces_48 : decode cX4_ofPlaces 48 = .ok (.iload_n 3, 1) := by decide +kernel
theorem dX4_ofPlaces_49 : decode cX4_ofPlaces 49 = .ok (.iconst 1, 1) := by decide +kernel
theorem dX4_ofPlaces_50 : decode cX4_ofPlaces 50 = .ok (.iadd, 1) := by decide +kernel
theorem dX4_ofPlaces_51 : decode cX4_ofPlaces 51 = .ok (.istore 7, 2) := by decide +kernel
theorem dX4_ofPlaces_53 : decode cX4_ofPlaces 53 = .ok (.iload 7, 2) := by decide +kernel
theorem dX4_ofPlaces_55 : decode cX4_ofPlaces 55 = .ok (.aload_n 0, 1) := by decide +kernel
theorem dX4_ofPlaces_56 : decode cX4_ofPlaces 56 = .ok (.getfield 9, 3) := by decide +kernel
theorem dX4_ofPlaces_59 : decode cX4_ofPlaces 59 = .ok (.if_icmp .ge 98, 3) := by decide +kernel
theorem dX4_ofPlaces_62 : decode cX4_ofPlaces 62 = .ok (.iload_n 1, 1) := by decide +kernel
theorem dX4_ofPlaces_63 : decode cX4_ofPlaces 63 = .ok (.iload 7, 2) := by decide +kernel
theorem dX4_ofPlaces_65 : decode cX4_ofPlaces 65 = .ok (.ishr, 1) := by decide +kernel
theorem dX4_ofPlaces_66 : decode cX4_ofPlaces 66 = .ok (.iconst 1, 1) := by decide +kernel
theorem dX4_ofPlaces_67 : decode cX4_ofPlaces 67 = .ok (.iand, 1) := by decide +kernel
theorem dX4_ofPlaces_68 : decode cX4_ofPlaces 68 = .ok (.iconst 1, 1) := by decide +kernel
theorem dX4_ofPlaces_69 : decode cX4_ofPlaces 69 = .ok (.if_icmp .ne 82, 3) := by decide +kernel
theorem dX4_ofPlaces_72 : decode cX4_ofPlaces 72 = .ok (.aload_n 0, 1) := by decide +kernel
theorem dX4_ofPlaces_73 : decode cX4_ofPlaces 73 = .ok (.iload_n 1, 1) := by decide +kernel
theorem dX4_ofPlaces_74 : decode cX4_ofPlaces 74 = .ok (.iconst 1, 1) := by decide +kernel
theorem dX4_ofPlaces_75 : decode cX4_ofPlaces 75 = .ok (.iload_n 3, 1) := by decide +kernel
theorem dX4_ofPlaces_76 : decode cX4_ofPlaces 76 = .ok (.ishl, 1) := by decide +kernel
theorem dX4_ofPlaces_77 : decode cX4_ofPlaces 77 = .ok (.iconst 1, 1) := by decide +kernel
theorem dX4_ofPlaces_78 : decode cX4_ofPlaces 78 = .ok (.iload 7, 2) := by decide +kernel
theorem dX4_ofPlaces_80 : decode cX4_ofPlaces 80 = .ok (.ishl, 1) := by decide +kernel
theorem dX4_ofPlaces_81 : decode cX4_ofPlaces 81 = .ok (.ior, 1) := by decide +kernel
theorem dX4_ofPlaces_82 : decode cX4_ofPlaces 82 = .ok (.iconst (-1), 1) := by decide +kernel
theorem dX4_ofPlaces_83 : decode cX4_ofPlaces 83 = .ok (.ixor, 1) := by decide +kernel
theorem dX4_ofPlaces_84 : decode cX4_ofPlaces 84 = .ok (.iand, 1) := by decide +kernel
theorem dX4_ofPlaces_85 : decode cX4_ofPlaces 85 = .ok (.iload_n 2, 1) := by decide +kernel
theorem dX4_ofPlaces_86 : decode cX4_ofPlaces 86 = .ok (.iconst 1, 1) := by decide +kernel
theorem dX4_ofPlaces_87 : decode cX4_ofPlaces 87 = .ok (.iadd, 1) := by decide +kernel
theorem dX4_ofPlaces_88 : decode cX4_ofPlaces 88 = .ok (.invokevirtual 30, 3) := by decide +kernel
theorem dX4_ofPlaces_91 : decode cX4_ofPlaces 91 = .ok (.lstore 8, 2) := by decide +kernel
theorem dX4_ofPlaces_93 : decode cX4_ofPlaces 93 = .ok (.aload_n 0, 1) := by decide +kernel
theorem dX4_ofPlaces_94 : decode cX4_ofPlaces 94 = .ok (.aload_n 0, 1) := by decide +kernel
theorem dX4_ofPlaces_95 : decode cX4_ofPlaces 95 = .ok (.getfield 19, 3) := by decide +kernel
theorem dX4_ofPlaces_98 : decode cX4_ofPlaces 98 = .ok (.iload_n 3, 1) := by decide +kernel
theorem dX4_ofPlaces_99 : decode cX4_ofPlaces 99 = .ok (.bipush 6, 2) := by decide +kernel
theorem dX4_ofPlaces_101 : decode cX4_ofPlaces 101 = .ok (.imul, 1) := by decide +kernel
theorem dX4_ofPlaces_102 : decode cX4_ofPlaces 102 = .ok (.iload 7, 2) := by decide +kernel
theorem dX4_ofPlaces_104 : decode cX4_ofPlaces 104 = .ok (.iadd, 1) := by decide +kernel
theorem dX4_ofPlaces_105 : decode cX4_ofPlaces 105 = .ok (.laload, 1) := by decide +kernel
theorem dX4_ofPlaces_106 : decode cX4_ofPlaces 106 = .ok (.lload 8, 2) := by decide +kernel
theorem dX4_ofPlaces_108 : decode cX4_ofPlaces 108 = .ok (.invokevirtual 49, 3) := by decide +kernel
theorem dX4_ofPlaces_111 : decode cX4_ofPlaces 111 = .ok (.lstore 10, 2) := by decide +kernel
theorem dX4_ofPlaces_113 : decode cX4_ofPlaces 113 = .ok (.iload 6, 2) := by decide +kernel
theorem dX4_ofPlaces_115 : decode cX4_ofPlaces 115 = .ok (.ifCond .eq 14, 3) := by decide +kernel
theorem dX4_ofPlaces_118 : decode cX4_ofPlaces 118 = .ok (.aload_n 0, 1) := by decide +kernel
theorem dX4_ofPlaces_119 : decode cX4_ofPlaces 119 = .ok (.lload 4, 2) := by decide +kernel
theorem dX4_ofPlaces_121 : decode cX4_ofPlaces 121 = .ok (.lload 10, 2) := by decide +kernel
theorem dX4_ofPlaces_123 : decode cX4_ofPlaces 123 = .ok (.invokevirtual 53, 3) := by decide +kernel
theorem dX4_ofPlaces_126 : decode cX4_ofPlaces 126 = .ok (.goto 11, 3) := by decide +kernel
theorem dX4_ofPlaces_129 : decode cX4_ofPlaces 129 = .ok (.aload_n 0, 1) := by decide +kernel
theorem dX4_ofPlaces_130 : decode cX4_ofPlaces 130 = .ok (.lload 4, 2) := by decide +kernel
theorem dX4_ofPlaces_132 : decode cX4_ofPlaces 132 = .ok (.lload 10, 2) := by decide +kernel
theorem dX4_ofPlaces_134 : decode cX4_ofPlaces 134 = .ok (.invokevirtual 60, 3) := by decide +kernel
theorem dX4_ofPlaces_137 : decode cX4_ofPlaces 137 = .ok (.lstore 4, 2) := by decide +kernel
theorem dX4_ofPlaces_139 : decode cX4_ofPlaces 139 = .ok (.iload 6, 2) := by decide +kernel
theorem dX4_ofPlaces_141 : decode cX4_ofPlaces 141 = .ok (.ifCond .ne 7, 3) := by decide +kernel
theorem dX4_ofPlaces_144 : decode cX4_ofPlaces 144 = .ok (.iconst 1, 1) := by decide +kernel
theorem dX4_ofPlaces_145 : decode cX4_ofPlaces 145 = .ok (.goto 4, 3) := by decide +kernel
theorem dX4_ofPlaces_148 : decode cX4_ofPlaces 148 = .ok (.iconst 0, 1) := by decide +kernel
theorem dX4_ofPlaces_149 : decode cX4_ofPlaces 149 = .ok (.istore 6, 2) := by decide +kernel
theorem dX4_ofPlaces_151 : decode cX4_ofPlaces 151 = .ok (.iinc 7 1, 3) := by decide +kernel
theorem dX4_ofPlaces_154 : decode cX4_ofPlaces 154 = .ok (.goto (-101), 3) := by decide +kernel
theorem dX4_ofPlaces_157 : decode cX4_ofPlaces 157 = .ok (.lload 4, 2) := by decide +kernel
theorem dX4_ofPlaces_159 : decode cX4_ofPlaces 159 = .ok (.lreturn, 1) := by decide +kernel
theorem dX4_plus_0 : decode cX4_plus 0 = .ok (.lload_n 1, 1) := by decide +kernel
theorem dX4_plus_1 : decode cX4_plus 1 = .ok (.lload_n 3, 1) := by decide +kernel
theorem dX4_plus_2 : decode cX4_plus 2 = .ok (.ladd, 1) := by decide +kernel
theorem dX4_plus_3 : decode cX4_plus 3 = .ok (.lstore 5, 2) := by decide +kernel
theorem dX4_plus_5 : decode cX4_plus 5 = .ok (.aload_n 0, 1) := by decide +kernel
theorem dX4_plus_6 : decode cX4_plus 6 = .ok (.dup, 1) := by decide +kernel
theorem dX4_plus_7 : decode cX4_plus 7 = .ok (.getfield 15, 3) := by decide +kernel
theorem dX4_plus_10 : decode cX4_plus 10 = .ok (.lload_n 1, 1) := by decide +kernel
theorem dX4_plus_11 : decode cX4_plus 11 = .ok (.lload 5, 2) := by decide +kernel
theorem dX4_plus_13 : decode cX4_plus 13 = .ok (.lxor, 1) := by decide +kernel
theorem dX4_plus_14 : decode cX4_plus 14 = .ok (.lload_n 3, 1) := by decide +kernel
theorem dX4_plus_15 : decode cX4_plus 15 = .ok (.lload 5, 2) := by decide +kernel
theorem dX4_plus_17 : decode cX4_plus 17 = .ok (.lxor, 1) := by decide +kernel
theorem dX4_plus_18 : decode cX4_plus 18 = .ok (.land, 1) := by decide +kernel
theorem dX4_plus_19 : decode cX4_plus 19 = .ok (.lconst 0, 1) := by decide +kernel
theorem dX4_plus_20 : decode cX4_plus 20 = .ok (.lcmp, 1) := by decide +kernel
theorem dX4_plus_21 : decode cX4_plus 21 = .ok (.ifCond .ge 7, 3) := by decide +kernel
theorem dX4_plus_24 : decode cX4_plus 24 = .ok (.iconst 1, 1) := by decide +kernel
theorem dX4_plus_25 : decode cX4_plus 25 = .ok (.goto 4, 3) := by decide +kernel
theorem dX4_plus_28 : decode cX4_plus 28 = .ok (.iconst 0, 1) := by decide +kernel
theorem dX4_plus_29 : decode cX4_plus 29 = .ok (.ior, 1) := by decide +kernel
theorem dX4_plus_30 : decode cX4_plus 30 = .ok (.putfield 15, 3) := by decide +kernel
theorem dX4_plus_33 : decode cX4_plus 33 = .ok (.lload 5, 2) := by decide +kernel
theorem dX4_plus_35 : decode cX4_plus 35 = .ok (.lreturn, 1) := by decide +kernel
theorem dX4_minus_0 : decode cX4_minus 0 = .ok (.lload_n 1, 1) := by decide +kernel
theorem dX4_minus_1 : decode cX4_minus 1 = .ok (.lload_n 3, 1) := by decide +kernel
theorem dX4_minus_2 : decode cX4_minus 2 = .ok (.lsub, 1) := by decide +kernel
theorem dX4_minus_3 : decode cX4_minus 3 = .ok (.lstore 5, 2) := by decide +kernel
theorem dX4_minus_5 : decode cX4_minus 5 = .ok (.aload_n 0, 1) := by decide +kernel
theorem dX4_minus_6 : decode cX4_minus 6 = .ok (.dup, 1) := by decide +kernel
theorem dX4_minus_7 : decode cX4_minus 7 = .ok (.getfield 15, 3) := by decide +kernel
theorem dX4_minus_10 : decode cX4_minus 10 = .ok (.lload_n 1, 1) := by decide +kernel
theorem dX4_minus_11 : decode cX4_minus 11 = .ok (.lload_n 3, 1) := by decide +kernel
theorem dX4_minus_12 : decode cX4_minus 12 = .ok (.lxor, 1) := by decide +kernel
theorem dX4_minus_13 : decode cX4_minus 13 = .ok (.lload_n 1, 1) := by decide +kernel
theorem dX4_minus_14 : decode cX4_minus 14 = .ok (.lload 5, 2) := by decide +kernel
theorem dX4_minus_16 : decode cX4_minus 16 = .ok (.lxor, 1) := by decide +kernel
theorem dX4_minus_17 : decode cX4_minus 17 = .ok (.land, 1) := by decide +kernel
theorem dX4_minus_18 : decode cX4_minus 18 = .ok (.lconst 0, 1) := by decide +kernel
theorem dX4_minus_19 : decode cX4_minus 19 = .ok (.lcmp, 1) := by decide +kernel
theorem dX4_minus_20 : decode cX4_minus 20 = .ok (.ifCond .ge 7, 3) := by decide +kernel
theorem dX4_minus_23 : decode cX4_minus 23 = .ok (.iconst 1, 1) := by decide +kernel
theorem dX4_minus_24 : decode cX4_minus 24 = .ok (.goto 4, 3) := by decide +kernel
theorem dX4_minus_27 : decode cX4_minus 27 = .ok (.iconst 0, 1) := by decide +kernel
theorem dX4_minus_28 : decode cX4_minus 28 = .ok (.ior, 1) := by decide +kernel
theorem dX4_minus_29 : decode cX4_minus 29 = .ok (.putfield 15, 3) := by decide +kernel
theorem dX4_minus_32 : decode cX4_minus 32 = .ok (.lload 5, 2) := by decide +kernel
theorem dX4_minus_34 : decode cX4_minus 34 = .ok (.lreturn, 1) := by decide +kernel
theorem dX4_product_0 : decode cX4_product 0 = .ok (.lload_n 1, 1) := by decide +kernel
theorem dX4_product_1 : decode cX4_product 1 = .ok (.lload_n 3, 1) := by decide +kernel
theorem dX4_product_2 : decode cX4_product 2 = .ok (.lmul, 1) := by decide +kernel
theorem dX4_product_3 : decode cX4_product 3 = .ok (.lstore 5, 2) := by decide +kernel
theorem dX4_product_5 : decode cX4_product 5 = .ok (.aload_n 0, 1) := by decide +kernel
theorem dX4_product_6 : decode cX4_product 6 = .ok (.dup, 1) := by decide +kernel
theorem dX4_product_7 : decode cX4_product 7 = .ok (.getfield 15, 3) := by decide +kernel
theorem dX4_product_10 : decode cX4_product 10 = .ok (.lload_n 3, 1) := by decide +kernel
theorem dX4_product_11 : decode cX4_product 11 = .ok (.ldc2_w 63, 3) := by decide +kernel
theorem dX4_product_14 : decode cX4_product 14 = .ok (.lcmp, 1) := by decide +kernel
theorem dX4_product_15 : decode cX4_product 15 = .ok (.ifCond .ne 19, 3) := by decide +kernel
theorem dX4_product_18 : decode cX4_product 18 = .ok (.lload_n 1, 1) := by decide +kernel
theorem dX4_product_19 : decode cX4_product 19 = .ok (.ldc2_w 67, 3) := by decide +kernel
theorem dX4_product_22 : decode cX4_product 22 = .ok (.lcmp, 1) := by decide +kernel
theorem dX4_product_23 : decode cX4_product 23 = .ok (.ifCond .ne 7, 3) := by decide +kernel
theorem dX4_product_26 : decode cX4_product 26 = .ok (.iconst 1, 1) := by decide +kernel
theorem dX4_product_27 : decode cX4_product 27 = .ok (.goto 27, 3) := by decide +kernel
theorem dX4_product_30 : decode cX4_product 30 = .ok (.iconst 0, 1) := by decide +kernel
theorem dX4_product_31 : decode cX4_product 31 = .ok (.goto 23, 3) := by decide +kernel
theorem dX4_product_34 : decode cX4_product 34 = .ok (.lload_n 3, 1) := by decide +kernel
theorem dX4_product_35 : decode cX4_product 35 = .ok (.lconst 0, 1) := by decide +kernel
theorem dX4_product_36 : decode cX4_product 36 = .ok (.lcmp, 1) := by decide +kernel
theorem dX4_product_37 : decode cX4_product 37 = .ok (.ifCond .eq 16, 3) := by decide +kernel
theorem dX4_product_40 : decode cX4_product 40 = .ok (.lload 5, 2) := by decide +kernel
theorem dX4_product_42 : decode cX4_product 42 = .ok (.lload_n 3, 1) := by decide +kernel
theorem dX4_product_43 : decode cX4_product 43 = .ok (.ldiv, 1) := by decide +kernel
theorem dX4_product_44 : decode cX4_product 44 = .ok (.lload_n 1, 1) := by decide +kernel
theorem dX4_product_45 : decode cX4_product 45 = .ok (.lcmp, 1) := by decide +kernel
theorem dX4_product_46 : decode cX4_product 46 = .ok (.ifCond .eq 7, 3) := by decide +kernel
theorem dX4_product_49 : decode cX4_product 49 = .ok (.iconst 1, 1) := by decide +kernel
theorem dX4_product_50 : decode cX4_product 50 = .ok (.goto 4, 3) := by decide +kernel
theorem dX4_product_53 : decode cX4_product 53 = .ok (.iconst 0, 1) := by decide +kernel
theorem dX4_product_54 : decode cX4_product 54 = .ok (.ior, 1) := by decide +kernel
theorem dX4_product_55 : decode cX4_product 55 = .ok (.putfield 15, 3) := by decide +kernel
theorem dX4_product_58 : decode cX4_product 58 = .ok (.lload 5, 2) := by decide +kernel
theorem dX4_product_60 : decode cX4_product 60 = .ok (.lreturn, 1) := by decide +kernel
theorem dX5_init_0 : decode cX5_init 0 = .ok (.aload_n 0, 1) := by decide +kernel
theorem dX5_init_1 : decode cX5_init 1 = .ok (.invokespecial 3, 3) := by decide +kernel
theorem dX5_init_4 : decode cX5_init 4 = .ok (.aload_n 0, 1) := by decide +kernel
theorem dX5_init_5 : decode cX5_init 5 = .ok (.bipush 7, 2) := by decide +kernel
theorem dX5_init_7 : decode cX5_init 7 = .ok (.putfield 9, 3) := by decide +kernel
theorem dX5_init_10 : decode cX5_init 10 = .ok (.aload_n 0, 1) := by decide +kernel
theorem dX5_init_11 : decode cX5_init 11 = .ok (.iconst 4, 1) := by decide +kernel
theorem dX5_init_12 : decode cX5_init 12 = .ok (.putfield 15, 3) := by decide +kernel
theorem dX5_init_15 : decode cX5_init 15 = .ok (.aload_n 0, 1) := by decide +kernel
theorem dX5_init_16 : decode cX5_init 16 = .ok (.iconst 0, 1) := by decide +kernel
theorem dX5_init_17 : decode cX5_init 17 = .ok (.putfield 18, 3) := by decide +kernel
theorem dX5_init_20 : decode cX5_init 20 = .ok (.aload_n 0, 1) := by decide +kernel
theorem dX5_init_21 : decode cX5_init 21 = .ok (.bipush 120, 2) := by decide +kernel
theorem dX5_init_23 : decode cX5_init 23 = .ok (.newarray .int, 2) := by decide +kernel
theorem dX5_init_25 : decode cX5_init 25 = .ok (.putfield 21, 3) := by decide +kernel
theorem dX5_init_28 : decode cX5_init 28 = .ok (.aload_n 0, 1) := by decide +kernel
theorem dX5_init_29 : decode cX5_init 29 = .ok (.new 25, 3) := by decide +kernel
theorem dX5_init_32 : decode cX5_init 32 = .ok (.dup, 1) := by decide +kernel
theorem dX5_init_33 : decode cX5_init 33 = .ok (.invokespecial 27, 3) := by decide +kernel
theorem dX5_init_36 : decode cX5_init 36 = .ok (.putfield 28, 3) := by decide +kernel
theorem dX5_init_39 : decode cX5_init 39 = .ok (.return_, 1) := by decide +kernel
theorem dX5_fill_0 : decode cX5_fill 0 = .ok (.aload_n 0, 1) := by decide +kernel
theorem dX5_fill_1 : decode cX5_fill 1 = .ok (.aload_n 1, 1) := by decide +kernel
theorem dX5_fill_2 : decode cX5_fill 2 = .ok (.getfield 32, 3) := by decide +kernel
theorem dX5_fill_5 : decode cX5_fill 5 = .ok (.putfield 9, 3) := by decide +kernel
theorem dX5_fill_8 : decode cX5_fill 8 = .ok (.aload_n 0, 1) := by decide +kernel
theorem dX5_fill_9 : decode cX5_fill 9 = .ok (.aload_n 1, 1) := by decide +kernel
theorem dX5_fill_10 : decode cX5_fill 10 = .ok (.getfield 35, 3) := by decide +kernel
theorem dX5_fill_13 : decode cX5_fill 13 = .ok (.putfield 15, 3) := by decide +kernel
theorem dX5_fill_16 : decode cX5_fill 16 = .ok (.aload_n 0, 1) := by decide +kernel
theorem dX5_fill_17 : decode cX5_fill 17 = .ok (.aload_n 1, 1) := by decide +kernel
theorem dX5_fill_18 : decode cX5_fill 18 = .ok (.getfield 36, 3) := by decide +kernel
theorem dX5_fill_21 : decode cX5_fill 21 = .ok (.putfield 18, 3) := by decide +kernel
theorem dX5_fill_24 : decode cX5_fill 24 = .ok (.iconst 0, 1) := by decide +kernel
theorem dX5_fill_25 : decode cX5_fill 25 = .ok (.istore_n 2, 1) := by decide +kernel
theorem dX5_fill_26 : decode cX5_fill 26 = .ok (.iload_n 2, 1) := by decide +kernel
theorem dX5_fill_27 : decode cX5_fill 27 = .ok (.aload_n 0, 1) := by decide +kernel
theorem dX5_fill_28 : decode cX5_fill 28 = .ok (.getfield 18, 3) := by decide +kernel
theorem dX5_fill_31 : decode cX5_fill 31 = .ok (.if_icmp .ge 64, 3) := by decide +kernel
theorem dX5_fill_34 : decode cX5_fill 34 = .ok (.iconst 0, 1) := by decide +kernel
theorem dX5_fill_35 : decode cX5_fill 35 = .ok (.istore_n 3, 1) := by decide +kernel
theorem dX5_fill_36 : decode cX5_fill 36 = .ok (.iload_n 3, 1) := by decide +kernel
theorem dX5_fill_37 : decode cX5_fill 37 = .ok (.aload_n 0, 1) := by decide +kernel
theorem dX5_fill_38 : decode cX5_fill 38 = .ok (.getfield 15, 3) := by decide +kernel
theorem dX5_fill_41 : decode cX5_fill 41 = .ok (.if_icmp .ge 48, 3) := by decide +kernel
theorem dX5_fill_44 : decode cX5_fill 44 = .ok (.aload_n 0, 1) := by decide +kernel
theorem dX5_fill_45 : decode cX5_fill 45 = .ok (.getfield 21, 3) := by decide +kernel
theorem dX5_fill_48 : decode cX5_fill 48 = .ok (.iload_n 2, 1) := by decide +kernel
theorem dX5_fill_49 : decode cX5_fill 49 = .ok (.bipush 12, 2) := by decide +kernel
theorem dX5_fill_51 : decode cX5_fill 51 = .ok (.imul, 1) := by decide +kernel
theorem dX5_fill_52 : decode cX5_fill 52 = .ok (.iload_n 3, 1) := by decide +kernel
theorem dX5_fill_53 : decode cX5_fill 53 = .ok (.iadd, 1) := by decide +kernel
theorem dX5_fill_54 : decode cX5_fill 54 = .ok (.aload_n 1, 1) := by decide +kernel
theorem dX5_fill_55 : decode cX5_fill 55 = .ok (.iload_n 2, 1) := by decide +kernel
theorem dX5_fill_56 : decode cX5_fill 56 = .ok (.iconst 0, 1) := by decide +kernel
end
section
theorem dX5_fill_57 : decode cX5_fill 57 = .ok (.iload_n 3, 1) := by decide +kernel
theorem dX5_fill_58 : decode cX5_fill 58 = .ok (.invokevirtual 37, 3) := by decide +kernel
theorem dX5_fill_61 : decode cX5_fill 61 = .ok (.iastore, 1) := by decide +kernel
theorem dX5_fill_62 : decode cX5_fill 62 = .ok (.aload_n 0, 1) := by decide +kernel
theorem dX5_fill_63 : decode cX5_fill 63 = .ok (.getfield 21, 3) := by decide +kernel
theorem dX5_fill_66 : decode cX5_fill 66 = .ok (.iload_n 2, 1) := by decide +kernel
theorem dX5_fill_67 : decode cX5_fill 67 = .ok (.bipush 12, 2) := by decide +kernel
theorem dX5_fill_69 : decode cX5_fill 69 = .ok (.imul, 1) := by decide +kernel
theorem dX5_fill_70 : decode cX5_fill 70 = .ok (.bipush 6, 2) := by decide +kernel
theorem dX5_fill_72 : decode cX5_fill 72 = .ok (.iadd, 1) := by decide +kernel
theorem dX5_fill_73 : decode cX5_fill 73 = .ok (.iload_n 3, 1) := by decide +kernel
theorem dX5_fill_74 : decode cX5_fill 74 = .ok (.iadd, 1) := by decide +kernel
theorem dX5_fill_75 : decode cX5_fill 75 = .ok (.aload_n 1, 1) := by decide +kernel
theorem dX5_fill_76 : decode cX5_fill 76 = .ok (.iload_n 2, 1) := by decide +kernel
theorem dX5_fill_77 : decode cX5_fill 77 = .ok (.iconst 1, 1) := by decide +kernel
theorem dX5_fill_78 : decode cX5_fill 78 = .ok (.iload_n 3, 1) := by decide +kernel
theorem dX5_fill_79 : decode cX5_fill 79 = .ok (.invokevirtual 37, 3) := by decide +kernel
theorem dX5_fill_82 : decode cX5_fill 82 = .ok (.iastore, 1) := by decide +kernel
theorem dX5_fill_83 : decode cX5_fill 83 = .ok (.iinc 3 1, 3) := by decide +kernel
theorem dX5_fill_86 : decode cX5_fill 86 = .ok (.goto (-50), 3) := by decide +kernel
theorem dX5_fill_89 : decode cX5_fill 89 = .ok (.iinc 2 1, 3) := by decide +kernel
theorem dX5_fill_92 : decode cX5_fill 92 = .ok (.goto (-66), 3) := by decide +kernel
theorem dX5_fill_95 : decode cX5_fill 95 = .ok (.return_, 1) := by decide +kernel
theorem dX5_rankOf_0 : decode cX5_rankOf 0 = .ok (.aload_n 0, 1) := by decide +kernel
theorem dX5_rankOf_1 : decode cX5_rankOf 1 = .ok (.getfield 28, 3) := by decide +kernel
theorem dX5_rankOf_4 : decode cX5_rankOf 4 = .ok (.aload_n 0, 1) := by decide +kernel
theorem dX5_rankOf_5 : decode cX5_rankOf 5 = .ok (.getfield 9, 3) := by decide +kernel
theorem dX5_rankOf_8 : decode cX5_rankOf 8 = .ok (.aload_n 0, 1) := by decide +kernel
theorem dX5_rankOf_9 : decode cX5_rankOf 9 = .ok (.getfield 15, 3) := by decide +kernel
theorem dX5_rankOf_12 : decode cX5_rankOf 12 = .ok (.iload_n 2, 1) := by decide +kernel
theorem dX5_rankOf_13 : decode cX5_rankOf 13 = .ok (.invokevirtual 41, 3) := by decide +kernel
theorem dX5_rankOf_16 : decode cX5_rankOf 16 = .ok (.iconst 0, 1) := by decide +kernel
theorem dX5_rankOf_17 : decode cX5_rankOf 17 = .ok (.istore_n 3, 1) := by decide +kernel
theorem dX5_rankOf_18 : decode cX5_rankOf 18 = .ok (.iload_n 3, 1) := by decide +kernel
theorem dX5_rankOf_19 : decode cX5_rankOf 19 = .ok (.aload_n 0, 1) := by decide +kernel
theorem dX5_rankOf_20 : decode cX5_rankOf 20 = .ok (.getfield 18, 3) := by decide +kernel
theorem dX5_rankOf_23 : decode cX5_rankOf 23 = .ok (.if_icmp .ge 51, 3) := by decide +kernel
theorem dX5_rankOf_26 : decode cX5_rankOf 26 = .ok (.iload_n 1, 1) := by decide +kernel
theorem dX5_rankOf_27 : decode cX5_rankOf 27 = .ok (.iload_n 3, 1) := by decide +kernel
theorem dX5_rankOf_28 : decode cX5_rankOf 28 = .ok (.ishr, 1) := by decide +kernel
theorem dX5_rankOf_29 : decode cX5_rankOf 29 = .ok (.iconst 1, 1) := by decide +kernel
theorem dX5_rankOf_30 : decode cX5_rankOf 30 = .ok (.iand, 1) := by decide +kernel
theorem dX5_rankOf_31 : decode cX5_rankOf 31 = .ok (.iconst 1, 1) := by decide +kernel
theorem dX5_rankOf_32 : decode cX5_rankOf 32 = .ok (.if_icmp .ne 36, 3) := by decide +kernel
theorem dX5_rankOf_35 : decode cX5_rankOf 35 = .ok (.aload_n 0, 1) := by decide +kernel
theorem dX5_rankOf_36 : decode cX5_rankOf 36 = .ok (.getfield 28, 3) := by decide +kernel
theorem dX5_rankOf_39 : decode cX5_rankOf 39 = .ok (.aload_n 0, 1) := by decide +kernel
theorem dX5_rankOf_40 : decode cX5_rankOf 40 = .ok (.getfield 21, 3) := by decide +kernel
theorem dX5_rankOf_43 : decode cX5_rankOf 43 = .ok (.iload_n 3, 1) := by decide +kernel
theorem dX5_rankOf_44 : decode cX5_rankOf 44 = .ok (.bipush 12, 2) := by decide +kernel
theorem dX5_rankOf_46 : decode cX5_rankOf 46 = .ok (.imul, 1) := by decide +kernel
theorem dX5_rankOf_47 : decode cX5_rankOf 47 = .ok (.invokevirtual 45, 3) := by decide +kernel
theorem dX5_rankOf_50 : decode cX5_rankOf 50 = .ok (.aload_n 0, 1) := by decide +kernel
theorem dX5_rankOf_51 : decode cX5_rankOf 51 = .ok (.getfield 28, 3) := by decide +kernel
theorem dX5_rankOf_54 : decode cX5_rankOf 54 = .ok (.aload_n 0, 1) := by decide +kernel
theorem dX5_rankOf_55 : decode cX5_rankOf 55 = .ok (.getfield 21, 3) := by decide +kernel
theorem dX5_rankOf_58 : decode cX5_rankOf 58 = .ok (.iload_n 3, 1) := by decide +kernel
theorem dX5_rankOf_59 : decode cX5_rankOf 59 = .ok (.bipush 12, 2) := by decide +kernel
theorem dX5_rankOf_61 : decode cX5_rankOf 61 = .ok (.imul, 1) := by decide +kernel
theorem dX5_rankOf_62 : decode cX5_rankOf 62 = .ok (.bipush 6, 2) := by decide +kernel
theorem dX5_rankOf_64 : decode cX5_rankOf 64 = .ok (.iadd, 1) := by decide +kernel
theorem dX5_rankOf_65 : decode cX5_rankOf 65 = .ok (.invokevirtual 45, 3) := by decide +kernel
theorem dX5_rankOf_68 : decode cX5_rankOf 68 = .ok (.iinc 3 1, 3) := by decide +kernel
theorem dX5_rankOf_71 : decode cX5_rankOf 71 = .ok (.goto (-53), 3) := by decide +kernel
theorem dX5_rankOf_74 : decode cX5_rankOf 74 = .ok (.aload_n 0, 1) := by decide +kernel
theorem dX5_rankOf_75 : decode cX5_rankOf 75 = .ok (.getfield 28, 3) := by decide +kernel
theorem dX5_rankOf_78 : decode cX5_rankOf 78 = .ok (.getfield 49, 3) := by decide +kernel
theorem dX5_rankOf_81 : decode cX5_rankOf 81 = .ok (.ireturn, 1) := by decide +kernel
theorem dX5_isStanding_0 : decode cX5_isStanding 0 = .ok (.iconst 2, 1) := by decide +kernel
theorem dX5_isStanding_1 : decode cX5_isStanding 1 = .ok (.iload_n 1, 1) := by decide +kernel
theorem dX5_isStanding_2 : decode cX5_isStanding 2 = .ok (.invokestatic 52, 3) := by decide +kernel
theorem dX5_isStanding_5 : decode cX5_isStanding 5 = .ok (.imul, 1) := by decide +kernel
theorem dX5_isStanding_6 : decode cX5_isStanding 6 = .ok (.istore_n 2, 1) := by decide +kernel
theorem dX5_isStanding_7 : decode cX5_isStanding 7 = .ok (.iload_n 2, 1) := by decide +kernel
theorem dX5_isStanding_8 : decode cX5_isStanding 8 = .ok (.aload_n 0, 1) := by decide +kernel
theorem dX5_isStanding_9 : decode cX5_isStanding 9 = .ok (.getfield 15, 3) := by decide +kernel
theorem dX5_isStanding_12 : decode cX5_isStanding 12 = .ok (.if_icmp .gt 17, 3) := by decide +kernel
theorem dX5_isStanding_15 : decode cX5_isStanding 15 = .ok (.aload_n 0, 1) := by decide +kernel
theorem dX5_isStanding_16 : decode cX5_isStanding 16 = .ok (.iload_n 1, 1) := by decide +kernel
theorem dX5_isStanding_17 : decode cX5_isStanding 17 = .ok (.iconst 0, 1) := by decide +kernel
theorem dX5_isStanding_18 : decode cX5_isStanding 18 = .ok (.invokevirtual 58, 3) := by decide +kernel
theorem dX5_isStanding_21 : decode cX5_isStanding 21 = .ok (.iload_n 2, 1) := by decide +kernel
theorem dX5_isStanding_22 : decode cX5_isStanding 22 = .ok (.if_icmp .ne 7, 3) := by decide +kernel
theorem dX5_isStanding_25 : decode cX5_isStanding 25 = .ok (.iconst 1, 1) := by decide +kernel
theorem dX5_isStanding_26 : decode cX5_isStanding 26 = .ok (.goto 4, 3) := by decide +kernel
theorem dX5_isStanding_29 : decode cX5_isStanding 29 = .ok (.iconst 0, 1) := by decide +kernel
theorem dX5_isStanding_30 : decode cX5_isStanding 30 = .ok (.ireturn, 1) := by decide +kernel
theorem dX5_coverBy_0 : decode cX5_coverBy 0 = .ok (.iload_n 1, 1) := by decide +kernel
theorem dX5_coverBy_1 : decode cX5_coverBy 1 = .ok (.invokestatic 52, 3) := by decide +kernel
theorem dX5_coverBy_4 : decode cX5_coverBy 4 = .ok (.istore_n 3, 1) := by decide +kernel
theorem dX5_coverBy_5 : decode cX5_coverBy 5 = .ok (.iconst 0, 1) := by decide +kernel
theorem dX5_coverBy_6 : decode cX5_coverBy 6 = .ok (.istore 4, 2) := by decide +kernel
theorem dX5_coverBy_8 : decode cX5_coverBy 8 = .ok (.iload 4, 2) := by decide +kernel
theorem dX5_coverBy_10 : decode cX5_coverBy 10 = .ok (.aload_n 0, 1) := by decide +kernel
theorem dX5_coverBy_11 : decode cX5_coverBy 11 = .ok (.getfield 18, 3) := by decide +kernel
theorem dX5_coverBy_14 : decode cX5_coverBy 14 = .ok (.if_icmp .ge 61, 3) := by decide +kernel
theorem dX5_coverBy_17 : decode cX5_coverBy 17 = .ok (.iconst 0, 1) := by decide +kernel
theorem dX5_coverBy_18 : decode cX5_coverBy 18 = .ok (.istore 5, 2) := by decide +kernel
theorem dX5_coverBy_20 : decode cX5_coverBy 20 = .ok (.iload 4, 2) := by decide +kernel
theorem dX5_coverBy_22 : decode cX5_coverBy 22 = .ok (.istore 6, 2) := by decide +kernel
theorem dX5_coverBy_24 : decode cX5_coverBy 24 = .ok (.iload 6, 2) := by decide +kernel
theorem dX5_coverBy_26 : decode cX5_coverBy 26 = .ok (.aload_n 0, 1) := by decide +kernel
theorem dX5_coverBy_27 : decode cX5_coverBy 27 = .ok (.getfield 18, 3) := by decide +kernel
theorem dX5_coverBy_30 : decode cX5_coverBy 30 = .ok (.if_icmp .ge 27, 3) := by decide +kernel
theorem dX5_coverBy_33 : decode cX5_coverBy 33 = .ok (.aload_n 2, 1) := by decide +kernel
theorem dX5_coverBy_34 : decode cX5_coverBy 34 = .ok (.iload 6, 2) := by decide +kernel
theorem dX5_coverBy_36 : decode cX5_coverBy 36 = .ok (.iaload, 1) := by decide +kernel
theorem dX5_coverBy_37 : decode cX5_coverBy 37 = .ok (.iload 4, 2) := by decide +kernel
theorem dX5_coverBy_39 : decode cX5_coverBy 39 = .ok (.if_icmp .ne 12, 3) := by decide +kernel
theorem dX5_coverBy_42 : decode cX5_coverBy 42 = .ok (.iload 5, 2) := by decide +kernel
theorem dX5_coverBy_44 : decode cX5_coverBy 44 = .ok (.iconst 1, 1) := by decide +kernel
theorem dX5_coverBy_45 : decode cX5_coverBy 45 = .ok (.iload 6, 2) := by decide +kernel
theorem dX5_coverBy_47 : decode cX5_coverBy 47 = .ok (.ishl, 1) := by decide +kernel
theorem dX5_coverBy_48 : decode cX5_coverBy 48 = .ok (.ior, 1) := by decide +kernel
theorem dX5_coverBy_49 : decode cX5_coverBy 49 = .ok (.istore 5, 2) := by decide +kernel
theorem dX5_coverBy_51 : decode cX5_coverBy 51 = .ok (.iinc 6 1, 3) := by decide +kernel
theorem dX5_coverBy_54 : decode cX5_coverBy 54 = .ok (.goto (-30), 3) := by decide +kernel
theorem dX5_coverBy_57 : decode cX5_coverBy 57 = .ok (.iload_n 3, 1) := by decide +kernel
theorem dX5_coverBy_58 : decode cX5_coverBy 58 = .ok (.aload_n 0, 1) := by decide +kernel
theorem dX5_coverBy_59 : decode cX5_coverBy 59 = .ok (.iload 5, 2) := by decide +kernel
theorem dX5_coverBy_61 : decode cX5_coverBy 61 = .ok (.iload_n 1, 1) := by decide +kernel
theorem dX5_coverBy_62 : decode cX5_coverBy 62 = .ok (.invokevirtual 58, 3) := by decide +kernel
theorem dX5_coverBy_65 : decode cX5_coverBy 65 = .ok (.iconst 2, 1) := by decide +kernel
theorem dX5_coverBy_66 : decode cX5_coverBy 66 = .ok (.idiv, 1) := by decide +kernel
theorem dX5_coverBy_67 : decode cX5_coverBy 67 = .ok (.iadd, 1) := by decide +kernel
theorem dX5_coverBy_68 : decode cX5_coverBy 68 = .ok (.istore_n 3, 1) := by decide +kernel
theorem dX5_coverBy_69 : decode cX5_coverBy 69 = .ok (.iinc 4 1, 3) := by decide +kernel
theorem dX5_coverBy_72 : decode cX5_coverBy 72 = .ok (.goto (-64), 3) := by decide +kernel
theorem dX5_coverBy_75 : decode cX5_coverBy 75 = .ok (.iload_n 3, 1) := by decide +kernel
theorem dX5_coverBy_76 : decode cX5_coverBy 76 = .ok (.ireturn, 1) := by decide +kernel
theorem dX5_difference_0 : decode cX5_difference 0 = .ok (.iload_n 1, 1) := by decide +kernel
theorem dX5_difference_1 : decode cX5_difference 1 = .ok (.bipush 12, 2) := by decide +kernel
theorem dX5_difference_3 : decode cX5_difference 3 = .ok (.imul, 1) := by decide +kernel
theorem dX5_difference_4 : decode cX5_difference 4 = .ok (.istore 4, 2) := by decide +kernel
theorem dX5_difference_6 : decode cX5_difference 6 = .ok (.iload 4, 2) := by decide +kernel
theorem dX5_difference_8 : decode cX5_difference 8 = .ok (.bipush 6, 2) := by decide +kernel
theorem dX5_difference_10 : decode cX5_difference 10 = .ok (.iadd, 1) := by decide +kernel
theorem dX5_difference_11 : decode cX5_difference 11 = .ok (.istore 5, 2) := by decide +kernel
theorem dX5_difference_13 : decode cX5_difference 13 = .ok (.aload_n 0, 1) := by decide +kernel
theorem dX5_difference_14 : decode cX5_difference 14 = .ok (.getfield 21, 3) := by decide +kernel
theorem dX5_difference_17 : decode cX5_difference 17 = .ok (.iload 4, 2) := by decide +kernel
theorem dX5_difference_19 : decode cX5_difference 19 = .ok (.iload_n 2, 1) := by decide +kernel
theorem dX5_difference_20 : decode cX5_difference 20 = .ok (.iadd, 1) := by decide +kernel
theorem dX5_difference_21 : decode cX5_difference 21 = .ok (.iaload, 1) := by decide +kernel
theorem dX5_difference_22 : decode cX5_difference 22 = .ok (.aload_n 0, 1) := by decide +kernel
theorem dX5_difference_23 : decode cX5_difference 23 = .ok (.getfield 21, 3) := by decide +kernel
theorem dX5_difference_26 : decode cX5_difference 26 = .ok (.iload 5, 2) := by decide +kernel
theorem dX5_difference_28 : decode cX5_difference 28 = .ok (.iload_n 3, 1) := by decide +kernel
theorem dX5_difference_29 : decode cX5_difference 29 = .ok (.iadd, 1) := by decide +kernel
theorem dX5_difference_30 : decode cX5_difference 30 = .ok (.iaload, 1) := by decide +kernel
theorem dX5_difference_31 : decode cX5_difference 31 = .ok (.imul, 1) := by decide +kernel
theorem dX5_difference_32 : decode cX5_difference 32 = .ok (.aload_n 0, 1) := by decide +kernel
theorem dX5_difference_33 : decode cX5_difference 33 = .ok (.getfield 21, 3) := by decide +kernel
theorem dX5_difference_36 : decode cX5_difference 36 = .ok (.iload 5, 2) := by decide +kernel
theorem dX5_difference_38 : decode cX5_difference 38 = .ok (.iload_n 2, 1) := by decide +kernel
theorem dX5_difference_39 : decode cX5_difference 39 = .ok (.iadd, 1) := by decide +kernel
theorem dX5_difference_40 : decode cX5_difference 40 = .ok (.iaload, 1) := by decide +kernel
theorem dX5_difference_41 : decode cX5_difference 41 = .ok (.aload_n 0, 1) := by decide +kernel
theorem dX5_difference_42 : decode cX5_difference 42 = .ok (.getfield 21, 3) := by decide +kernel
theorem dX5_difference_45 : decode cX5_difference 45 = .ok (.iload 4, 2) := by decide +kernel
theorem dX5_difference_47 : decode cX5_difference 47 = .ok (.iload_n 3, 1) := by decide +kernel
theorem dX5_difference_48 : decode cX5_difference 48 = .ok (.iadd, 1) := by decide +kernel
theorem dX5_difference_49 : decode cX5_difference 49 = .ok (.iaload, 1) := by decide +kernel
theorem dX5_difference_50 : decode cX5_difference 50 = .ok (.imul, 1) := by decide +kernel
theorem dX5_difference_51 : decode cX5_difference 51 = .ok (.isub, 1) := by decide +kernel
theorem dX5_difference_52 : decode cX5_difference 52 = .ok (.ireturn, 1) := by decide +kernel
theorem dX6_init_0 : decode cX6_init 0 = .ok (.aload_n 0, 1) := by decide +kernel
theorem dX6_init_1 : decode cX6_init 1 = .ok (.invokespecial 3, 3) := by decide +kernel
theorem dX6_init_4 : decode cX6_init 4 = .ok (.aload_n 0, 1) := by decide +kernel
theorem dX6_init_5 : decode cX6_init 5 = .ok (.iconst (-1), 1) := by decide +kernel
theorem dX6_init_6 : decode cX6_init 6 = .ok (.putfield 9, 3) := by decide +kernel
theorem dX6_init_9 : decode cX6_init 9 = .ok (.aload_n 0, 1) := by decide +kernel
theorem dX6_init_10 : decode cX6_init 10 = .ok (.iconst 0, 1) := by decide +kernel
theorem dX6_init_11 : decode cX6_init 11 = .ok (.putfield 15, 3) := by decide +kernel
theorem dX6_init_14 : decode cX6_init 14 = .ok (.aload_n 0, 1) := by decide +kernel
theorem dX6_init_15 : decode cX6_init 15 = .ok (.bipush 30, 2) := by decide +kernel
theorem dX6_init_17 : decode cX6_init 17 = .ok (.newarray .long, 2) := by decide +kernel
theorem dX6_init_19 : decode cX6_init 19 = .ok (.putfield 18, 3) := by decide +kernel
theorem dX6_init_22 : decode cX6_init 22 = .ok (.return_, 1) := by decide +kernel
theorem dX6_become_0 : decode cX6_become 0 = .ok (.aload_n 0, 1) := by decide +kernel
theorem dX6_become_1 : decode cX6_become 1 = .ok (.iload_n 1, 1) := by decide +kernel
theorem dX6_become_2 : decode cX6_become 2 = .ok (.putfield 9, 3) := by decide +kernel
theorem dX6_become_5 : decode cX6_become 5 = .ok (.aload_n 0, 1) := by decide +kernel
theorem dX6_become_6 : decode cX6_become 6 = .ok (.iload_n 2, 1) := by decide +kernel
theorem dX6_become_7 : decode cX6_become 7 = .ok (.putfield 15, 3) := by decide +kernel
theorem dX6_become_10 : decode cX6_become 10 = .ok (.iconst 0, 1) := by decide +kernel
theorem dX6_become_11 : decode cX6_become 11 = .ok (.istore_n 3, 1) := by decide +kernel
theorem dX6_become_12 : decode cX6_become 12 = .ok (.iload_n 3, 1) := by decide +kernel
theorem dX6_become_13 : decode cX6_become 13 = .ok (.aload_n 0, 1) := by decide +kernel
theorem dX6_become_14 : decode cX6_become 14 = .ok (.getfield 15, 3) := by decide +kernel
theorem dX6_become_17 : decode cX6_become 17 = .ok (.if_icmp .ge 16, 3) := by decide +kernel
theorem dX6_become_20 : decode cX6_become 20 = .ok (.aload_n 0, 1) := by decide +kernel
theorem dX6_become_21 : decode cX6_become 21 = .ok (.getfield 18, 3) := by decide +kernel
theorem dX6_become_24 : decode cX6_become 24 = .ok (.iload_n 3, 1) := by decide +kernel
theorem dX6_become_25 : decode cX6_become 25 = .ok (.lconst 0, 1) := by decide +kernel
theorem dX6_become_26 : decode cX6_become 26 = .ok (.lastore, 1) := by decide +kernel
theorem dX6_become_27 : decode cX6_become 27 = .ok (.iinc 3 1, 3) := by decide +kernel
theorem dX6_become_30 : decode cX6_become 30 = .ok (.goto (-18), 3) := by decide +kernel
theorem dX6_become_33 : decode cX6_become 33 = .ok (.return_, 1) := by decide +kernel
theorem dX6_isMissing_0 : decode cX6_isMissing 0 = .ok (.aload_n 0, 1) := by decide +kernel
theorem dX6_isMissing_1 : decode cX6_isMissing 1 = .ok (.getfield 9, 3) := by decide +kernel
theorem dX6_isMissing_4 : decode cX6_isMissing 4 = .ok (.iconst (-1), 1) := by decide +kernel
theorem dX6_isMissing_5 : decode cX6_isMissing 5 = .ok (.if_icmp .ne 7, 3) := by decide +kernel
theorem dX6_isMissing_8 : decode cX6_isMissing 8 = .ok (.iconst 1, 1) := by decide +kernel
theorem dX6_isMissing_9 : decode cX6_isMissing 9 = .ok (.goto 4, 3) := by decide +kernel
theorem dX6_isMissing_12 : decode cX6_isMissing 12 = .ok (.iconst 0, 1) := by decide +kernel
theorem dX6_isMissing_13 : decode cX6_isMissing 13 = .ok (.ireturn, 1) := by decide +kernel
theorem dX6_has_0 : decode cX6_has 0 = .ok (.iload_n 1, 1) := by decide +kernel
theorem dX6_has_1 : decode cX6_has 1 = .ok (.ifCond .lt 15, 3) := by decide +kernel
theorem dX6_has_4 : decode cX6_has 4 = .ok (.iload_n 1, 1) := by decide +kernel
theorem dX6_has_5 : decode cX6_has 5 = .ok (.aload_n 0, 1) := by decide +kernel
theorem dX6_has_6 : decode cX6_has 6 = .ok (.getfield 15, 3) := by decide +kernel
theorem dX6_has_9 : decode cX6_has 9 = .ok (.if_icmp .ge 7, 3) := by decide +kernel
theorem dX6_has_12 : decode cX6_has 12 = .ok (.iconst 1, 1) := by decide +kernel
theorem dX6_has_13 : decode cX6_has 13 = .ok (.goto 4, 3) := by decide +kernel
theorem dX6_has_16 : decode cX6_has 16 = .ok (.iconst 0, 1) := by decide +kernel
theorem dX6_has_17 : decode cX6_has 17 = .ok (.ireturn, 1) := by decide +kernel
theorem dX6_numberFor_0 : decode cX6_numberFor 0 = .ok (.aload_n 0, 1) := by decide +kernel
theorem dX6_numberFor_1 : decode cX6_numberFor 1 = .ok (.iload_n 1, 1) := by decide +kernel
theorem dX6_numberFor_2 : decode cX6_numberFor 2 = .ok (.invokevirtual 22, 3) := by decide +kernel
theorem dX6_numberFor_5 : decode cX6_numberFor 5 = .ok (.ifCond .eq 12, 3) := by decide +kernel
theorem dX6_numberFor_8 : decode cX6_numberFor 8 = .ok (.aload_n 0, 1) := by decide +kernel
theorem dX6_numberFor_9 : decode cX6_numberFor 9 = .ok (.getfield 18, 3) := by decide +kernel
theorem dX6_numberFor_12 : decode cX6_numberFor 12 = .ok (.iload_n 1, 1) := by decide +kernel
theorem dX6_numberFor_13 : decode cX6_numberFor 13 = .ok (.laload, 1) := by decide +kernel
theorem dX6_numberFor_14 : decode cX6_numberFor 14 = .ok (.goto 4, 3) := by decide +kernel
theorem dX6_numberFor_17 : decode cX6_numberFor 17 = .ok (.lconst 0, 1) := by decide +kernel
theorem dX6_numberFor_18 : decode cX6_numberFor 18 = .ok (.lreturn, 1) := by decide +kernel
theorem dX7_init_0 : decode cX7_init 0 = .ok (.aload_n 0, 1) := by decide +kernel
theorem dX7_init_1 : decode cX7_init 1 = .ok (.invokespecial 3, 3) := by decide +kernel
theorem dX7_init_4 : decode cX7_init 4 = .ok (.aload_n 0, 1) := by decide +kernel
theorem dX7_init_5 : decode cX7_init 5 = .ok (.bipush 6, 2) := by decide +kernel
theorem dX7_init_7 : decode cX7_init 7 = .ok (.newarray .int, 2) := by decide +kernel
theorem dX7_init_9 : decode cX7_init 9 = .ok (.putfield 9, 3) := by decide +kernel
theorem dX7_init_12 : decode cX7_init 12 = .ok (.aload_n 0, 1) := by decide +kernel
theorem dX7_init_13 : decode cX7_init 13 = .ok (.new 15, 3) := by decide +kernel
theorem dX7_init_16 : decode cX7_init 16 = .ok (.dup, 1) := by decide +kernel
theorem dX7_init_17 : decode cX7_init 17 = .ok (.invokespecial 17, 3) := by decide +kernel
theorem dX7_init_20 : decode cX7_init 20 = .ok (.putfield 18, 3) := by decide +kernel
theorem dX7_init_23 : decode cX7_init 23 = .ok (.return_, 1) := by decide +kernel
theorem dX7_numberAt_0 : decode cX7_numberAt 0 = .ok (.iconst 0, 1) := by decide +kernel
theorem dX7_numberAt_1 : decode cX7_numberAt 1 = .ok (.istore 5, 2) := by decide +kernel
theorem dX7_numberAt_3 : decode cX7_numberAt 3 = .ok (.iconst 0, 1) := by decide +kernel
theorem dX7_numberAt_4 : decode cX7_numberAt 4 = .ok (.istore 6, 2) := by decide +kernel
theorem dX7_numberAt_6 : decode cX7_numberAt 6 = .ok (.iload 6, 2) := by decide +kernel
theorem dX7_numberAt_8 : decode cX7_numberAt 8 = .ok (.aload_n 1, 1) := by decide +kernel
theorem dX7_numberAt_9 : decode cX7_numberAt 9 = .ok (.getfield 22, 3) := by decide +kernel
theorem dX7_numberAt_12 : decode cX7_numberAt 12 = .ok (.if_icmp .ge 28, 3) := by decide +kernel
theorem dX7_numberAt_15 : decode cX7_numberAt 15 = .ok (.iload 5, 2) := by decide +kernel
theorem dX7_numberAt_17 : decode cX7_numberAt 17 = .ok (.aload_n 2, 1) := by decide +kernel
theorem dX7_numberAt_18 : decode cX7_numberAt 18 = .ok (.iload 6, 2) := by decide +kernel
theorem dX7_numberAt_20 : decode cX7_numberAt 20 = .ok (.iaload, 1) := by decide +kernel
theorem dX7_numberAt_21 : decode cX7_numberAt 21 = .ok (.aload_n 1, 1) := by decide +kernel
theorem dX7_numberAt_22 : decode cX7_numberAt 22 = .ok (.iload 6, 2) := by decide +kernel
theorem dX7_numberAt_24 : decode cX7_numberAt 24 = .ok (.iload_n 3, 1) := by decide +kernel
theorem dX7_numberAt_25 : decode cX7_numberAt 25 = .ok (.iload 4, 2) := by decide +kernel
theorem dX7_numberAt_27 : decode cX7_numberAt 27 = .ok (.invokevirtual 28, 3) := by decide +kernel
theorem dX7_numberAt_30 : decode cX7_numberAt 30 = .ok (.imul, 1) := by decide +kernel
theorem dX7_numberAt_31 : decode cX7_numberAt 31 = .ok (.iadd, 1) := by decide +kernel
theorem dX7_numberAt_32 : decode cX7_numberAt 32 = .ok (.istore 5, 2) := by decide +kernel
theorem dX7_numberAt_34 : decode cX7_numberAt 34 = .ok (.iinc 6 1, 3) := by decide +kernel
theorem dX7_numberAt_37 : decode cX7_numberAt 37 = .ok (.goto (-31), 3) := by decide +kernel
theorem dX7_numberAt_40 : decode cX7_numberAt 40 = .ok (.iload 5, 2) := by decide +kernel
theorem dX7_numberAt_42 : decode cX7_numberAt 42 = .ok (.i2l, 1) := by decide +kernel
theorem dX7_numberAt_43 : decode cX7_numberAt 43 = .ok (.aload_n 1, 1) := by decide +kernel
theorem dX7_numberAt_44 : decode cX7_numberAt 44 = .ok (.getfield 32, 3) := by decide +kernel
theorem dX7_numberAt_47 : decode cX7_numberAt 47 = .ok (.invokestatic 35, 3) := by decide +kernel
theorem dX7_numberAt_50 : decode cX7_numberAt 50 = .ok (.ireturn, 1) := by decide +kernel
theorem dX7_halfRank_0 : decode cX7_halfRank 0 = .ok (.aload_n 0, 1) := by decide +kernel
theorem dX7_halfRank_1 : decode cX7_halfRank 1 = .ok (.getfield 18, 3) := by decide +kernel
theorem dX7_halfRank_4 : decode cX7_halfRank 4 = .ok (.aload_n 1, 1) := by decide +kernel
theorem dX7_halfRank_5 : decode cX7_halfRank 5 = .ok (.getfield 32, 3) := by decide +kernel
theorem dX7_halfRank_8 : decode cX7_halfRank 8 = .ok (.aload_n 1, 1) := by decide +kernel
theorem dX7_halfRank_9 : decode cX7_halfRank 9 = .ok (.getfield 39, 3) := by decide +kernel
theorem dX7_halfRank_12 : decode cX7_halfRank 12 = .ok (.iconst 0, 1) := by decide +kernel
theorem dX7_halfRank_13 : decode cX7_halfRank 13 = .ok (.invokevirtual 42, 3) := by decide +kernel
theorem dX7_halfRank_16 : decode cX7_halfRank 16 = .ok (.iconst 0, 1) := by decide +kernel
theorem dX7_halfRank_17 : decode cX7_halfRank 17 = .ok (.istore_n 3, 1) := by decide +kernel
theorem dX7_halfRank_18 : decode cX7_halfRank 18 = .ok (.iload_n 3, 1) := by decide +kernel
theorem dX7_halfRank_19 : decode cX7_halfRank 19 = .ok (.aload_n 1, 1) := by decide +kernel
theorem dX7_halfRank_20 : decode cX7_halfRank 20 = .ok (.getfield 39, 3) := by decide +kernel
theorem dX7_halfRank_23 : decode cX7_halfRank 23 = .ok (.if_icmp .ge 55, 3) := by decide +kernel
theorem dX7_halfRank_26 : decode cX7_halfRank 26 = .ok (.iconst 0, 1) := by decide +kernel
theorem dX7_halfRank_27 : decode cX7_halfRank 27 = .ok (.istore 4, 2) := by decide +kernel
theorem dX7_halfRank_29 : decode cX7_halfRank 29 = .ok (.iload 4, 2) := by decide +kernel
theorem dX7_halfRank_31 : decode cX7_halfRank 31 = .ok (.aload_n 1, 1) := by decide +kernel
theorem dX7_halfRank_32 : decode cX7_halfRank 32 = .ok (.getfield 39, 3) := by decide +kernel
theorem dX7_halfRank_35 : decode cX7_halfRank 35 = .ok (.if_icmp .ge 25, 3) := by decide +kernel
theorem dX7_halfRank_38 : decode cX7_halfRank 38 = .ok (.aload_n 0, 1) := by decide +kernel
theorem dX7_halfRank_39 : decode cX7_halfRank 39 = .ok (.getfield 9, 3) := by decide +kernel
theorem dX7_halfRank_42 : decode cX7_halfRank 42 = .ok (.iload 4, 2) := by decide +kernel
theorem dX7_halfRank_44 : decode cX7_halfRank 44 = .ok (.aload_n 0, 1) := by decide +kernel
theorem dX7_halfRank_45 : decode cX7_halfRank 45 = .ok (.aload_n 1, 1) := by decide +kernel
theorem dX7_halfRank_46 : decode cX7_halfRank 46 = .ok (.aload_n 2, 1) := by decide +kernel
theorem dX7_halfRank_47 : decode cX7_halfRank 47 = .ok (.iload_n 3, 1) := by decide +kernel
theorem dX7_halfRank_48 : decode cX7_halfRank 48 = .ok (.iload 4, 2) := by decide +kernel
theorem dX7_halfRank_50 : decode cX7_halfRank 50 = .ok (.invokevirtual 46, 3) := by decide +kernel
theorem dX7_halfRank_53 : decode cX7_halfRank 53 = .ok (.iastore, 1) := by decide +kernel
theorem dX7_halfRank_54 : decode cX7_halfRank 54 = .ok (.iinc 4 1, 3) := by decide +kernel
theorem dX7_halfRank_57 : decode cX7_halfRank 57 = .ok (.goto (-28), 3) := by decide +kernel
theorem dX7_halfRank_60 : decode cX7_halfRank 60 = .ok (.aload_n 0, 1) := by decide +kernel
theorem dX7_halfRank_61 : decode cX7_halfRank 61 = .ok (.getfield 18, 3) := by decide +kernel
theorem dX7_halfRank_64 : decode cX7_halfRank 64 = .ok (.aload_n 0, 1) := by decide +kernel
theorem dX7_halfRank_65 : decode cX7_halfRank 65 = .ok (.getfield 9, 3) := by decide +kernel
theorem dX7_halfRank_68 : decode cX7_halfRank 68 = .ok (.iconst 0, 1) := by decide +kernel
theorem dX7_halfRank_69 : decode cX7_halfRank 69 = .ok (.invokevirtual 50, 3) := by decide +kernel
theorem dX7_halfRank_72 : decode cX7_halfRank 72 = .ok (.iinc 3 1, 3) := by decide +kernel
theorem dX7_halfRank_75 : decode cX7_halfRank 75 = .ok (.goto (-57), 3) := by decide +kernel
theorem dX7_halfRank_78 : decode cX7_halfRank 78 = .ok (.aload_n 0, 1) := by decide +kernel
theorem dX7_halfRank_79 : decode cX7_halfRank 79 = .ok (.getfield 18, 3) := by decide +kernel
theorem dX7_halfRank_82 : decode cX7_halfRank 82 = .ok (.getfield 54, 3) := by decide +kernel
theorem dX7_halfRank_85 : decode cX7_halfRank 85 = .ok (.iconst 2, 1) := by decide +kernel
theorem dX7_halfRank_86 : decode cX7_halfRank 86 = .ok (.idiv, 1) := by decide +kernel
theorem dX7_halfRank_87 : decode cX7_halfRank 87 = .ok (.ireturn, 1) := by decide +kernel
theorem dX8_init_0 : decode cX8_init 0 = .ok (.aload_n 0, 1) := by decide +kernel
theorem dX8_init_1 : decode cX8_init 1 = .ok (.invokespecial 3, 3) := by decide +kernel
theorem dX8_init_4 : decode cX8_init 4 = .ok (.aload_n 0, 1) := by decide +kernel
theorem dX8_init_5 : decode cX8_init 5 = .ok (.iconst 1, 1) := by decide +kernel
theorem dX8_init_6 : decode cX8_init 6 = .ok (.putfield 9, 3) := by decide +kernel
theorem dX8_init_9 : decode cX8_init 9 = .ok (.aload_n 0, 1) := by decide +kernel
theorem dX8_init_10 : decode cX8_init 10 = .ok (.iconst 0, 1) := by decide +kernel
theorem dX8_init_11 : decode cX8_init 11 = .ok (.putfield 15, 3) := by decide +kernel
theorem dX8_init_14 : decode cX8_init 14 = .ok (.aload_n 0, 1) := by decide +kernel
theorem dX8_init_15 : decode cX8_init 15 = .ok (.sipush 1024, 3) := by decide +kernel
theorem dX8_init_18 : decode cX8_init 18 = .ok (.newarray .boolean, 2) := by decide +kernel
theorem dX8_init_20 : decode cX8_init 20 = .ok (.putfield 18, 3) := by decide +kernel
theorem dX8_init_23 : decode cX8_init 23 = .ok (.return_, 1) := by decide +kernel
theorem dX8_fill_0 : decode cX8_fill 0 = .ok (.aload_n 0, 1) := by decide +kernel
theorem dX8_fill_1 : decode cX8_fill 1 = .ok (.aload_n 1, 1) := by decide +kernel
theorem dX8_fill_2 : decode cX8_fill 2 = .ok (.getfield 22, 3) := by decide +kernel
theorem dX8_fill_5 : decode cX8_fill 5 = .ok (.putfield 15, 3) := by decide +kernel
theorem dX8_fill_8 : decode cX8_fill 8 = .ok (.aload_n 0, 1) := by decide +kernel
theorem dX8_fill_9 : decode cX8_fill 9 = .ok (.iconst 1, 1) := by decide +kernel
theorem dX8_fill_10 : decode cX8_fill 10 = .ok (.aload_n 0, 1) := by decide +kernel
theorem dX8_fill_11 : decode cX8_fill 11 = .ok (.getfield 15, 3) := by decide +kernel
theorem dX8_fill_14 : decode cX8_fill 14 = .ok (.ishl, 1) := by decide +kernel
theorem dX8_fill_15 : decode cX8_fill 15 = .ok (.putfield 9, 3) := by decide +kernel
theorem dX8_fill_18 : decode cX8_fill 18 = .ok (.aload_n 0, 1) := by decide +kernel
theorem dX8_fill_19 : decode cX8_fill 19 = .ok (.getfield 18, 3) := by decide +kernel
theorem dX8_fill_22 : decode cX8_fill 22 = .ok (.iconst 0, 1) := by decide +kernel
theorem dX8_fill_23 : decode cX8_fill 23 = .ok (.iconst 1, 1) := by decide +kernel
theorem dX8_fill_24 : decode cX8_fill 24 = .ok (.bastore, 1) := by decide +kernel
theorem dX8_fill_25 : decode cX8_fill 25 = .ok (.iconst 1, 1) := by decide +kernel
theorem dX8_fill_26 : decode cX8_fill 26 = .ok (.istore_n 2, 1) := by decide +kernel
theorem dX8_fill_27 : decode cX8_fill 27 = .ok (.iload_n 2, 1) := by decide +kernel
theorem dX8_fill_28 : decode cX8_fill 28 = .ok (.aload_n 0, 1) := by decide +kernel
theorem dX8_fill_29 : decode cX8_fill 29 = .ok (.getfield 9, 3) := by decide +kernel
theorem dX8_fill_32 : decode cX8_fill 32 = .ok (.if_icmp .ge 41, 3) := by decide +kernel
theorem dX8_fill_35 : decode cX8_fill 35 = .ok (.aload_n 0, 1) := by decide +kernel
theorem dX8_fill_36 : decode cX8_fill 36 = .ok (.getfield 18, 3) := by decide +kernel
theorem dX8_fill_39 : decode cX8_fill 39 = .ok (.iload_n 2, 1) := by decide +kernel
theorem dX8_fill_40 : decode cX8_fill 40 = .ok (.aload_n 0, 1) := by decide +kernel
theorem dX8_fill_41 : decode cX8_fill 41 = .ok (.getfield 18, 3) := by decide +kernel
theorem dX8_fill_44 : decode cX8_fill 44 = .ok (.iload_n 2, 1) := by decide +kernel
theorem dX8_fill_45 : decode cX8_fill 45 = .ok (.iload_n 2, 1) := by decide +kernel
theorem dX8_fill_46 : decode cX8_fill 46 = .ok (.iconst 1, 1) := by decide +kernel
theorem dX8_fill_47 : decode cX8_fill 47 = .ok (.isub, 1) := by decide +kernel
theorem dX8_fill_48 : decode cX8_fill 48 = .ok (.iand, 1) := by decide +kernel
theorem dX8_fill_49 : decode cX8_fill 49 = .ok (.baload, 1) := by decide +kernel
theorem dX8_fill_50 : decode cX8_fill 50 = .ok (.ifCond .eq 15, 3) := by decide +kernel
theorem dX8_fill_53 : decode cX8_fill 53 = .ok (.aload_n 1, 1) := by decide +kernel
theorem dX8_fill_54 : decode cX8_fill 54 = .ok (.iload_n 2, 1) := by decide +kernel
theorem dX8_fill_55 : decode cX8_fill 55 = .ok (.invokevirtual 25, 3) := by decide +kernel
theorem dX8_fill_58 : decode cX8_fill 58 = .ok (.ifCond .eq 7, 3) := by decide +kernel
theorem dX8_fill_61 : decode cX8_fill 61 = .ok (.iconst 1, 1) := by decide +kernel
theorem dX8_fill_62 : decode cX8_fill 62 = .ok (.goto 4, 3) := by decide +kernel
theorem dX8_fill_65 : decode cX8_fill 65 = .ok (.iconst 0, 1) := by decide +kernel
theorem dX8_fill_66 : decode cX8_fill 66 = .ok (.bastore, 1) := by decide +kernel
theorem dX8_fill_67 : decode cX8_fill 67 = .ok (.iinc 2 1, 3) := by decide +kernel
theorem dX8_fill_70 : decode cX8_fill 70 = .ok (.goto (-43), 3) := by decide +kernel
theorem dX8_fill_73 : decode cX8_fill 73 = .ok (.return_, 1) := by decide +kernel
theorem dX8_greatest_0 : decode cX8_greatest 0 = .ok (.iconst 0, 1) := by decide +kernel
theorem dX8_greatest_1 : decode cX8_greatest 1 = .ok (.istore_n 1, 1) := by decide +kernel
theorem dX8_greatest_2 : decode cX8_greatest 2 = .ok (.iconst 0, 1) := by decide +kernel
theorem dX8_greatest_3 : decode cX8_greatest 3 = .ok (.istore_n 2, 1) := by decide +kernel
theorem dX8_greatest_4 : decode cX8_greatest 4 = .ok (.iload_n 2, 1) := by decide +kernel
theorem dX8_greatest_5 : decode cX8_greatest 5 = .ok (.aload_n 0, 1) := by decide +kernel
theorem dX8_greatest_6 : decode cX8_greatest 6 = .ok (.getfield 9, 3) := by decide +kernel
theorem dX8_greatest_9 : decode cX8_greatest 9 = .ok (.if_icmp .ge 27, 3) := by decide +kernel
theorem dX8_greatest_12 : decode cX8_greatest 12 = .ok (.aload_n 0, 1) := by decide +kernel
theorem dX8_greatest_13 : decode cX8_greatest 13 = .ok (.getfield 18, 3) := by decide +kernel
theorem dX8_greatest_16 : decode cX8_greatest 16 = .ok (.iload_n 2, 1) := by decide +kernel
theorem dX8_greatest_17 : decode cX8_greatest 17 = .ok (.baload, 1) := by decide +kernel
theorem dX8_greatest_18 : decode cX8_greatest 18 = .ok (.ifCond .eq 12, 3) := by decide +kernel
theorem dX8_greatest_21 : decode cX8_greatest 21 = .ok (.iload_n 1, 1) := by decide +kernel
theorem dX8_greatest_22 : decode cX8_greatest 22 = .ok (.iload_n 2, 1) := by decide +kernel
theorem dX8_greatest_23 : decode cX8_greatest 23 = .ok (.invokestatic 29, 3) := by decide +kernel
theorem dX8_greatest_26 : decode cX8_greatest 26 = .ok (.invokestatic 35, 3) := by decide +kernel
theorem dX8_greatest_29 : decode cX8_greatest 29 = .ok (.istore_n 1, 1) := by decide +kernel
theorem dX8_greatest_30 : decode cX8_greatest 30 = .ok (.iinc 2 1, 3) := by decide +kernel
theorem dX8_greatest_33 : decode cX8_greatest 33 = .ok (.goto (-29), 3) := by decide +kernel
theorem dX8_greatest_36 : decode cX8_greatest 36 = .ok (.iload_n 1, 1) := by decide +kernel
theorem dX8_greatest_37 : decode cX8_greatest 37 = .ok (.ireturn, 1) := by decide +kernel
theorem dX8_bettered_0 : decode cX8_bettered 0 = .ok (.iload_n 1, 1) := by decide +kernel
theorem dX8_bettered_1 : decode cX8_bettered 1 = .ok (.istore_n 2, 1) := by decide +kernel
theorem dX8_bettered_2 : decode cX8_bettered 2 = .ok (.iconst 0, 1) := by decide +kernel
theorem dX8_bettered_3 : decode cX8_bettered 3 = .ok (.istore_n 3, 1) := by decide +kernel
theorem dX8_bettered_4 : decode cX8_bettered 4 = .ok (.iload_n 3, 1) := by decide +kernel
theorem dX8_bettered_5 : decode cX8_bettered 5 = .ok (.aload_n 0, 1) := by decide +kernel
theorem dX8_bettered_6 : decode cX8_bettered 6 = .ok (.getfield 15, 3) := by decide +kernel
theorem dX8_bettered_9 : decode cX8_bettered 9 = .ok (.if_icmp .ge 33, 3) := by decide +kernel
theorem dX8_bettered_12 : decode cX8_bettered 12 = .ok (.aload_n 0, 1) := by decide +kernel
theorem dX8_bettered_13 : decode cX8_bettered 13 = .ok (.iload_n 2, 1) := by decide +kernel
theorem dX8_bettered_14 : decode cX8_bettered 14 = .ok (.invokevirtual 41, 3) := by decide +kernel
theorem dX8_bettered_17 : decode cX8_bettered 17 = .ok (.istore 4, 2) := by decide +kernel
theorem dX8_bettered_19 : decode cX8_bettered 19 = .ok (.iload 4, 2) := by decide +kernel
theorem dX8_bettered_21 : decode cX8_bettered 21 = .ok (.iload_n 2, 1) := by decide +kernel
theorem dX8_bettered_22 : decode cX8_bettered 22 = .ok (.if_icmp .ne 11, 3) := by decide +kernel
theorem dX8_bettered_25 : decode cX8_bettered 25 = .ok (.aload_n 0, 1) := by decide +kernel
theorem dX8_bettered_26 : decode cX8_bettered 26 = .ok (.iload_n 2, 1) := by decide +kernel
theorem dX8_bettered_27 : decode cX8_bettered 27 = .ok (.invokevirtual 44, 3) := by decide +kernel
theorem dX8_bettered_30 : decode cX8_bettered 30 = .ok (.goto 5, 3) := by decide +kernel
theorem dX8_bettered_33 : decode cX8_bettered 33 = .ok (.iload 4, 2) := by decide +kernel
theorem dX8_bettered_35 : decode cX8_bettered 35 = .ok (.istore_n 2, 1) := by decide +kernel
theorem dX8_bettered_36 : decode cX8_bettered 36 = .ok (.iinc 3 1, 3) := by decide +kernel
theorem dX8_bettered_39 : decode cX8_bettered 39 = .ok (.goto (-35), 3) := by decide +kernel
theorem dX8_bettered_42 : decode cX8_bettered 42 = .ok (.iload_n 2, 1) := by decide +kernel
theorem dX8_bettered_43 : decode cX8_bettered 43 = .ok (.ireturn, 1) := by decide +kernel
theorem dX8_withOneMore_0 : decode cX8_withOneMore 0 = .ok (.iconst 0, 1) := by decide +kernel
theorem dX8_withOneMore_1 : decode cX8_withOneMore 1 = .ok (.istore_n 2, 1) := by decide +kernel
theorem dX8_withOneMore_2 : decode cX8_withOneMore 2 = .ok (.iload_n 2, 1) := by decide +kernel
theorem dX8_withOneMore_3 : decode cX8_withOneMore 3 = .ok (.aload_n 0, 1) := by decide +kernel
theorem dX8_withOneMore_4 : decode cX8_withOneMore 4 = .ok (.getfield 15, 3) := by decide +kernel
theorem dX8_withOneMore_7 : decode cX8_withOneMore 7 = .ok (.if_icmp .ge 31, 3) := by decide +kernel
theorem dX8_withOneMore_10 : decode cX8_withOneMore 10 = .ok (.iload_n 1, 1) := by decide +kernel
theorem dX8_withOneMore_11 : decode cX8_withOneMore 11 = .ok (.iconst 1, 1) := by decide +kernel
theorem dX8_withOneMore_12 : decode cX8_withOneMore 12 = .ok (.iload_n 2, 1) := by decide +kernel
theorem dX8_withOneMore_13 : decode cX8_withOneMore 13 = .ok (.ishl, 1) := by decide +kernel
theorem dX8_withOneMore_14 : decode cX8_withOneMore 14 = .ok (.ior, 1) := by decide +kernel
theorem dX8_withOneMore_15 : decode cX8_withOneMore 15 = .ok (.istore_n 3, 1) := by decide +kernel
theorem dX8_withOneMore_16 : decode cX8_withOneMore 16 = .ok (.iload_n 3, 1) := by decide +kernel
theorem dX8_withOneMore_17 : decode cX8_withOneMore 17 = .ok (.iload_n 1, 1) := by decide +kernel
theorem dX8_withOneMore_18 : decode cX8_withOneMore 18 = .ok (.if_icmp .eq 14, 3) := by decide +kernel
theorem dX8_withOneMore_21 : decode cX8_withOneMore 21 = .ok (.aload_n 0, 1) := by decide +kernel
theorem dX8_withOneMore_22 : decode cX8_withOneMore 22 = .ok (.getfield 18, 3) := by decide +kernel
theorem dX8_withOneMore_25 : decode cX8_withOneMore 25 = .ok (.iload_n 3, 1) := by decide +kernel
theorem dX8_withOneMore_26 : decode cX8_withOneMore 26 = .ok (.baload, 1) := by decide +kernel
theorem dX8_withOneMore_27 : decode cX8_withOneMore 27 = .ok (.ifCond .eq 5, 3) := by decide +kernel
theorem dX8_withOneMore_30 : decode cX8_withOneMore 30 = .ok (.iload_n 3, 1) := by decide +kernel
theorem dX8_withOneMore_31 : decode cX8_withOneMore 31 = .ok (.ireturn, 1) := by decide +kernel
theorem dX8_withOneMore_32 : decode cX8_withOneMore 32 = .ok (.iinc 2 1, 3) := by decide +kernel
theorem dX8_withOneMore_35 : decode cX8_withOneMore 35 = .ok (.goto (-33), 3) := by decide +kernel
theorem dX8_withOneMore_38 : decode cX8_withOneMore 38 = .ok (.iload_n 1, 1) := by decide +kernel
theorem dX8_withOneMore_39 : decode cX8_withOneMore 39 = .ok (.ireturn, 1) := by decide +kernel
theorem dX8_withTwoForOne_0 : decode cX8_withTwoForOne 0 = .ok (.iconst 0, 1) := by decide +kernel
theorem dX8_withTwoForOne_1 : decode cX8_withTwoForOne 1 = .ok (.istore_n 2, 1) := by decide +kernel
theorem dX8_withTwoForOne_2 : decode cX8_withTwoForOne 2 = .ok (.iload_n 2, 1) := by decide +kernel
theorem dX8_withTwoForOne_3 : decode cX8_withTwoForOne 3 = .ok (.aload_n 0, 1) := by decide +kernel
theorem dX8_withTwoForOne_4 : decode cX8_withTwoForOne 4 = .ok (.getfield 15, 3) := by decide +kernel
theorem dX8_withTwoForOne_7 : decode cX8_withTwoForOne 7 = .ok (.if_icmp .ge 38, 3) := by decide +kernel
theorem dX8_withTwoForOne_10 : decode cX8_withTwoForOne 10 = .ok (.iload_n 1, 1) := by decide +kernel
theorem dX8_withTwoForOne_11 : decode cX8_withTwoForOne 11 = .ok (.iload_n 2, 1) := by decide +kernel
theorem dX8_withTwoForOne_12 : decode cX8_withTwoForOne 12 = .ok (.ishr, 1) := by decide +kernel
theorem dX8_withTwoForOne_13 : decode cX8_withTwoForOne 13 = .ok (.iconst 1, 1) := by decide +kernel
theorem dX8_withTwoForOne_14 : decode cX8_withTwoForOne 14 = .ok (.iand, 1) := by decide +kernel
theorem dX8_withTwoForOne_15 : decode cX8_withTwoForOne 15 = .ok (.iconst 1, 1) := by decide +kernel
theorem dX8_withTwoForOne_16 : decode cX8_withTwoForOne 16 = .ok (.if_icmp .ne 23, 3) := by decide +kernel
theorem dX8_withTwoForOne_19 : decode cX8_withTwoForOne 19 = .ok (.aload_n 0, 1) := by decide +kernel
theorem dX8_withTwoForOne_20 : decode cX8_withTwoForOne 20 = .ok (.iload_n 1, 1) := by decide +kernel
theorem dX8_withTwoForOne_21 : decode cX8_withTwoForOne 21 = .ok (.iload_n 1, 1) := by decide +kernel
theorem dX8_withTwoForOne_22 : decode cX8_withTwoForOne 22 = .ok (.iconst 1, 1) := by decide +kernel
theorem dX8_withTwoForOne_23 : decode cX8_withTwoForOne 23 = .ok (.iload_n 2, 1) := by decide +kernel
theorem dX8_withTwoForOne_24 : decode cX8_withTwoForOne 24 = .ok (.ishl, 1) := by decide +kernel
theorem dX8_withTwoForOne_25 : decode cX8_withTwoForOne 25 = .ok (.iconst (-1), 1) := by decide +kernel
theorem dX8_withTwoForOne_26 : decode cX8_withTwoForOne 26 = .ok (.ixor, 1) := by decide +kernel
theorem dX8_withTwoForOne_27 : decode cX8_withTwoForOne 27 = .ok (.iand, 1) := by decide +kernel
theorem dX8_withTwoForOne_28 : decode cX8_withTwoForOne 28 = .ok (.invokevirtual 47, 3) := by decide +kernel
theorem dX8_withTwoForOne_31 : decode cX8_withTwoForOne 31 = .ok (.istore_n 3, 1) := by decide +kernel
theorem dX8_withTwoForOne_32 : decode cX8_withTwoForOne 32 = .ok (.iload_n 3, 1) := by decide +kernel
theorem dX8_withTwoForOne_33 : decode cX8_withTwoForOne 33 = .ok (.iconst (-1), 1) := by decide +kernel
theorem dX8_withTwoForOne_34 : decode cX8_withTwoForOne 34 = .ok (.if_icmp .eq 5, 3) := by decide +kernel
theorem dX8_withTwoForOne_37 : decode cX8_withTwoForOne 37 = .ok (.iload_n 3, 1) := by decide +kernel
theorem dX8_withTwoForOne_38 : decode cX8_withTwoForOne 38 = .ok (.ireturn, 1) := by decide +kernel
theorem dX8_withTwoForOne_39 : decode cX8_withTwoForOne 39 = .ok (.iinc 2 1, 3) := by decide +kernel
theorem dX8_withTwoForOne_42 : decode cX8_withTwoForOne 42 = .ok (.goto (-40), 3) := by decide +kernel
theorem dX8_withTwoForOne_45 : decode cX8_withTwoForOne 45 = .ok (.iload_n 1, 1) := by decide +kernel
theorem dX8_withTwoForOne_46 : decode cX8_withTwoForOne 46 = .ok (.ireturn, 1) := by decide +kernel
theorem dX8_twoMore_0 : decode cX8_twoMore 0 = .ok (.iconst 0, 1) := by decide +kernel
theorem dX8_twoMore_1 : decode cX8_twoMore 1 = .ok (.istore_n 3, 1) := by decide +kernel
theorem dX8_twoMore_2 : decode cX8_twoMore 2 = .ok (.iload_n 3, 1) := by decide +kernel
theorem dX8_twoMore_3 : decode cX8_twoMore 3 = .ok (.aload_n 0, 1) := by decide +kernel
theorem dX8_twoMore_4 : decode cX8_twoMore 4 = .ok (.getfield 15, 3) := by decide +kernel
theorem dX8_twoMore_7 : decode cX8_twoMore 7 = .ok (.if_icmp .ge 63, 3) := by decide +kernel
theorem dX8_twoMore_10 : decode cX8_twoMore 10 = .ok (.iload_n 3, 1) := by decide +kernel
theorem dX8_twoMore_11 : decode cX8_twoMore 11 = .ok (.iconst 1, 1) := by decide +kernel
theorem dX8_twoMore_12 : decode cX8_twoMore 12 = .ok (.iadd, 1) := by decide +kernel
theorem dX8_twoMore_13 : decode cX8_twoMore 13 = .ok (.istore 4, 2) := by decide +kernel
theorem dX8_twoMore_15 : decode cX8_twoMore 15 = .ok (.iload 4, 2) := by decide +kernel
theorem dX8_twoMore_17 : decode cX8_twoMore 17 = .ok (.aload_n 0, 1) := by decide +kernel
theorem dX8_twoMore_18 : decode cX8_twoMore 18 = .ok (.getfield 15, 3) := by decide +kernel
theorem dX8_twoMore_21 : decode cX8_twoMore 21 = .ok (.if_icmp .ge 43, 3) := by decide +kernel
theorem dX8_twoMore_24 : decode cX8_twoMore 24 = .ok (.iconst 1, 1) := by decide +kernel
theorem dX8_twoMore_25 : decode cX8_twoMore 25 = .ok (.iload_n 3, 1) := by decide +kernel
theorem dX8_twoMore_26 : decode cX8_twoMore 26 = .ok (.ishl, 1) := by decide +kernel
theorem dX8_twoMore_27 : decode cX8_twoMore 27 = .ok (.iconst 1, 1) := by decide +kernel
theorem dX8_twoMore_28 : decode cX8_twoMore 28 = .ok (.iload 4, 2) := by decide +kernel
theorem dX8_twoMore_30 : decode cX8_twoMore 30 = .ok (.ishl, 1) := by decide +kernel
theorem dX8_twoMore_31 : decode cX8_twoMore 31 = .ok (.ior, 1) := by decide +kernel
theorem dX8_twoMore_32 : decode cX8_twoMore 32 = .ok (.istore 5, 2) := by decide +kernel
theorem dX8_twoMore_34 : decode cX8_twoMore 34 = .ok (.iload_n 1, 1) := by decide +kernel
theorem dX8_twoMore_35 : decode cX8_twoMore 35 = .ok (.iload 5, 2) := by decide +kernel
theorem dX8_twoMore_37 : decode cX8_twoMore 37 = .ok (.iand, 1) := by decide +kernel
theorem dX8_twoMore_38 : decode cX8_twoMore 38 = .ok (.ifCond .ne 20, 3) := by decide +kernel
theorem dX8_twoMore_41 : decode cX8_twoMore 41 = .ok (.aload_n 0, 1) := by decide +kernel
theorem dX8_twoMore_42 : decode cX8_twoMore 42 = .ok (.getfield 18, 3) := by decide +kernel
theorem dX8_twoMore_45 : decode cX8_twoMore 45 = .ok (.iload_n 2, 1) := by decide +kernel
theorem dX8_twoMore_46 : decode cX8_twoMore 46 = .ok (.iload 5, 2) := by decide +kernel
theorem dX8_twoMore_48 : decode cX8_twoMore 48 = .ok (.ior, 1) := by decide +kernel
theorem dX8_twoMore_49 : decode cX8_twoMore 49 = .ok (.baload, 1) := by decide +kernel
theorem dX8_twoMore_50 : decode cX8_twoMore 50 = .ok (.ifCond .eq 8, 3) := by decide +kernel
theorem dX8_twoMore_53 : decode cX8_twoMore 53 = .ok (.iload_n 2, 1) := by decide +kernel
theorem dX8_twoMore_54 : decode cX8_twoMore 54 = .ok (.iload 5, 2) := by decide +kernel
theorem dX8_twoMore_56 : decode cX8_twoMore 56 = .ok (.ior, 1) := by decide +kernel
theorem dX8_twoMore_57 : decode cX8_twoMore 57 = .ok (.ireturn, 1) := by decide +kernel
theorem dX8_twoMore_58 : decode cX8_twoMore 58 = .ok (.iinc 4 1, 3) := by decide +kernel
theorem dX8_twoMore_61 : decode cX8_twoMore 61 = .ok (.goto (-46), 3) := by decide +kernel
theorem dX8_twoMore_64 : decode cX8_twoMore 64 = .ok (.iinc 3 1, 3) := by decide +kernel
theorem dX8_twoMore_67 : decode cX8_twoMore 67 = .ok (.goto (-65), 3) := by decide +kernel
theorem dX8_twoMore_70 : decode cX8_twoMore 70 = .ok (.iconst (-1), 1) := by decide +kernel
theorem dX8_twoMore_71 : decode cX8_twoMore 71 = .ok (.ireturn, 1) := by decide +kernel
theorem dX9_init_0 : decode cX9_init 0 = .ok (.aload_n 0, 1) := by decide +kernel
theorem dX9_init_1 : decode cX9_init 1 = .ok (.invokespecial 3, 3) := by decide +kernel
theorem dX9_init_4 : decode cX9_init 4 = .ok (.aload_n 0, 1) := by decide +kernel
theorem dX9_init_5 : decode cX9_init 5 = .ok (.new 9, 3) := by decide +kernel
theorem dX9_init_8 : decode cX9_init 8 = .ok (.dup, 1) := by decide +kernel
theorem dX9_init_9 : decode cX9_init 9 = .ok (.invokespecial 11, 3) := by decide +kernel
theorem dX9_init_12 : decode cX9_init 12 = .ok (.putfield 12, 3) := by decide +kernel
theorem dX9_init_15 : decode cX9_init 15 = .ok (.aload_n 0, 1) := by decide +kernel
theorem dX9_init_16 : decode cX9_init 16 = .ok (.new 9, 3) := by decide +kernel
theorem dX9_init_19 : decode cX9_init 19 = .ok (.dup, 1) := by decide +kernel
theorem dX9_init_20 : decode cX9_init 20 = .ok (.invokespecial 11, 3) := by decide +kernel
theorem dX9_init_23 : decode cX9_init 23 = .ok (.putfield 16, 3) := by decide +kernel
theorem dX9_init_26 : decode cX9_init 26 = .ok (.aload_n 0, 1) := by decide +kernel
theorem dX9_init_27 : decode cX9_init 27 = .ok (.iconst 0, 1) := by decide +kernel
theorem dX9_init_28 : decode cX9_init 28 = .ok (.putfield 19, 3) := by decide +kernel
theorem dX9_init_31 : decode cX9_init 31 = .ok (.aload_n 0, 1) := by decide +kernel
theorem dX9_init_32 : decode cX9_init 32 = .ok (.new 23, 3) := by decide +kernel
theorem dX9_init_35 : decode cX9_init 35 = .ok (.dup, 1) := by decide +kernel
theorem dX9_init_36 : decode cX9_init 36 = .ok (.invokespecial 25, 3) := by decide +kernel
theorem dX9_init_39 : decode cX9_init 39 = .ok (.putfield 26, 3) := by decide +kernel
theorem dX9_init_42 : decode cX9_init 42 = .ok (.aload_n 0, 1) := by decide +kernel
theorem dX9_init_43 : decode cX9_init 43 = .ok (.new 30, 3) := by decide +kernel
theorem dX9_init_46 : decode cX9_init 46 = .ok (.dup, 1) := by decide +kernel
theorem dX9_init_47 : decode cX9_init 47 = .ok (.invokespecial 32, 3) := by decide +kernel
theorem dX9_init_50 : decode cX9_init 50 = .ok (.putfield 33, 3) := by decide +kernel
theorem dX9_init_53 : decode cX9_init 53 = .ok (.aload_n 0, 1) := by decide +kernel
theorem dX9_init_54 : decode cX9_init 54 = .ok (.new 37, 3) := by decide +kernel
theorem dX9_init_57 : decode cX9_init 57 = .ok (.dup, 1) := by decide +kernel
theorem dX9_init_58 : decode cX9_init 58 = .ok (.invokespecial 39, 3) := by decide +kernel
theorem dX9_init_61 : decode cX9_init 61 = .ok (.putfield 40, 3) := by decide +kernel
theorem dX9_init_64 : decode cX9_init 64 = .ok (.aload_n 0, 1) := by decide +kernel
theorem dX9_init_65 : decode cX9_init 65 = .ok (.new 44, 3) := by decide +kernel
theorem dX9_init_68 : decode cX9_init 68 = .ok (.dup, 1) := by decide +kernel
theorem dX9_init_69 : decode cX9_init 69 = .ok (.invokespecial 46, 3) := by decide +kernel
theorem dX9_init_72 : decode cX9_init 72 = .ok (.putfield 47, 3) := by decide +kernel
theorem dX9_init_75 : decode cX9_init 75 = .ok (.aload_n 0, 1) := by decide +kernel
theorem dX9_init_76 : decode cX9_init 76 = .ok (.new 51, 3) := by decide +kernel
theorem dX9_init_79 : decode cX9_init 79 = .ok (.dup, 1) := by decide +kernel
theorem dX9_init_80 : decode cX9_init 80 = .ok (.invokespecial 53, 3) := by decide +kernel
theorem dX9_init_83 : decode cX9_init 83 = .ok (.putfield 54, 3) := by decide +kernel
theorem dX9_init_86 : decode cX9_init 86 = .ok (.aload_n 0, 1) := by decide +kernel
theorem dX9_init_87 : decode cX9_init 87 = .ok (.iconst 4, 1) := by decide +kernel
theorem dX9_init_88 : decode cX9_init 88 = .ok (.anewarray 58, 3) := by decide +kernel
theorem dX9_init_91 : decode cX9_init 91 = .ok (.putfield 60, 3) := by decide +kernel
theorem dX9_init_94 : decode cX9_init 94 = .ok (.aload_n 0, 1) := by decide +kernel
theorem dX9_init_95 : decode cX9_init 95 = .ok (.iconst 4, 1) := by decide +kernel
theorem dX9_init_96 : decode cX9_init 96 = .ok (.anewarray 64, 3) := by decide +kernel
theorem dX9_init_99 : decode cX9_init 99 = .ok (.putfield 66, 3) := by decide +kernel
theorem dX9_init_102 : decode cX9_init 102 = .ok (.aload_n 0, 1) := by decide +kernel
theorem dX9_init_103 : decode cX9_init 103 = .ok (.bipush 10, 2) := by decide +kernel
theorem dX9_init_105 : decode cX9_init 105 = .ok (.newarray .int, 2) := by decide +kernel
theorem dX9_init_107 : decode cX9_init 107 = .ok (.putfield 70, 3) := by decide +kernel
theorem dX9_init_110 : decode cX9_init 110 = .ok (.aload_n 0, 1) := by decide +kernel
theorem dX9_init_111 : decode cX9_init 111 = .ok (.bipush 10, 2) := by decide +kernel
theorem dX9_init_113 : decode cX9_init 113 = .ok (.newarray .int, 2) := by decide +kernel
theorem dX9_init_115 : decode cX9_init 115 = .ok (.putfield 74, 3) := by decide +kernel
theorem dX9_init_118 : decode cX9_init 118 = .ok (.aload_n 0, 1) := by decide +kernel
theorem dX9_init_119 : decode cX9_init 119 = .ok (.bipush 10, 2) := by decide +kernel
theorem dX9_init_121 : decode cX9_init 121 = .ok (.newarray .int, 2) := by decide +kernel
theorem dX9_init_123 : decode cX9_init 123 = .ok (.putfield 77, 3) := by decide +kernel
theorem dX9_init_126 : decode cX9_init 126 = .ok (.iconst 0, 1) := by decide +kernel
theorem dX9_init_127 : decode cX9_init 127 = .ok (.istore_n 1, 1) := by decide +kernel
theorem dX9_init_128 : decode cX9_init 128 = .ok (.iload_n 1, 1) := by decide +kernel
theorem dX9_init_129 : decode cX9_init 129 = .ok (.iconst 4, 1) := by decide +kernel
theorem dX9_init_130 : decode cX9_init 130 = .ok (.if_icmp .ge 22, 3) := by decide +kernel
theorem dX9_init_133 : decode cX9_init 133 = .ok (.aload_n 0, 1) := by decide +kernel
theorem dX9_init_134 : decode cX9_init 134 = .ok (.getfield 60, 3) := by decide +kernel
theorem dX9_init_137 : decode cX9_init 137 = .ok (.iload_n 1, 1) := by decide +kernel
theorem dX9_init_138 : decode cX9_init 138 = .ok (.new 58, 3) := by decide +kernel
theorem dX9_init_141 : decode cX9_init 141 = .ok (.dup, 1) := by decide +kernel
theorem dX9_init_142 : decode cX9_init 142 = .ok (.invokespecial 80, 3) := by decide +kernel
theorem dX9_init_145 : decode cX9_init 145 = .ok (.aastore, 1) := by decide +kernel
theorem dX9_init_146 : decode cX9_init 146 = .ok (.iinc 1 1, 3) := by decide +kernel
theorem dX9_init_149 : decode cX9_init 149 = .ok (.goto (-21), 3) := by decide +kernel
theorem dX9_init_152 : decode cX9_init 152 = .ok (.iconst 0, 1) := by decide +kernel
theorem dX9_init_153 : decode cX9_init 153 = .ok (.istore_n 1, 1) := by decide +kernel
theorem dX9_init_154 : decode cX9_init 154 = .ok (.iload_n 1, 1) := by decide +kernel
theorem dX9_init_155 : decode cX9_init 155 = .ok (.iconst 4, 1) := by decide +kernel
theorem dX9_init_156 : decode cX9_init 156 = .ok (.if_icmp .ge 22, 3) := by decide +kernel
theorem dX9_init_159 : decode cX9_init 159 = .ok (.aload_n 0, 1) := by decide +kernel
theorem dX9_init_160 : decode cX9_init 160 = .ok (.getfield 66, 3) := by decide +kernel
theorem dX9_init_163 : decode cX9_init 163 = .ok (.iload_n 1, 1) := by decide +kernel
theorem dX9_init_164 : decode cX9_init 164 = .ok (.new 64, 3) := by decide +kernel
theorem dX9_init_167 : decode cX9_init 167 = .ok (.dup, 1) := by decide +kernel
theorem dX9_init_168 : decode cX9_init 168 = .ok (.invokespecial 81, 3) := by decide +kernel
theorem dX9_init_171 : decode cX9_init 171 = .ok (.aastore, 1) := by decide +kernel
theorem dX9_init_172 : decode cX9_init 172 = .ok (.iinc 1 1, 3) := by decide +kernel
theorem dX9_init_175 : decode cX9_init 175 = .ok (.goto (-21), 3) := by decide +kernel
theorem dX9_init_178 : decode cX9_init 178 = .ok (.return_, 1) := by decide +kernel
theorem dX9_field_0 : decode cX9_field 0 = .ok (.iload_n 1, 1) := by decide +kernel
theorem dX9_field_1 : decode cX9_field 1 = .ok (.invokestatic 82, 3) := by decide +kernel
theorem dX9_field_4 : decode cX9_field 4 = .ok (.ifCond .eq 14, 3) := by decide +kernel
theorem dX9_field_7 : decode cX9_field 7 = .ok (.iload_n 2, 1) := by decide +kernel
theorem dX9_field_8 : decode cX9_field 8 = .ok (.iconst 1, 1) := by decide +kernel
theorem dX9_field_9 : decode cX9_field 9 = .ok (.if_icmp .lt 9, 3) := by decide +kernel
theorem dX9_field_12 : decode cX9_field 12 = .ok (.iload_n 2, 1) := by decide +kernel
theorem dX9_field_13 : decode cX9_field 13 = .ok (.bipush 6, 2) := by decide +kernel
theorem dX9_field_15 : decode cX9_field 15 = .ok (.if_icmp .le 6, 3) := by decide +kernel
theorem dX9_field_18 : decode cX9_field 18 = .ok (.bipush (-2), 2) := by decide +kernel
theorem dX9_field_20 : decode cX9_field 20 = .ok (.ireturn, 1) := by decide +kernel
theorem dX9_field_21 : decode cX9_field 21 = .ok (.aload_n 0, 1) := by decide +kernel
theorem dX9_field_22 : decode cX9_field 22 = .ok (.getfield 12, 3) := by decide +kernel
theorem dX9_field_25 : decode cX9_field 25 = .ok (.getfield 86, 3) := by decide +kernel
theorem dX9_field_28 : decode cX9_field 28 = .ok (.istore_n 3, 1) := by decide +kernel
theorem dX9_field_29 : decode cX9_field 29 = .ok (.aload_n 0, 1) := by decide +kernel
theorem dX9_field_30 : decode cX9_field 30 = .ok (.getfield 12, 3) := by decide +kernel
theorem dX9_field_33 : decode cX9_field 33 = .ok (.iload_n 1, 1) := by decide +kernel
theorem dX9_field_34 : decode cX9_field 34 = .ok (.putfield 86, 3) := by decide +kernel
theorem dX9_field_37 : decode cX9_field 37 = .ok (.aload_n 0, 1) := by decide +kernel
theorem dX9_field_38 : decode cX9_field 38 = .ok (.getfield 12, 3) := by decide +kernel
theorem dX9_field_41 : decode cX9_field 41 = .ok (.iload_n 2, 1) := by decide +kernel
theorem dX9_field_42 : decode cX9_field 42 = .ok (.putfield 90, 3) := by decide +kernel
theorem dX9_field_45 : decode cX9_field 45 = .ok (.iload_n 3, 1) := by decide +kernel
theorem dX9_field_46 : decode cX9_field 46 = .ok (.ireturn, 1) := by decide +kernel
theorem dX9_divided_0 : decode cX9_divided 0 = .ok (.iload_n 2, 1) := by decide +kernel
theorem dX9_divided_1 : decode cX9_divided 1 = .ok (.i2l, 1) := by decide +kernel
theorem dX9_divided_2 : decode cX9_divided 2 = .ok (.aload_n 0, 1) := by decide +kernel
theorem dX9_divided_3 : decode cX9_divided 3 = .ok (.getfield 12, 3) := by decide +kernel
theorem dX9_divided_6 : decode cX9_divided 6 = .ok (.getfield 86, 3) := by decide +kernel
theorem dX9_divided_9 : decode cX9_divided 9 = .ok (.invokestatic 93, 3) := by decide +kernel
theorem dX9_divided_12 : decode cX9_divided 12 = .ok (.istore_n 3, 1) := by decide +kernel
theorem dX9_divided_13 : decode cX9_divided 13 = .ok (.iload_n 3, 1) := by decide +kernel
theorem dX9_divided_14 : decode cX9_divided 14 = .ok (.ifCond .ne 8, 3) := by decide +kernel
theorem dX9_divided_17 : decode cX9_divided 17 = .ok (.bipush (-2), 2) := by decide +kernel
theorem dX9_divided_19 : decode cX9_divided 19 = .ok (.goto 26, 3) := by decide +kernel
theorem dX9_divided_22 : decode cX9_divided 22 = .ok (.iload_n 1, 1) := by decide +kernel
theorem dX9_divided_23 : decode cX9_divided 23 = .ok (.i2l, 1) := by decide +kernel
theorem dX9_divided_24 : decode cX9_divided 24 = .ok (.aload_n 0, 1) := by decide +kernel
theorem dX9_divided_25 : decode cX9_divided 25 = .ok (.getfield 12, 3) := by decide +kernel
theorem dX9_divided_28 : decode cX9_divided 28 = .ok (.getfield 86, 3) := by decide +kernel
theorem dX9_divided_31 : decode cX9_divided 31 = .ok (.invokestatic 93, 3) := by decide +kernel
theorem dX9_divided_34 : decode cX9_divided 34 = .ok (.iload_n 3, 1) := by decide +kernel
theorem dX9_divided_35 : decode cX9_divided 35 = .ok (.aload_n 0, 1) := by decide +kernel
theorem dX9_divided_36 : decode cX9_divided 36 = .ok (.getfield 12, 3) := by decide +kernel
theorem dX9_divided_39 : decode cX9_divided 39 = .ok (.getfield 86, 3) := by decide +kernel
theorem dX9_divided_42 : decode cX9_divided 42 = .ok (.invokestatic 97, 3) := by decide +kernel
theorem dX9_divided_45 : decode cX9_divided 45 = .ok (.ireturn, 1) := by decide +kernel
theorem dX9_pair_0 : decode cX9_pair 0 = .ok (.iload_n 1, 1) := by decide +kernel
theorem dX9_pair_1 : decode cX9_pair 1 = .ok (.invokestatic 101, 3) := by decide +kernel
theorem dX9_pair_4 : decode cX9_pair 4 = .ok (.ifCond .eq 10, 3) := by decide +kernel
theorem dX9_pair_7 : decode cX9_pair 7 = .ok (.iload_n 2, 1) := by decide +kernel
theorem dX9_pair_8 : decode cX9_pair 8 = .ok (.invokestatic 104, 3) := by decide +kernel
theorem dX9_pair_11 : decode cX9_pair 11 = .ok (.ifCond .ne 6, 3) := by decide +kernel
theorem dX9_pair_14 : decode cX9_pair 14 = .ok (.bipush (-2), 2) := by decide +kernel
theorem dX9_pair_16 : decode cX9_pair 16 = .ok (.ireturn, 1) := by decide +kernel
theorem dX9_pair_17 : decode cX9_pair 17 = .ok (.aload_n 0, 1) := by decide +kernel
theorem dX9_pair_18 : decode cX9_pair 18 = .ok (.getfield 12, 3) := by decide +kernel
theorem dX9_pair_21 : decode cX9_pair 21 = .ok (.getfield 107, 3) := by decide +kernel
theorem dX9_pair_24 : decode cX9_pair 24 = .ok (.bipush 10, 2) := by decide +kernel
theorem dX9_pair_26 : decode cX9_pair 26 = .ok (.if_icmp .lt 6, 3) := by decide +kernel
theorem dX9_pair_29 : decode cX9_pair 29 = .ok (.bipush (-4), 2) := by decide +kernel
theorem dX9_pair_31 : decode cX9_pair 31 = .ok (.ireturn, 1) := by decide +kernel
theorem dX9_pair_32 : decode cX9_pair 32 = .ok (.aload_n 0, 1) := by decide +kernel
theorem dX9_pair_33 : decode cX9_pair 33 = .ok (.getfield 12, 3) := by decide +kernel
theorem dX9_pair_36 : decode cX9_pair 36 = .ok (.iload_n 1, 1) := by decide +kernel
theorem dX9_pair_37 : decode cX9_pair 37 = .ok (.iload_n 2, 1) := by decide +kernel
theorem dX9_pair_38 : decode cX9_pair 38 = .ok (.invokevirtual 110, 3) := by decide +kernel
theorem dX9_pair_41 : decode cX9_pair 41 = .ok (.ireturn, 1) := by decide +kernel
theorem dX9_entry_0 : decode cX9_entry 0 = .ok (.aload_n 0, 1) := by decide +kernel
theorem dX9_entry_1 : decode cX9_entry 1 = .ok (.getfield 12, 3) := by decide +kernel
theorem dX9_entry_4 : decode cX9_entry 4 = .ok (.iload_n 1, 1) := by decide +kernel
theorem dX9_entry_5 : decode cX9_entry 5 = .ok (.invokevirtual 114, 3) := by decide +kernel
theorem dX9_entry_8 : decode cX9_entry 8 = .ok (.ifCond .eq 34, 3) := by decide +kernel
theorem dX9_entry_11 : decode cX9_entry 11 = .ok (.iload_n 2, 1) := by decide +kernel
theorem dX9_entry_12 : decode cX9_entry 12 = .ok (.invokestatic 117, 3) := by decide +kernel
theorem dX9_entry_15 : decode cX9_entry 15 = .ok (.ifCond .eq 27, 3) := by decide +kernel
theorem dX9_entry_18 : decode cX9_entry 18 = .ok (.iload_n 3, 1) := by decide +kernel
theorem dX9_entry_19 : decode cX9_entry 19 = .ok (.ifCond .lt 23, 3) := by decide +kernel
theorem dX9_entry_22 : decode cX9_entry 22 = .ok (.iload_n 3, 1) := by decide +kernel
theorem dX9_entry_23 : decode cX9_entry 23 = .ok (.bipush 6, 2) := by decide +kernel
theorem dX9_entry_25 : decode cX9_entry 25 = .ok (.if_icmp .ge 17, 3) := by decide +kernel
theorem dX9_entry_28 : decode cX9_entry 28 = .ok (.iload 4, 2) := by decide +kernel
theorem dX9_entry_30 : decode cX9_entry 30 = .ok (.bipush (-99), 2) := by decide +kernel
theorem dX9_entry_32 : decode cX9_entry 32 = .ok (.if_icmp .lt 10, 3) := by decide +kernel
theorem dX9_entry_35 : decode cX9_entry 35 = .ok (.iload 4, 2) := by decide +kernel
theorem dX9_entry_37 : decode cX9_entry 37 = .ok (.bipush 99, 2) := by decide +kernel
theorem dX9_entry_39 : decode cX9_entry 39 = .ok (.if_icmp .le 6, 3) := by decide +kernel
theorem dX9_entry_42 : decode cX9_entry 42 = .ok (.bipush (-2), 2) := by decide +kernel
theorem dX9_entry_44 : decode cX9_entry 44 = .ok (.ireturn, 1) := by decide +kernel
theorem dX9_entry_45 : decode cX9_entry 45 = .ok (.iload_n 1, 1) := by decide +kernel
theorem dX9_entry_46 : decode cX9_entry 46 = .ok (.bipush 12, 2) := by decide +kernel
theorem dX9_entry_48 : decode cX9_entry 48 = .ok (.imul, 1) := by decide +kernel
theorem dX9_entry_49 : decode cX9_entry 49 = .ok (.iload_n 2, 1) := by decide +kernel
theorem dX9_entry_50 : decode cX9_entry 50 = .ok (.bipush 6, 2) := by decide +kernel
theorem dX9_entry_52 : decode cX9_entry 52 = .ok (.imul, 1) := by decide +kernel
theorem dX9_entry_53 : decode cX9_entry 53 = .ok (.iadd, 1) := by decide +kernel
theorem dX9_entry_54 : decode cX9_entry 54 = .ok (.iload_n 3, 1) := by decide +kernel
theorem dX9_entry_55 : decode cX9_entry 55 = .ok (.iadd, 1) := by decide +kernel
theorem dX9_entry_56 : decode cX9_entry 56 = .ok (.istore 5, 2) := by decide +kernel
theorem dX9_entry_58 : decode cX9_entry 58 = .ok (.aload_n 0, 1) := by decide +kernel
theorem dX9_entry_59 : decode cX9_entry 59 = .ok (.getfield 12, 3) := by decide +kernel
theorem dX9_entry_62 : decode cX9_entry 62 = .ok (.getfield 120, 3) := by decide +kernel
theorem dX9_entry_65 : decode cX9_entry 65 = .ok (.iload 5, 2) := by decide +kernel
theorem dX9_entry_67 : decode cX9_entry 67 = .ok (.iaload, 1) := by decide +kernel
theorem dX9_entry_68 : decode cX9_entry 68 = .ok (.istore 6, 2) := by decide +kernel
theorem dX9_entry_70 : decode cX9_entry 70 = .ok (.aload_n 0, 1) := by decide +kernel
theorem dX9_entry_71 : decode cX9_entry 71 = .ok (.getfield 12, 3) := by decide +kernel
theorem dX9_entry_74 : decode cX9_entry 74 = .ok (.getfield 120, 3) := by decide +kernel
theorem dX9_entry_77 : decode cX9_entry 77 = .ok (.iload 5, 2) := by decide +kernel
theorem dX9_entry_79 : decode cX9_entry 79 = .ok (.iload 4, 2) := by decide +kernel
theorem dX9_entry_81 : decode cX9_entry 81 = .ok (.iastore, 1) := by decide +kernel
theorem dX9_entry_82 : decode cX9_entry 82 = .ok (.iload 6, 2) := by decide +kernel
theorem dX9_entry_84 : decode cX9_entry 84 = .ok (.ireturn, 1) := by decide +kernel
theorem dX9_set_0 : decode cX9_set 0 = .ok (.aload_n 0, 1) := by decide +kernel
theorem dX9_set_1 : decode cX9_set 1 = .ok (.getfield 12, 3) := by decide +kernel
theorem dX9_set_4 : decode cX9_set 4 = .ok (.iload_n 1, 1) := by decide +kernel
theorem dX9_set_5 : decode cX9_set 5 = .ok (.invokevirtual 114, 3) := by decide +kernel
theorem dX9_set_8 : decode cX9_set 8 = .ok (.ifCond .eq 31, 3) := by decide +kernel
theorem dX9_set_11 : decode cX9_set 11 = .ok (.iload_n 2, 1) := by decide +kernel
theorem dX9_set_12 : decode cX9_set 12 = .ok (.invokestatic 117, 3) := by decide +kernel
theorem dX9_set_15 : decode cX9_set 15 = .ok (.ifCond .eq 24, 3) := by decide +kernel
theorem dX9_set_18 : decode cX9_set 18 = .ok (.iload_n 2, 1) := by decide +kernel
theorem dX9_set_19 : decode cX9_set 19 = .ok (.ifCond .ne 13, 3) := by decide +kernel
theorem dX9_set_22 : decode cX9_set 22 = .ok (.iload_n 3, 1) := by decide +kernel
theorem dX9_set_23 : decode cX9_set 23 = .ok (.invokestatic 101, 3) := by decide +kernel
theorem dX9_set_26 : decode cX9_set 26 = .ok (.ifCond .eq 13, 3) := by decide +kernel
theorem dX9_set_29 : decode cX9_set 29 = .ok (.goto 13, 3) := by decide +kernel
theorem dX9_set_32 : decode cX9_set 32 = .ok (.iload_n 3, 1) := by decide +kernel
theorem dX9_set_33 : decode cX9_set 33 = .ok (.invokestatic 104, 3) := by decide +kernel
theorem dX9_set_36 : decode cX9_set 36 = .ok (.ifCond .ne 6, 3) := by decide +kernel
theorem dX9_set_39 : decode cX9_set 39 = .ok (.bipush (-2), 2) := by decide +kernel
theorem dX9_set_41 : decode cX9_set 41 = .ok (.ireturn, 1) := by decide +kernel
theorem dX9_set_42 : decode cX9_set 42 = .ok (.iload_n 2, 1) := by decide +kernel
theorem dX9_set_43 : decode cX9_set 43 = .ok (.ifCond .ne 13, 3) := by decide +kernel
theorem dX9_set_46 : decode cX9_set 46 = .ok (.aload_n 0, 1) := by decide +kernel
theorem dX9_set_47 : decode cX9_set 47 = .ok (.getfield 12, 3) := by decide +kernel
theorem dX9_set_50 : decode cX9_set 50 = .ok (.getfield 123, 3) := by decide +kernel
theorem dX9_set_53 : decode cX9_set 53 = .ok (.goto 10, 3) := by decide +kernel
theorem dX9_set_56 : decode cX9_set 56 = .ok (.aload_n 0, 1) := by decide +kernel
theorem dX9_set_57 : decode cX9_set 57 = .ok (.getfield 12, 3) := by decide +kernel
theorem dX9_set_60 : decode cX9_set 60 = .ok (.getfield 126, 3) := by decide +kernel
theorem dX9_set_63 : decode cX9_set 63 = .ok (.astore 4, 2) := by decide +kernel
theorem dX9_set_65 : decode cX9_set 65 = .ok (.aload 4, 2) := by decide +kernel
theorem dX9_set_67 : decode cX9_set 67 = .ok (.iload_n 1, 1) := by decide +kernel
theorem dX9_set_68 : decode cX9_set 68 = .ok (.iaload, 1) := by decide +kernel
theorem dX9_set_69 : decode cX9_set 69 = .ok (.istore 5, 2) := by decide +kernel
theorem dX9_set_71 : decode cX9_set 71 = .ok (.aload 4, 2) := by decide +kernel
theorem dX9_set_73 : decode cX9_set 73 = .ok (.iload_n 1, 1) := by decide +kernel
theorem dX9_set_74 : decode cX9_set 74 = .ok (.iload_n 3, 1) := by decide +kernel
theorem dX9_set_75 : decode cX9_set 75 = .ok (.iastore, 1) := by decide +kernel
theorem dX9_set_76 : decode cX9_set 76 = .ok (.iload 5, 2) := by decide +kernel
theorem dX9_set_78 : decode cX9_set 78 = .ok (.ireturn, 1) := by decide +kernel
theorem dX9_told_0 : decode cX9_told 0 = .ok (.aload_n 0, 1) := by decide +kernel
theorem dX9_told_1 : decode cX9_told 1 = .ok (.getfield 12, 3) := by decide +kernel
theorem dX9_told_4 : decode cX9_told 4 = .ok (.iload_n 1, 1) := by decide +kernel
theorem dX9_told_5 : decode cX9_told 5 = .ok (.invokevirtual 114, 3) := by decide +kernel
theorem dX9_told_8 : decode cX9_told 8 = .ok (.ifCond .ne 6, 3) := by decide +kernel
theorem dX9_told_11 : decode cX9_told 11 = .ok (.bipush (-2), 2) := by decide +kernel
theorem dX9_told_13 : decode cX9_told 13 = .ok (.ireturn, 1) := by decide +kernel
theorem dX9_told_14 : decode cX9_told 14 = .ok (.iload_n 2, 1) := by decide +kernel
theorem dX9_told_15 : decode cX9_told 15 = .ok (.tableswitch 120 0 4 #[33, 43, 53, 62, 97], 33) := by decide +kernel
theorem dX9_told_48 : decode cX9_told 48 = .ok (.aload_n 0, 1) := by decide +kernel
theorem dX9_told_49 : decode cX9_told 49 = .ok (.getfield 12, 3) := by decide +kernel
theorem dX9_told_52 : decode cX9_told 52 = .ok (.getfield 123, 3) := by decide +kernel
theorem dX9_told_55 : decode cX9_told 55 = .ok (.iload_n 1, 1) := by decide +kernel
theorem dX9_told_56 : decode cX9_told 56 = .ok (.iaload, 1) := by decide +kernel
theorem dX9_told_57 : decode cX9_told 57 = .ok (.ireturn, 1) := by decide +kernel
theorem dX9_told_58 : decode cX9_told 58 = .ok (.aload_n 0, 1) := by decide +kernel
theorem dX9_told_59 : decode cX9_told 59 = .ok (.getfield 12, 3) := by decide +kernel
theorem dX9_told_62 : decode cX9_told 62 = .ok (.getfield 126, 3) := by decide +kernel
theorem dX9_told_65 : decode cX9_told 65 = .ok (.iload_n 1, 1) := by decide +kernel
theorem dX9_told_66 : decode cX9_told 66 = .ok (.iaload, 1) := by decide +kernel
theorem dX9_told_67 : decode cX9_told 67 = .ok (.ireturn, 1) := by decide +kernel
theorem dX9_told_68 : decode cX9_told 68 = .ok (.aload_n 0, 1) := by decide +kernel
theorem dX9_told_69 : decode cX9_told 69 = .ok (.getfield 12, 3) := by decide +kernel
theorem dX9_told_72 : decode cX9_told 72 = .ok (.iload_n 1, 1) := by decide +kernel
theorem dX9_told_73 : decode cX9_told 73 = .ok (.invokevirtual 129, 3) := by decide +kernel
theorem dX9_told_76 : decode cX9_told 76 = .ok (.ireturn, 1) := by decide +kernel
theorem dX9_told_77 : decode cX9_told 77 = .ok (.aload_n 0, 1) := by decide +kernel
theorem dX9_told_78 : decode cX9_told 78 = .ok (.getfield 12, 3) := by decide +kernel
theorem dX9_told_81 : decode cX9_told 81 = .ok (.getfield 133, 3) := by decide +kernel
theorem dX9_told_84 : decode cX9_told 84 = .ok (.iload_n 1, 1) := by decide +kernel
theorem dX9_told_85 : decode cX9_told 85 = .ok (.laload, 1) := by decide +kernel
theorem dX9_told_86 : decode cX9_told 86 = .ok (.lconst 0, 1) := by decide +kernel
theorem dX9_told_87 : decode cX9_told 87 = .ok (.lcmp, 1) := by decide +kernel
theorem dX9_told_88 : decode cX9_told 88 = .ok (.ifCond .ne 7, 3) := by decide +kernel
theorem dX9_told_91 : decode cX9_told 91 = .ok (.iconst (-1), 1) := by decide +kernel
theorem dX9_told_92 : decode cX9_told 92 = .ok (.goto 19, 3) := by decide +kernel
theorem dX9_told_95 : decode cX9_told 95 = .ok (.aload_n 0, 1) := by decide +kernel
theorem dX9_told_96 : decode cX9_told 96 = .ok (.getfield 12, 3) := by decide +kernel
theorem dX9_told_99 : decode cX9_told 99 = .ok (.aload_n 0, 1) := by decide +kernel
theorem dX9_told_100 : decode cX9_told 100 = .ok (.getfield 12, 3) := by decide +kernel
theorem dX9_told_103 : decode cX9_told 103 = .ok (.getfield 133, 3) := by decide +kernel
theorem dX9_told_106 : decode cX9_told 106 = .ok (.iload_n 1, 1) := by decide +kernel
theorem dX9_told_107 : decode cX9_told 107 = .ok (.laload, 1) := by decide +kernel
theorem dX9_told_108 : decode cX9_told 108 = .ok (.invokevirtual 137, 3) := by decide +kernel
theorem dX9_told_111 : decode cX9_told 111 = .ok (.ireturn, 1) := by decide +kernel
theorem dX9_told_112 : decode cX9_told 112 = .ok (.aload_n 0, 1) := by decide +kernel
theorem dX9_told_113 : decode cX9_told 113 = .ok (.getfield 26, 3) := by decide +kernel
theorem dX9_told_116 : decode cX9_told 116 = .ok (.aload_n 0, 1) := by decide +kernel
theorem dX9_told_117 : decode cX9_told 117 = .ok (.getfield 12, 3) := by decide +kernel
theorem dX9_told_120 : decode cX9_told 120 = .ok (.invokevirtual 141, 3) := by decide +kernel
theorem dX9_told_123 : decode cX9_told 123 = .ok (.aload_n 0, 1) := by decide +kernel
theorem dX9_told_124 : decode cX9_told 124 = .ok (.getfield 26, 3) := by decide +kernel
theorem dX9_told_127 : decode cX9_told 127 = .ok (.iconst 1, 1) := by decide +kernel
theorem dX9_told_128 : decode cX9_told 128 = .ok (.iload_n 1, 1) := by decide +kernel
theorem dX9_told_129 : decode cX9_told 129 = .ok (.ishl, 1) := by decide +kernel
theorem dX9_told_130 : decode cX9_told 130 = .ok (.iconst 0, 1) := by decide +kernel
theorem dX9_told_131 : decode cX9_told 131 = .ok (.invokevirtual 145, 3) := by decide +kernel
theorem dX9_told_134 : decode cX9_told 134 = .ok (.ireturn, 1) := by decide +kernel
theorem dX9_told_135 : decode cX9_told 135 = .ok (.bipush (-2), 2) := by decide +kernel
theorem dX9_told_137 : decode cX9_told 137 = .ok (.ireturn, 1) := by decide +kernel
theorem dX9_number_0 : decode cX9_number 0 = .ok (.aload_n 0, 1) := by decide +kernel
theorem dX9_number_1 : decode cX9_number 1 = .ok (.getfield 12, 3) := by decide +kernel
theorem dX9_number_4 : decode cX9_number 4 = .ok (.iload_n 1, 1) := by decide +kernel
theorem dX9_number_5 : decode cX9_number 5 = .ok (.invokevirtual 114, 3) := by decide +kernel
theorem dX9_number_8 : decode cX9_number 8 = .ok (.ifCond .eq 25, 3) := by decide +kernel
theorem dX9_number_11 : decode cX9_number 11 = .ok (.iload_n 2, 1) := by decide +kernel
theorem dX9_number_12 : decode cX9_number 12 = .ok (.invokestatic 117, 3) := by decide +kernel
theorem dX9_number_15 : decode cX9_number 15 = .ok (.ifCond .eq 18, 3) := by decide +kernel
theorem dX9_number_18 : decode cX9_number 18 = .ok (.iload_n 3, 1) := by decide +kernel
theorem dX9_number_19 : decode cX9_number 19 = .ok (.ifCond .lt 14, 3) := by decide +kernel
theorem dX9_number_22 : decode cX9_number 22 = .ok (.iload_n 3, 1) := by decide +kernel
theorem dX9_number_23 : decode cX9_number 23 = .ok (.aload_n 0, 1) := by decide +kernel
theorem dX9_number_24 : decode cX9_number 24 = .ok (.getfield 12, 3) := by decide +kernel
theorem dX9_number_27 : decode cX9_number 27 = .ok (.getfield 90, 3) := by decide +kernel
theorem dX9_number_30 : decode cX9_number 30 = .ok (.if_icmp .lt 6, 3) := by decide +kernel
theorem dX9_number_33 : decode cX9_number 33 = .ok (.bipush (-2), 2) := by decide +kernel
theorem dX9_number_35 : decode cX9_number 35 = .ok (.ireturn, 1) := by decide +kernel
theorem dX9_number_36 : decode cX9_number 36 = .ok (.aload_n 0, 1) := by decide +kernel
theorem dX9_number_37 : decode cX9_number 37 = .ok (.getfield 12, 3) := by decide +kernel
theorem dX9_number_40 : decode cX9_number 40 = .ok (.iload_n 1, 1) := by decide +kernel
theorem dX9_number_41 : decode cX9_number 41 = .ok (.iload_n 2, 1) := by decide +kernel
theorem dX9_number_42 : decode cX9_number 42 = .ok (.iload_n 3, 1) := by decide +kernel
theorem dX9_number_43 : decode cX9_number 43 = .ok (.invokevirtual 148, 3) := by decide +kernel
theorem dX9_number_46 : decode cX9_number 46 = .ok (.ireturn, 1) := by decide +kernel
theorem dX9_drop_0 : decode cX9_drop 0 = .ok (.aload_n 0, 1) := by decide +kernel
theorem dX9_drop_1 : decode cX9_drop 1 = .ok (.getfield 12, 3) := by decide +kernel
theorem dX9_drop_4 : decode cX9_drop 4 = .ok (.getfield 107, 3) := by decide +kernel
theorem dX9_drop_7 : decode cX9_drop 7 = .ok (.ifCond .ne 6, 3) := by decide +kernel
theorem dX9_drop_10 : decode cX9_drop 10 = .ok (.bipush (-3), 2) := by decide +kernel
theorem dX9_drop_12 : decode cX9_drop 12 = .ok (.ireturn, 1) := by decide +kernel
theorem dX9_drop_13 : decode cX9_drop 13 = .ok (.aload_n 0, 1) := by decide +kernel
theorem dX9_drop_14 : decode cX9_drop 14 = .ok (.getfield 12, 3) := by decide +kernel
theorem dX9_drop_17 : decode cX9_drop 17 = .ok (.dup, 1) := by decide +kernel
theorem dX9_drop_18 : decode cX9_drop 18 = .ok (.getfield 107, 3) := by decide +kernel
theorem dX9_drop_21 : decode cX9_drop 21 = .ok (.iconst 1, 1) := by decide +kernel
theorem dX9_drop_22 : decode cX9_drop 22 = .ok (.isub, 1) := by decide +kernel
theorem dX9_drop_23 : decode cX9_drop 23 = .ok (.putfield 107, 3) := by decide +kernel
theorem dX9_drop_26 : decode cX9_drop 26 = .ok (.aload_n 0, 1) := by decide +kernel
theorem dX9_drop_27 : decode cX9_drop 27 = .ok (.getfield 12, 3) := by decide +kernel
theorem dX9_drop_30 : decode cX9_drop 30 = .ok (.getfield 107, 3) := by decide +kernel
theorem dX9_drop_33 : decode cX9_drop 33 = .ok (.ireturn, 1) := by decide +kernel
theorem dX9_name_0 : decode cX9_name 0 = .ok (.aload_n 0, 1) := by decide +kernel
theorem dX9_name_1 : decode cX9_name 1 = .ok (.getfield 12, 3) := by decide +kernel
theorem dX9_name_4 : decode cX9_name 4 = .ok (.iload_n 1, 1) := by decide +kernel
theorem dX9_name_5 : decode cX9_name 5 = .ok (.invokevirtual 114, 3) := by decide +kernel
theorem dX9_name_8 : decode cX9_name 8 = .ok (.ifCond .eq 10, 3) := by decide +kernel
theorem dX9_name_11 : decode cX9_name 11 = .ok (.lload_n 2, 1) := by decide +kernel
theorem dX9_name_12 : decode cX9_name 12 = .ok (.invokestatic 151, 3) := by decide +kernel
theorem dX9_name_15 : decode cX9_name 15 = .ok (.ifCond .ne 6, 3) := by decide +kernel
theorem dX9_name_18 : decode cX9_name 18 = .ok (.bipush (-2), 2) := by decide +kernel
theorem dX9_name_20 : decode cX9_name 20 = .ok (.ireturn, 1) := by decide +kernel
theorem dX9_name_21 : decode cX9_name 21 = .ok (.aload_n 0, 1) := by decide +kernel
theorem dX9_name_22 : decode cX9_name 22 = .ok (.getfield 12, 3) := by decide +kernel
theorem dX9_name_25 : decode cX9_name 25 = .ok (.lload_n 2, 1) := by decide +kernel
theorem dX9_name_26 : decode cX9_name 26 = .ok (.invokevirtual 155, 3) := by decide +kernel
theorem dX9_name_29 : decode cX9_name 29 = .ok (.istore 4, 2) := by decide +kernel
theorem dX9_name_31 : decode cX9_name 31 = .ok (.iload 4, 2) := by decide +kernel
theorem dX9_name_33 : decode cX9_name 33 = .ok (.iconst (-1), 1) := by decide +kernel
theorem dX9_name_34 : decode cX9_name 34 = .ok (.if_icmp .eq 12, 3) := by decide +kernel
theorem dX9_name_37 : decode cX9_name 37 = .ok (.iload 4, 2) := by decide +kernel
theorem dX9_name_39 : decode cX9_name 39 = .ok (.iload_n 1, 1) := by decide +kernel
theorem dX9_name_40 : decode cX9_name 40 = .ok (.if_icmp .eq 6, 3) := by decide +kernel
theorem dX9_name_43 : decode cX9_name 43 = .ok (.bipush (-3), 2) := by decide +kernel
theorem dX9_name_45 : decode cX9_name 45 = .ok (.ireturn, 1) := by decide +kernel
theorem dX9_name_46 : decode cX9_name 46 = .ok (.aload_n 0, 1) := by decide +kernel
theorem dX9_name_47 : decode cX9_name 47 = .ok (.getfield 12, 3) := by decide +kernel
theorem dX9_name_50 : decode cX9_name 50 = .ok (.getfield 133, 3) := by decide +kernel
theorem dX9_name_53 : decode cX9_name 53 = .ok (.iload_n 1, 1) := by decide +kernel
theorem dX9_name_54 : decode cX9_name 54 = .ok (.lload_n 2, 1) := by decide +kernel
theorem dX9_name_55 : decode cX9_name 55 = .ok (.lastore, 1) := by decide +kernel
theorem dX9_name_56 : decode cX9_name 56 = .ok (.iconst 1, 1) := by decide +kernel
theorem dX9_name_57 : decode cX9_name 57 = .ok (.ireturn, 1) := by decide +kernel
theorem dX9_named_0 : decode cX9_named 0 = .ok (.lload_n 1, 1) := by decide +kernel
theorem dX9_named_1 : decode cX9_named 1 = .ok (.invokestatic 151, 3) := by decide +kernel
theorem dX9_named_4 : decode cX9_named 4 = .ok (.ifCond .eq 14, 3) := by decide +kernel
theorem dX9_named_7 : decode cX9_named 7 = .ok (.aload_n 0, 1) := by decide +kernel
theorem dX9_named_8 : decode cX9_named 8 = .ok (.getfield 12, 3) := by decide +kernel
theorem dX9_named_11 : decode cX9_named 11 = .ok (.lload_n 1, 1) := by decide +kernel
theorem dX9_named_12 : decode cX9_named 12 = .ok (.invokevirtual 155, 3) := by decide +kernel
theorem dX9_named_15 : decode cX9_named 15 = .ok (.goto 5, 3) := by decide +kernel
theorem dX9_named_18 : decode cX9_named 18 = .ok (.bipush (-2), 2) := by decide +kernel
theorem dX9_named_20 : decode cX9_named 20 = .ok (.ireturn, 1) := by decide +kernel
theorem dX9_unname_0 : decode cX9_unname 0 = .ok (.aload_n 0, 1) := by decide +kernel
theorem dX9_unname_1 : decode cX9_unname 1 = .ok (.getfield 12, 3) := by decide +kernel
theorem dX9_unname_4 : decode cX9_unname 4 = .ok (.iload_n 1, 1) := by decide +kernel
theorem dX9_unname_5 : decode cX9_unname 5 = .ok (.invokevirtual 114, 3) := by decide +kernel
theorem dX9_unname_8 : decode cX9_unname 8 = .ok (.ifCond .ne 6, 3) := by decide +kernel
theorem dX9_unname_11 : decode cX9_unname 11 = .ok (.bipush (-2), 2) := by decide +kernel
theorem dX9_unname_13 : decode cX9_unname 13 = .ok (.ireturn, 1) := by decide +kernel
theorem dX9_unname_14 : decode cX9_unname 14 = .ok (.aload_n 0, 1) := by decide +kernel
theorem dX9_unname_15 : decode cX9_unname 15 = .ok (.getfield 12, 3) := by decide +kernel
theorem dX9_unname_18 : decode cX9_unname 18 = .ok (.getfield 133, 3) := by decide +kernel
theorem dX9_unname_21 : decode cX9_unname 21 = .ok (.iload_n 1, 1) := by decide +kernel
theorem dX9_unname_22 : decode cX9_unname 22 = .ok (.laload, 1) := by decide +kernel
theorem dX9_unname_23 : decode cX9_unname 23 = .ok (.lconst 0, 1) := by decide +kernel
theorem dX9_unname_24 : decode cX9_unname 24 = .ok (.lcmp, 1) := by decide +kernel
theorem dX9_unname_25 : decode cX9_unname 25 = .ok (.ifCond .ne 7, 3) := by decide +kernel
theorem dX9_unname_28 : decode cX9_unname 28 = .ok (.iconst 0, 1) := by decide +kernel
theorem dX9_unname_29 : decode cX9_unname 29 = .ok (.goto 4, 3) := by decide +kernel
theorem dX9_unname_32 : decode cX9_unname 32 = .ok (.iconst 1, 1) := by decide +kernel
theorem dX9_unname_33 : decode cX9_unname 33 = .ok (.istore_n 2, 1) := by decide +kernel
theorem dX9_unname_34 : decode cX9_unname 34 = .ok (.aload_n 0, 1) := by decide +kernel
theorem dX9_unname_35 : decode cX9_unname 35 = .ok (.getfield 12, 3) := by decide +kernel
theorem dX9_unname_38 : decode cX9_unname 38 = .ok (.getfield 133, 3) := by decide +kernel
theorem dX9_unname_41 : decode cX9_unname 41 = .ok (.iload_n 1, 1) := by decide +kernel
theorem dX9_unname_42 : decode cX9_unname 42 = .ok (.lconst 0, 1) := by decide +kernel
theorem dX9_unname_43 : decode cX9_unname 43 = .ok (.lastore, 1) := by decide +kernel
theorem dX9_unname_44 : decode cX9_unname 44 = .ok (.iload_n 2, 1) := by decide +kernel
theorem dX9_unname_45 : decode cX9_unname 45 = .ok (.ireturn, 1) := by decide +kernel
theorem dX9_nameAt_0 : decode cX9_nameAt 0 = .ok (.iconst 0, 1) := by decide +kernel
theorem dX9_nameAt_1 : decode cX9_nameAt 1 = .ok (.istore_n 2, 1) := by decide +kernel
theorem dX9_nameAt_2 : decode cX9_nameAt 2 = .ok (.iload_n 2, 1) := by decide +kernel
theorem dX9_nameAt_3 : decode cX9_nameAt 3 = .ok (.aload_n 0, 1) := by decide +kernel
theorem dX9_nameAt_4 : decode cX9_nameAt 4 = .ok (.getfield 12, 3) := by decide +kernel
theorem dX9_nameAt_7 : decode cX9_nameAt 7 = .ok (.getfield 107, 3) := by decide +kernel
theorem dX9_nameAt_10 : decode cX9_nameAt 10 = .ok (.if_icmp .ge 39, 3) := by decide +kernel
theorem dX9_nameAt_13 : decode cX9_nameAt 13 = .ok (.aload_n 0, 1) := by decide +kernel
theorem dX9_nameAt_14 : decode cX9_nameAt 14 = .ok (.getfield 12, 3) := by decide +kernel
theorem dX9_nameAt_17 : decode cX9_nameAt 17 = .ok (.getfield 133, 3) := by decide +kernel
theorem dX9_nameAt_20 : decode cX9_nameAt 20 = .ok (.iload_n 2, 1) := by decide +kernel
theorem dX9_nameAt_21 : decode cX9_nameAt 21 = .ok (.laload, 1) := by decide +kernel
theorem dX9_nameAt_22 : decode cX9_nameAt 22 = .ok (.lstore_n 3, 1) := by decide +kernel
theorem dX9_nameAt_23 : decode cX9_nameAt 23 = .ok (.lload_n 3, 1) := by decide +kernel
theorem dX9_nameAt_24 : decode cX9_nameAt 24 = .ok (.lconst 0, 1) := by decide +kernel
theorem dX9_nameAt_25 : decode cX9_nameAt 25 = .ok (.lcmp, 1) := by decide +kernel
theorem dX9_nameAt_26 : decode cX9_nameAt 26 = .ok (.ifCond .eq 17, 3) := by decide +kernel
theorem dX9_nameAt_29 : decode cX9_nameAt 29 = .ok (.aload_n 0, 1) := by decide +kernel
theorem dX9_nameAt_30 : decode cX9_nameAt 30 = .ok (.getfield 12, 3) := by decide +kernel
theorem dX9_nameAt_33 : decode cX9_nameAt 33 = .ok (.lload_n 3, 1) := by decide +kernel
theorem dX9_nameAt_34 : decode cX9_nameAt 34 = .ok (.invokevirtual 137, 3) := by decide +kernel
theorem dX9_nameAt_37 : decode cX9_nameAt 37 = .ok (.iload_n 1, 1) := by decide +kernel
theorem dX9_nameAt_38 : decode cX9_nameAt 38 = .ok (.if_icmp .ne 5, 3) := by decide +kernel
theorem dX9_nameAt_41 : decode cX9_nameAt 41 = .ok (.lload_n 3, 1) := by decide +kernel
theorem dX9_nameAt_42 : decode cX9_nameAt 42 = .ok (.lreturn, 1) := by decide +kernel
theorem dX9_nameAt_43 : decode cX9_nameAt 43 = .ok (.iinc 2 1, 3) := by decide +kernel
theorem dX9_nameAt_46 : decode cX9_nameAt 46 = .ok (.goto (-44), 3) := by decide +kernel
theorem dX9_nameAt_49 : decode cX9_nameAt 49 = .ok (.ldc2_w 158, 3) := by decide +kernel
theorem dX9_nameAt_52 : decode cX9_nameAt 52 = .ok (.lreturn, 1) := by decide +kernel
theorem dX9_rank_0 : decode cX9_rank 0 = .ok (.aload_n 0, 1) := by decide +kernel
theorem dX9_rank_1 : decode cX9_rank 1 = .ok (.getfield 12, 3) := by decide +kernel
theorem dX9_rank_4 : decode cX9_rank 4 = .ok (.iload_n 1, 1) := by decide +kernel
theorem dX9_rank_5 : decode cX9_rank 5 = .ok (.invokevirtual 160, 3) := by decide +kernel
theorem dX9_rank_8 : decode cX9_rank 8 = .ok (.ifCond .ne 6, 3) := by decide +kernel
theorem dX9_rank_11 : decode cX9_rank 11 = .ok (.bipush (-2), 2) := by decide +kernel
theorem dX9_rank_13 : decode cX9_rank 13 = .ok (.ireturn, 1) := by decide +kernel
theorem dX9_rank_14 : decode cX9_rank 14 = .ok (.aload_n 0, 1) := by decide +kernel
theorem dX9_rank_15 : decode cX9_rank 15 = .ok (.getfield 26, 3) := by decide +kernel
theorem dX9_rank_18 : decode cX9_rank 18 = .ok (.aload_n 0, 1) := by decide +kernel
theorem dX9_rank_19 : decode cX9_rank 19 = .ok (.getfield 12, 3) := by decide +kernel
theorem dX9_rank_22 : decode cX9_rank 22 = .ok (.invokevirtual 141, 3) := by decide +kernel
theorem dX9_rank_25 : decode cX9_rank 25 = .ok (.aload_n 0, 1) := by decide +kernel
theorem dX9_rank_26 : decode cX9_rank 26 = .ok (.getfield 26, 3) := by decide +kernel
theorem dX9_rank_29 : decode cX9_rank 29 = .ok (.iload_n 1, 1) := by decide +kernel
theorem dX9_rank_30 : decode cX9_rank 30 = .ok (.iconst 0, 1) := by decide +kernel
theorem dX9_rank_31 : decode cX9_rank 31 = .ok (.invokevirtual 145, 3) := by decide +kernel
theorem dX9_rank_34 : decode cX9_rank 34 = .ok (.ireturn, 1) := by decide +kernel
theorem dX9_stands_0 : decode cX9_stands 0 = .ok (.aload_n 0, 1) := by decide +kernel
theorem dX9_stands_1 : decode cX9_stands 1 = .ok (.getfield 12, 3) := by decide +kernel
theorem dX9_stands_4 : decode cX9_stands 4 = .ok (.iload_n 1, 1) := by decide +kernel
theorem dX9_stands_5 : decode cX9_stands 5 = .ok (.invokevirtual 160, 3) := by decide +kernel
theorem dX9_stands_8 : decode cX9_stands 8 = .ok (.ifCond .ne 6, 3) := by decide +kernel
theorem dX9_stands_11 : decode cX9_stands 11 = .ok (.bipush (-2), 2) := by decide +kernel
theorem dX9_stands_13 : decode cX9_stands 13 = .ok (.ireturn, 1) := by decide +kernel
theorem dX9_stands_14 : decode cX9_stands 14 = .ok (.aload_n 0, 1) := by decide +kernel
theorem dX9_stands_15 : decode cX9_stands 15 = .ok (.getfield 26, 3) := by decide +kernel
theorem dX9_stands_18 : decode cX9_stands 18 = .ok (.aload_n 0, 1) := by decide +kernel
theorem dX9_stands_19 : decode cX9_stands 19 = .ok (.getfield 12, 3) := by decide +kernel
theorem dX9_stands_22 : decode cX9_stands 22 = .ok (.invokevirtual 141, 3) := by decide +kernel
theorem dX9_stands_25 : decode cX9_stands 25 = .ok (.aload_n 0, 1) := by decide +kernel
theorem dX9_stands_26 : decode cX9_stands 26 = .ok (.getfield 26, 3) := by decide +kernel
theorem dX9_stands_29 : decode cX9_stands 29 = .ok (.iload_n 1, 1) := by decide +kernel
theorem dX9_stands_30 : decode cX9_stands 30 = .ok (.invokevirtual 163, 3) := by decide +kernel
theorem dX9_stands_33 : decode cX9_stands 33 = .ok (.ifCond .eq 7, 3) := by decide +kernel
theorem dX9_stands_36 : decode cX9_stands 36 = .ok (.iconst 1, 1) := by decide +kernel
theorem dX9_stands_37 : decode cX9_stands 37 = .ok (.goto 4, 3) := by decide +kernel
theorem dX9_stands_40 : decode cX9_stands 40 = .ok (.iconst 0, 1) := by decide +kernel
theorem dX9_stands_41 : decode cX9_stands 41 = .ok (.ireturn, 1) := by decide +kernel
theorem dX9_most_0 : decode cX9_most 0 = .ok (.aload_n 0, 1) := by decide +kernel
theorem dX9_most_1 : decode cX9_most 1 = .ok (.invokevirtual 166, 3) := by decide +kernel
theorem dX9_most_4 : decode cX9_most 4 = .ok (.aload_n 0, 1) := by decide +kernel
theorem dX9_most_5 : decode cX9_most 5 = .ok (.getfield 33, 3) := by decide +kernel
theorem dX9_most_8 : decode cX9_most 8 = .ok (.invokevirtual 169, 3) := by decide +kernel
theorem dX9_most_11 : decode cX9_most 11 = .ok (.ireturn, 1) := by decide +kernel
theorem dX9_best_0 : decode cX9_best 0 = .ok (.iload_n 1, 1) := by decide +kernel
theorem dX9_best_1 : decode cX9_best 1 = .ok (.ifCond .lt 8, 3) := by decide +kernel
theorem dX9_best_4 : decode cX9_best 4 = .ok (.iload_n 1, 1) := by decide +kernel
theorem dX9_best_5 : decode cX9_best 5 = .ok (.iconst 3, 1) := by decide +kernel
theorem dX9_best_6 : decode cX9_best 6 = .ok (.if_icmp .le 6, 3) := by decide +kernel
theorem dX9_best_9 : decode cX9_best 9 = .ok (.bipush (-2), 2) := by decide +kernel
theorem dX9_best_11 : decode cX9_best 11 = .ok (.ireturn, 1) := by decide +kernel
theorem dX9_best_12 : decode cX9_best 12 = .ok (.aload_n 0, 1) := by decide +kernel
theorem dX9_best_13 : decode cX9_best 13 = .ok (.invokevirtual 166, 3) := by decide +kernel
theorem dX9_best_16 : decode cX9_best 16 = .ok (.aload_n 0, 1) := by decide +kernel
theorem dX9_best_17 : decode cX9_best 17 = .ok (.getfield 33, 3) := by decide +kernel
theorem dX9_best_20 : decode cX9_best 20 = .ok (.invokevirtual 169, 3) := by decide +kernel
theorem dX9_best_23 : decode cX9_best 23 = .ok (.istore_n 2, 1) := by decide +kernel
theorem dX9_best_24 : decode cX9_best 24 = .ok (.iconst 0, 1) := by decide +kernel
theorem dX9_best_25 : decode cX9_best 25 = .ok (.istore_n 3, 1) := by decide +kernel
theorem dX9_best_26 : decode cX9_best 26 = .ok (.iconst 0, 1) := by decide +kernel
theorem dX9_best_27 : decode cX9_best 27 = .ok (.istore 4, 2) := by decide +kernel
theorem dX9_best_29 : decode cX9_best 29 = .ok (.aload_n 0, 1) := by decide +kernel
theorem dX9_best_30 : decode cX9_best 30 = .ok (.getfield 33, 3) := by decide +kernel
theorem dX9_best_33 : decode cX9_best 33 = .ok (.getfield 173, 3) := by decide +kernel
theorem dX9_best_36 : decode cX9_best 36 = .ok (.iconst 1, 1) := by decide +kernel
theorem dX9_best_37 : decode cX9_best 37 = .ok (.isub, 1) := by decide +kernel
theorem dX9_best_38 : decode cX9_best 38 = .ok (.istore 5, 2) := by decide +kernel
theorem dX9_best_40 : decode cX9_best 40 = .ok (.iconst 0, 1) := by decide +kernel
theorem dX9_best_41 : decode cX9_best 41 = .ok (.istore 6, 2) := by decide +kernel
theorem dX9_best_43 : decode cX9_best 43 = .ok (.aload_n 0, 1) := by decide +kernel
theorem dX9_best_44 : decode cX9_best 44 = .ok (.getfield 33, 3) := by decide +kernel
theorem dX9_best_47 : decode cX9_best 47 = .ok (.getfield 173, 3) := by decide +kernel
theorem dX9_best_50 : decode cX9_best 50 = .ok (.iconst 1, 1) := by decide +kernel
theorem dX9_best_51 : decode cX9_best 51 = .ok (.isub, 1) := by decide +kernel
theorem dX9_best_52 : decode cX9_best 52 = .ok (.istore 7, 2) := by decide +kernel
theorem dX9_best_54 : decode cX9_best 54 = .ok (.iload 7, 2) := by decide +kernel
theorem dX9_best_56 : decode cX9_best 56 = .ok (.ifCond .lt 51, 3) := by decide +kernel
theorem dX9_best_59 : decode cX9_best 59 = .ok (.aload_n 0, 1) := by decide +kernel
theorem dX9_best_60 : decode cX9_best 60 = .ok (.getfield 33, 3) := by decide +kernel
theorem dX9_best_63 : decode cX9_best 63 = .ok (.getfield 176, 3) := by decide +kernel
theorem dX9_best_66 : decode cX9_best 66 = .ok (.iload 7, 2) := by decide +kernel
theorem dX9_best_68 : decode cX9_best 68 = .ok (.baload, 1) := by decide +kernel
theorem dX9_best_69 : decode cX9_best 69 = .ok (.ifCond .eq 32, 3) := by decide +kernel
theorem dX9_best_72 : decode cX9_best 72 = .ok (.iload 7, 2) := by decide +kernel
theorem dX9_best_74 : decode cX9_best 74 = .ok (.invokestatic 180, 3) := by decide +kernel
theorem dX9_best_77 : decode cX9_best 77 = .ok (.iload_n 2, 1) := by decide +kernel
theorem dX9_best_78 : decode cX9_best 78 = .ok (.if_icmp .ne 23, 3) := by decide +kernel
theorem dX9_best_81 : decode cX9_best 81 = .ok (.iload 7, 2) := by decide +kernel
theorem dX9_best_83 : decode cX9_best 83 = .ok (.istore_n 3, 1) := by decide +kernel
theorem dX9_best_84 : decode cX9_best 84 = .ok (.iinc 4 1, 3) := by decide +kernel
theorem dX9_best_87 : decode cX9_best 87 = .ok (.iload 5, 2) := by decide +kernel
theorem dX9_best_89 : decode cX9_best 89 = .ok (.iload 7, 2) := by decide +kernel
theorem dX9_best_91 : decode cX9_best 91 = .ok (.iand, 1) := by decide +kernel
theorem dX9_best_92 : decode cX9_best 92 = .ok (.istore 5, 2) := by decide +kernel
theorem dX9_best_94 : decode cX9_best 94 = .ok (.iload 6, 2) := by decide +kernel
theorem dX9_best_96 : decode cX9_best 96 = .ok (.iload 7, 2) := by decide +kernel
theorem dX9_best_98 : decode cX9_best 98 = .ok (.ior, 1) := by decide +kernel
theorem dX9_best_99 : decode cX9_best 99 = .ok (.istore 6, 2) := by decide +kernel
theorem dX9_best_101 : decode cX9_best 101 = .ok (.iinc 7 (-1), 3) := by decide +kernel
theorem dX9_best_104 : decode cX9_best 104 = .ok (.goto (-50), 3) := by decide +kernel
theorem dX9_best_107 : decode cX9_best 107 = .ok (.iload_n 1, 1) := by decide +kernel
theorem dX9_best_108 : decode cX9_best 108 = .ok (.tableswitch 36 0 2 #[28, 30, 33], 28) := by decide +kernel
theorem dX9_best_136 : decode cX9_best 136 = .ok (.iload_n 3, 1) := by decide +kernel
theorem dX9_best_137 : decode cX9_best 137 = .ok (.ireturn, 1) := by decide +kernel
theorem dX9_best_138 : decode cX9_best 138 = .ok (.iload 4, 2) := by decide +kernel
theorem dX9_best_140 : decode cX9_best 140 = .ok (.ireturn, 1) := by decide +kernel
theorem dX9_best_141 : decode cX9_best 141 = .ok (.iload 5, 2) := by decide +kernel
theorem dX9_best_143 : decode cX9_best 143 = .ok (.ireturn, 1) := by decide +kernel
theorem dX9_best_144 : decode cX9_best 144 = .ok (.iload 6, 2) := by decide +kernel
theorem dX9_best_146 : decode cX9_best 146 = .ok (.ireturn, 1) := by decide +kernel
theorem dX9_heavy_0 : decode cX9_heavy 0 = .ok (.iload_n 1, 1) := by decide +kernel
theorem dX9_heavy_1 : decode cX9_heavy 1 = .ok (.invokestatic 117, 3) := by decide +kernel
theorem dX9_heavy_4 : decode cX9_heavy 4 = .ok (.ifCond .ne 6, 3) := by decide +kernel
theorem dX9_heavy_7 : decode cX9_heavy 7 = .ok (.bipush (-2), 2) := by decide +kernel
theorem dX9_heavy_9 : decode cX9_heavy 9 = .ok (.ireturn, 1) := by decide +kernel
theorem dX9_heavy_10 : decode cX9_heavy 10 = .ok (.aload_n 0, 1) := by decide +kernel
theorem dX9_heavy_11 : decode cX9_heavy 11 = .ok (.invokevirtual 166, 3) := by decide +kernel
theorem dX9_heavy_14 : decode cX9_heavy 14 = .ok (.iconst 0, 1) := by decide +kernel
theorem dX9_heavy_15 : decode cX9_heavy 15 = .ok (.istore_n 2, 1) := by decide +kernel
theorem dX9_heavy_16 : decode cX9_heavy 16 = .ok (.iconst 0, 1) := by decide +kernel
theorem dX9_heavy_17 : decode cX9_heavy 17 = .ok (.istore_n 3, 1) := by decide +kernel
theorem dX9_heavy_18 : decode cX9_heavy 18 = .ok (.iconst 0, 1) := by decide +kernel
theorem dX9_heavy_19 : decode cX9_heavy 19 = .ok (.istore 4, 2) := by decide +kernel
theorem dX9_heavy_21 : decode cX9_heavy 21 = .ok (.iload 4, 2) := by decide +kernel
theorem dX9_heavy_23 : decode cX9_heavy 23 = .ok (.aload_n 0, 1) := by decide +kernel
theorem dX9_heavy_24 : decode cX9_heavy 24 = .ok (.getfield 33, 3) := by decide +kernel
theorem dX9_heavy_27 : decode cX9_heavy 27 = .ok (.getfield 173, 3) := by decide +kernel
theorem dX9_heavy_30 : decode cX9_heavy 30 = .ok (.if_icmp .ge 48, 3) := by decide +kernel
theorem dX9_heavy_33 : decode cX9_heavy 33 = .ok (.aload_n 0, 1) := by decide +kernel
theorem dX9_heavy_34 : decode cX9_heavy 34 = .ok (.getfield 33, 3) := by decide +kernel
theorem dX9_heavy_37 : decode cX9_heavy 37 = .ok (.getfield 176, 3) := by decide +kernel
theorem dX9_heavy_40 : decode cX9_heavy 40 = .ok (.iload 4, 2) := by decide +kernel
theorem dX9_heavy_42 : decode cX9_heavy 42 = .ok (.baload, 1) := by decide +kernel
theorem dX9_heavy_43 : decode cX9_heavy 43 = .ok (.ifCond .eq 29, 3) := by decide +kernel
theorem dX9_heavy_46 : decode cX9_heavy 46 = .ok (.aload_n 0, 1) := by decide +kernel
theorem dX9_heavy_47 : decode cX9_heavy 47 = .ok (.getfield 12, 3) := by decide +kernel
theorem dX9_heavy_50 : decode cX9_heavy 50 = .ok (.iload 4, 2) := by decide +kernel
theorem dX9_heavy_52 : decode cX9_heavy 52 = .ok (.invokevirtual 185, 3) := by decide +kernel
theorem dX9_heavy_55 : decode cX9_heavy 55 = .ok (.iload_n 3, 1) := by decide +kernel
theorem dX9_heavy_56 : decode cX9_heavy 56 = .ok (.if_icmp .le 16, 3) := by decide +kernel
theorem dX9_heavy_59 : decode cX9_heavy 59 = .ok (.iload 4, 2) := by decide +kernel
theorem dX9_heavy_61 : decode cX9_heavy 61 = .ok (.istore_n 2, 1) := by decide +kernel
theorem dX9_heavy_62 : decode cX9_heavy 62 = .ok (.aload_n 0, 1) := by decide +kernel
theorem dX9_heavy_63 : decode cX9_heavy 63 = .ok (.getfield 12, 3) := by decide +kernel
theorem dX9_heavy_66 : decode cX9_heavy 66 = .ok (.iload 4, 2) := by decide +kernel
theorem dX9_heavy_68 : decode cX9_heavy 68 = .ok (.invokevirtual 185, 3) := by decide +kernel
theorem dX9_heavy_71 : decode cX9_heavy 71 = .ok (.istore_n 3, 1) := by decide +kernel
theorem dX9_heavy_72 : decode cX9_heavy 72 = .ok (.iinc 4 1, 3) := by decide +kernel
theorem dX9_heavy_75 : decode cX9_heavy 75 = .ok (.goto (-54), 3) := by decide +kernel
theorem dX9_heavy_78 : decode cX9_heavy 78 = .ok (.iload_n 1, 1) := by decide +kernel
theorem dX9_heavy_79 : decode cX9_heavy 79 = .ok (.ifCond .ne 7, 3) := by decide +kernel
theorem dX9_heavy_82 : decode cX9_heavy 82 = .ok (.iload_n 2, 1) := by decide +kernel
theorem dX9_heavy_83 : decode cX9_heavy 83 = .ok (.goto 4, 3) := by decide +kernel
theorem dX9_heavy_86 : decode cX9_heavy 86 = .ok (.iload_n 3, 1) := by decide +kernel
theorem dX9_heavy_87 : decode cX9_heavy 87 = .ok (.ireturn, 1) := by decide +kernel
theorem dX9_queue_0 : decode cX9_queue 0 = .ok (.aload_n 0, 1) := by decide +kernel
theorem dX9_queue_1 : decode cX9_queue 1 = .ok (.getfield 12, 3) := by decide +kernel
theorem dX9_queue_4 : decode cX9_queue 4 = .ok (.iload_n 1, 1) := by decide +kernel
theorem dX9_queue_5 : decode cX9_queue 5 = .ok (.invokevirtual 114, 3) := by decide +kernel
theorem dX9_queue_8 : decode cX9_queue 8 = .ok (.ifCond .ne 6, 3) := by decide +kernel
theorem dX9_queue_11 : decode cX9_queue 11 = .ok (.bipush (-12), 2) := by decide +kernel
theorem dX9_queue_13 : decode cX9_queue 13 = .ok (.ireturn, 1) := by decide +kernel
theorem dX9_queue_14 : decode cX9_queue 14 = .ok (.aload_n 0, 1) := by decide +kernel
theorem dX9_queue_15 : decode cX9_queue 15 = .ok (.invokevirtual 188, 3) := by decide +kernel
theorem dX9_queue_18 : decode cX9_queue 18 = .ok (.aload_n 0, 1) := by decide +kernel
theorem dX9_queue_19 : decode cX9_queue 19 = .ok (.getfield 70, 3) := by decide +kernel
theorem dX9_queue_22 : decode cX9_queue 22 = .ok (.iload_n 1, 1) := by decide +kernel
theorem dX9_queue_23 : decode cX9_queue 23 = .ok (.iaload, 1) := by decide +kernel
theorem dX9_queue_24 : decode cX9_queue 24 = .ok (.ireturn, 1) := by decide +kernel
theorem dX9_greedy_0 : decode cX9_greedy 0 = .ok (.iload_n 1, 1) := by decide +kernel
theorem dX9_greedy_1 : decode cX9_greedy 1 = .ok (.invokestatic 117, 3) := by decide +kernel
theorem dX9_greedy_4 : decode cX9_greedy 4 = .ok (.ifCond .ne 6, 3) := by decide +kernel
theorem dX9_greedy_7 : decode cX9_greedy 7 = .ok (.bipush (-2), 2) := by decide +kernel
theorem dX9_greedy_9 : decode cX9_greedy 9 = .ok (.ireturn, 1) := by decide +kernel
theorem dX9_greedy_10 : decode cX9_greedy 10 = .ok (.aload_n 0, 1) := by decide +kernel
theorem dX9_greedy_11 : decode cX9_greedy 11 = .ok (.getfield 26, 3) := by decide +kernel
theorem dX9_greedy_14 : decode cX9_greedy 14 = .ok (.aload_n 0, 1) := by decide +kernel
theorem dX9_greedy_15 : decode cX9_greedy 15 = .ok (.getfield 12, 3) := by decide +kernel
theorem dX9_greedy_18 : decode cX9_greedy 18 = .ok (.invokevirtual 141, 3) := by decide +kernel
theorem dX9_greedy_21 : decode cX9_greedy 21 = .ok (.aload_n 0, 1) := by decide +kernel
theorem dX9_greedy_22 : decode cX9_greedy 22 = .ok (.invokevirtual 188, 3) := by decide +kernel
theorem dX9_greedy_25 : decode cX9_greedy 25 = .ok (.iconst 0, 1) := by decide +kernel
theorem dX9_greedy_26 : decode cX9_greedy 26 = .ok (.istore_n 2, 1) := by decide +kernel
theorem dX9_greedy_27 : decode cX9_greedy 27 = .ok (.iconst 0, 1) := by decide +kernel
theorem dX9_greedy_28 : decode cX9_greedy 28 = .ok (.istore_n 3, 1) := by decide +kernel
theorem dX9_greedy_29 : decode cX9_greedy 29 = .ok (.iload_n 3, 1) := by decide +kernel
theorem dX9_greedy_30 : decode cX9_greedy 30 = .ok (.aload_n 0, 1) := by decide +kernel
theorem dX9_greedy_31 : decode cX9_greedy 31 = .ok (.getfield 12, 3) := by decide +kernel
theorem dX9_greedy_34 : decode cX9_greedy 34 = .ok (.getfield 107, 3) := by decide +kernel
theorem dX9_greedy_37 : decode cX9_greedy 37 = .ok (.if_icmp .ge 36, 3) := by decide +kernel
theorem dX9_greedy_40 : decode cX9_greedy 40 = .ok (.iload_n 2, 1) := by decide +kernel
theorem dX9_greedy_41 : decode cX9_greedy 41 = .ok (.iconst 1, 1) := by decide +kernel
theorem dX9_greedy_42 : decode cX9_greedy 42 = .ok (.aload_n 0, 1) := by decide +kernel
theorem dX9_greedy_43 : decode cX9_greedy 43 = .ok (.getfield 70, 3) := by decide +kernel
theorem dX9_greedy_46 : decode cX9_greedy 46 = .ok (.iload_n 3, 1) := by decide +kernel
theorem dX9_greedy_47 : decode cX9_greedy 47 = .ok (.iaload, 1) := by decide +kernel
theorem dX9_greedy_48 : decode cX9_greedy 48 = .ok (.ishl, 1) := by decide +kernel
theorem dX9_greedy_49 : decode cX9_greedy 49 = .ok (.ior, 1) := by decide +kernel
theorem dX9_greedy_50 : decode cX9_greedy 50 = .ok (.istore 4, 2) := by decide +kernel
theorem dX9_greedy_52 : decode cX9_greedy 52 = .ok (.aload_n 0, 1) := by decide +kernel
theorem dX9_greedy_53 : decode cX9_greedy 53 = .ok (.getfield 26, 3) := by decide +kernel
theorem dX9_greedy_56 : decode cX9_greedy 56 = .ok (.iload 4, 2) := by decide +kernel
theorem dX9_greedy_58 : decode cX9_greedy 58 = .ok (.invokevirtual 163, 3) := by decide +kernel
theorem dX9_greedy_61 : decode cX9_greedy 61 = .ok (.ifCond .eq 6, 3) := by decide +kernel
theorem dX9_greedy_64 : decode cX9_greedy 64 = .ok (.iload 4, 2) := by decide +kernel
theorem dX9_greedy_66 : decode cX9_greedy 66 = .ok (.istore_n 2, 1) := by decide +kernel
theorem dX9_greedy_67 : decode cX9_greedy 67 = .ok (.iinc 3 1, 3) := by decide +kernel
theorem dX9_greedy_70 : decode cX9_greedy 70 = .ok (.goto (-41), 3) := by decide +kernel
theorem dX9_greedy_73 : decode cX9_greedy 73 = .ok (.iload_n 1, 1) := by decide +kernel
theorem dX9_greedy_74 : decode cX9_greedy 74 = .ok (.ifCond .ne 7, 3) := by decide +kernel
theorem dX9_greedy_77 : decode cX9_greedy 77 = .ok (.iload_n 2, 1) := by decide +kernel
theorem dX9_greedy_78 : decode cX9_greedy 78 = .ok (.goto 11, 3) := by decide +kernel
theorem dX9_greedy_81 : decode cX9_greedy 81 = .ok (.aload_n 0, 1) := by decide +kernel
theorem dX9_greedy_82 : decode cX9_greedy 82 = .ok (.getfield 12, 3) := by decide +kernel
theorem dX9_greedy_85 : decode cX9_greedy 85 = .ok (.iload_n 2, 1) := by decide +kernel
theorem dX9_greedy_86 : decode cX9_greedy 86 = .ok (.invokevirtual 185, 3) := by decide +kernel
theorem dX9_greedy_89 : decode cX9_greedy 89 = .ok (.ireturn, 1) := by decide +kernel
theorem dX9_better_0 : decode cX9_better 0 = .ok (.aload_n 0, 1) := by decide +kernel
theorem dX9_better_1 : decode cX9_better 1 = .ok (.getfield 12, 3) := by decide +kernel
theorem dX9_better_4 : decode cX9_better 4 = .ok (.iload_n 1, 1) := by decide +kernel
theorem dX9_better_5 : decode cX9_better 5 = .ok (.invokevirtual 160, 3) := by decide +kernel
theorem dX9_better_8 : decode cX9_better 8 = .ok (.ifCond .ne 6, 3) := by decide +kernel
theorem dX9_better_11 : decode cX9_better 11 = .ok (.bipush (-2), 2) := by decide +kernel
theorem dX9_better_13 : decode cX9_better 13 = .ok (.ireturn, 1) := by decide +kernel
theorem dX9_better_14 : decode cX9_better 14 = .ok (.aload_n 0, 1) := by decide +kernel
theorem dX9_better_15 : decode cX9_better 15 = .ok (.invokevirtual 166, 3) := by decide +kernel
theorem dX9_better_18 : decode cX9_better 18 = .ok (.aload_n 0, 1) := by decide +kernel
theorem dX9_better_19 : decode cX9_better 19 = .ok (.getfield 33, 3) := by decide +kernel
theorem dX9_better_22 : decode cX9_better 22 = .ok (.getfield 176, 3) := by decide +kernel
theorem dX9_better_25 : decode cX9_better 25 = .ok (.iload_n 1, 1) := by decide +kernel
theorem dX9_better_26 : decode cX9_better 26 = .ok (.baload, 1) := by decide +kernel
theorem dX9_better_27 : decode cX9_better 27 = .ok (.ifCond .eq 14, 3) := by decide +kernel
theorem dX9_better_30 : decode cX9_better 30 = .ok (.aload_n 0, 1) := by decide +kernel
theorem dX9_better_31 : decode cX9_better 31 = .ok (.getfield 33, 3) := by decide +kernel
theorem dX9_better_34 : decode cX9_better 34 = .ok (.iload_n 1, 1) := by decide +kernel
theorem dX9_better_35 : decode cX9_better 35 = .ok (.invokevirtual 191, 3) := by decide +kernel
theorem dX9_better_38 : decode cX9_better 38 = .ok (.goto 5, 3) := by decide +kernel
theorem dX9_better_41 : decode cX9_better 41 = .ok (.bipush (-3), 2) := by decide +kernel
theorem dX9_better_43 : decode cX9_better 43 = .ok (.ireturn, 1) := by decide +kernel
end
section
theorem dX9_table_0 : decode cX9_table 0 = .ok (.iload_n 1, 1) := by decide +kernel
theorem dX9_table_1 : decode cX9_table 1 = .ok (.invokestatic 194, 3) := by decide +kernel
theorem dX9_table_4 : decode cX9_table 4 = .ok (.ifCond .eq 33, 3) := by decide +kernel
theorem dX9_table_7 : decode cX9_table 7 = .ok (.iload_n 2, 1) := by decide +kernel
theorem dX9_table_8 : decode cX9_table 8 = .ok (.ifCond .lt 29, 3) := by decide +kernel
theorem dX9_table_11 : decode cX9_table 11 = .ok (.iload_n 2, 1) := by decide +kernel
theorem dX9_table_12 : decode cX9_table 12 = .ok (.aload_n 0, 1) := by decide +kernel
theorem dX9_table_13 : decode cX9_table 13 = .ok (.getfield 12, 3) := by decide +kernel
theorem dX9_table_16 : decode cX9_table 16 = .ok (.getfield 90, 3) := by decide +kernel
theorem dX9_table_19 : decode cX9_table 19 = .ok (.if_icmp .ge 18, 3) := by decide +kernel
theorem dX9_table_22 : decode cX9_table 22 = .ok (.iload_n 3, 1) := by decide +kernel
theorem dX9_table_23 : decode cX9_table 23 = .ok (.ifCond .lt 14, 3) := by decide +kernel
theorem dX9_table_26 : decode cX9_table 26 = .ok (.iload_n 3, 1) := by decide +kernel
theorem dX9_table_27 : decode cX9_table 27 = .ok (.aload_n 0, 1) := by decide +kernel
theorem dX9_table_28 : decode cX9_table 28 = .ok (.getfield 12, 3) := by decide +kernel
theorem dX9_table_31 : decode cX9_table 31 = .ok (.getfield 90, 3) := by decide +kernel
theorem dX9_table_34 : decode cX9_table 34 = .ok (.if_icmp .lt 6, 3) := by decide +kernel
theorem dX9_table_37 : decode cX9_table 37 = .ok (.bipush (-2), 2) := by decide +kernel
theorem dX9_table_39 : decode cX9_table 39 = .ok (.ireturn, 1) := by decide +kernel
theorem dX9_table_40 : decode cX9_table 40 = .ok (.aload_n 0, 1) := by decide +kernel
theorem dX9_table_41 : decode cX9_table 41 = .ok (.getfield 60, 3) := by decide +kernel
theorem dX9_table_44 : decode cX9_table 44 = .ok (.iload_n 1, 1) := by decide +kernel
theorem dX9_table_45 : decode cX9_table 45 = .ok (.aaload, 1) := by decide +kernel
theorem dX9_table_46 : decode cX9_table 46 = .ok (.invokevirtual 197, 3) := by decide +kernel
theorem dX9_table_49 : decode cX9_table 49 = .ok (.ifCond .eq 6, 3) := by decide +kernel
theorem dX9_table_52 : decode cX9_table 52 = .ok (.bipush (-11), 2) := by decide +kernel
theorem dX9_table_54 : decode cX9_table 54 = .ok (.ireturn, 1) := by decide +kernel
theorem dX9_table_55 : decode cX9_table 55 = .ok (.aload_n 0, 1) := by decide +kernel
theorem dX9_table_56 : decode cX9_table 56 = .ok (.getfield 26, 3) := by decide +kernel
theorem dX9_table_59 : decode cX9_table 59 = .ok (.aload_n 0, 1) := by decide +kernel
theorem dX9_table_60 : decode cX9_table 60 = .ok (.getfield 12, 3) := by decide +kernel
theorem dX9_table_63 : decode cX9_table 63 = .ok (.invokevirtual 141, 3) := by decide +kernel
theorem dX9_table_66 : decode cX9_table 66 = .ok (.aload_n 0, 1) := by decide +kernel
theorem dX9_table_67 : decode cX9_table 67 = .ok (.aload_n 0, 1) := by decide +kernel
theorem dX9_table_68 : decode cX9_table 68 = .ok (.getfield 60, 3) := by decide +kernel
theorem dX9_table_71 : decode cX9_table 71 = .ok (.iload_n 1, 1) := by decide +kernel
theorem dX9_table_72 : decode cX9_table 72 = .ok (.aaload, 1) := by decide +kernel
theorem dX9_table_73 : decode cX9_table 73 = .ok (.invokevirtual 201, 3) := by decide +kernel
theorem dX9_table_76 : decode cX9_table 76 = .ok (.aload_n 0, 1) := by decide +kernel
theorem dX9_table_77 : decode cX9_table 77 = .ok (.getfield 40, 3) := by decide +kernel
theorem dX9_table_80 : decode cX9_table 80 = .ok (.aload_n 0, 1) := by decide +kernel
theorem dX9_table_81 : decode cX9_table 81 = .ok (.getfield 26, 3) := by decide +kernel
theorem dX9_table_84 : decode cX9_table 84 = .ok (.aload_n 0, 1) := by decide +kernel
theorem dX9_table_85 : decode cX9_table 85 = .ok (.getfield 74, 3) := by decide +kernel
theorem dX9_table_88 : decode cX9_table 88 = .ok (.iload_n 2, 1) := by decide +kernel
theorem dX9_table_89 : decode cX9_table 89 = .ok (.iload_n 3, 1) := by decide +kernel
theorem dX9_table_90 : decode cX9_table 90 = .ok (.invokevirtual 205, 3) := by decide +kernel
theorem dX9_table_93 : decode cX9_table 93 = .ok (.ireturn, 1) := by decide +kernel
theorem dX9_half_0 : decode cX9_half 0 = .ok (.iload_n 1, 1) := by decide +kernel
theorem dX9_half_1 : decode cX9_half 1 = .ok (.invokestatic 194, 3) := by decide +kernel
theorem dX9_half_4 : decode cX9_half 4 = .ok (.ifCond .ne 6, 3) := by decide +kernel
theorem dX9_half_7 : decode cX9_half 7 = .ok (.bipush (-2), 2) := by decide +kernel
theorem dX9_half_9 : decode cX9_half 9 = .ok (.ireturn, 1) := by decide +kernel
theorem dX9_half_10 : decode cX9_half 10 = .ok (.aload_n 0, 1) := by decide +kernel
theorem dX9_half_11 : decode cX9_half 11 = .ok (.getfield 60, 3) := by decide +kernel
theorem dX9_half_14 : decode cX9_half 14 = .ok (.iload_n 1, 1) := by decide +kernel
theorem dX9_half_15 : decode cX9_half 15 = .ok (.aaload, 1) := by decide +kernel
theorem dX9_half_16 : decode cX9_half 16 = .ok (.invokevirtual 197, 3) := by decide +kernel
theorem dX9_half_19 : decode cX9_half 19 = .ok (.ifCond .eq 6, 3) := by decide +kernel
theorem dX9_half_22 : decode cX9_half 22 = .ok (.bipush (-11), 2) := by decide +kernel
theorem dX9_half_24 : decode cX9_half 24 = .ok (.ireturn, 1) := by decide +kernel
theorem dX9_half_25 : decode cX9_half 25 = .ok (.aload_n 0, 1) := by decide +kernel
theorem dX9_half_26 : decode cX9_half 26 = .ok (.getfield 26, 3) := by decide +kernel
theorem dX9_half_29 : decode cX9_half 29 = .ok (.aload_n 0, 1) := by decide +kernel
theorem dX9_half_30 : decode cX9_half 30 = .ok (.getfield 12, 3) := by decide +kernel
theorem dX9_half_33 : decode cX9_half 33 = .ok (.invokevirtual 141, 3) := by decide +kernel
theorem dX9_half_36 : decode cX9_half 36 = .ok (.aload_n 0, 1) := by decide +kernel
theorem dX9_half_37 : decode cX9_half 37 = .ok (.aload_n 0, 1) := by decide +kernel
theorem dX9_half_38 : decode cX9_half 38 = .ok (.getfield 60, 3) := by decide +kernel
theorem dX9_half_41 : decode cX9_half 41 = .ok (.iload_n 1, 1) := by decide +kernel
theorem dX9_half_42 : decode cX9_half 42 = .ok (.aaload, 1) := by decide +kernel
theorem dX9_half_43 : decode cX9_half 43 = .ok (.invokevirtual 201, 3) := by decide +kernel
theorem dX9_half_46 : decode cX9_half 46 = .ok (.aload_n 0, 1) := by decide +kernel
theorem dX9_half_47 : decode cX9_half 47 = .ok (.getfield 40, 3) := by decide +kernel
theorem dX9_half_50 : decode cX9_half 50 = .ok (.aload_n 0, 1) := by decide +kernel
theorem dX9_half_51 : decode cX9_half 51 = .ok (.getfield 26, 3) := by decide +kernel
theorem dX9_half_54 : decode cX9_half 54 = .ok (.aload_n 0, 1) := by decide +kernel
theorem dX9_half_55 : decode cX9_half 55 = .ok (.getfield 74, 3) := by decide +kernel
theorem dX9_half_58 : decode cX9_half 58 = .ok (.invokevirtual 209, 3) := by decide +kernel
theorem dX9_half_61 : decode cX9_half 61 = .ok (.ireturn, 1) := by decide +kernel
theorem dX9_root_0 : decode cX9_root 0 = .ok (.iload_n 1, 1) := by decide +kernel
theorem dX9_root_1 : decode cX9_root 1 = .ok (.invokestatic 194, 3) := by decide +kernel
theorem dX9_root_4 : decode cX9_root 4 = .ok (.ifCond .ne 7, 3) := by decide +kernel
theorem dX9_root_7 : decode cX9_root 7 = .ok (.ldc2_w 213, 3) := by decide +kernel
theorem dX9_root_10 : decode cX9_root 10 = .ok (.lreturn, 1) := by decide +kernel
theorem dX9_root_11 : decode cX9_root 11 = .ok (.aload_n 0, 1) := by decide +kernel
theorem dX9_root_12 : decode cX9_root 12 = .ok (.getfield 60, 3) := by decide +kernel
theorem dX9_root_15 : decode cX9_root 15 = .ok (.iload_n 1, 1) := by decide +kernel
theorem dX9_root_16 : decode cX9_root 16 = .ok (.aaload, 1) := by decide +kernel
theorem dX9_root_17 : decode cX9_root 17 = .ok (.invokevirtual 197, 3) := by decide +kernel
theorem dX9_root_20 : decode cX9_root 20 = .ok (.ifCond .eq 7, 3) := by decide +kernel
theorem dX9_root_23 : decode cX9_root 23 = .ok (.ldc2_w 215, 3) := by decide +kernel
theorem dX9_root_26 : decode cX9_root 26 = .ok (.lreturn, 1) := by decide +kernel
theorem dX9_root_27 : decode cX9_root 27 = .ok (.aload_n 0, 1) := by decide +kernel
theorem dX9_root_28 : decode cX9_root 28 = .ok (.getfield 12, 3) := by decide +kernel
theorem dX9_root_31 : decode cX9_root 31 = .ok (.getfield 90, 3) := by decide +kernel
theorem dX9_root_34 : decode cX9_root 34 = .ok (.iconst 2, 1) := by decide +kernel
theorem dX9_root_35 : decode cX9_root 35 = .ok (.irem, 1) := by decide +kernel
theorem dX9_root_36 : decode cX9_root 36 = .ok (.ifCond .eq 7, 3) := by decide +kernel
theorem dX9_root_39 : decode cX9_root 39 = .ok (.ldc2_w 217, 3) := by decide +kernel
theorem dX9_root_42 : decode cX9_root 42 = .ok (.lreturn, 1) := by decide +kernel
theorem dX9_root_43 : decode cX9_root 43 = .ok (.aload_n 0, 1) := by decide +kernel
theorem dX9_root_44 : decode cX9_root 44 = .ok (.getfield 26, 3) := by decide +kernel
theorem dX9_root_47 : decode cX9_root 47 = .ok (.aload_n 0, 1) := by decide +kernel
theorem dX9_root_48 : decode cX9_root 48 = .ok (.getfield 12, 3) := by decide +kernel
theorem dX9_root_51 : decode cX9_root 51 = .ok (.invokevirtual 141, 3) := by decide +kernel
theorem dX9_root_54 : decode cX9_root 54 = .ok (.aload_n 0, 1) := by decide +kernel
theorem dX9_root_55 : decode cX9_root 55 = .ok (.getfield 47, 3) := by decide +kernel
theorem dX9_root_58 : decode cX9_root 58 = .ok (.aload_n 0, 1) := by decide +kernel
theorem dX9_root_59 : decode cX9_root 59 = .ok (.getfield 26, 3) := by decide +kernel
theorem dX9_root_62 : decode cX9_root 62 = .ok (.aload_n 0, 1) := by decide +kernel
theorem dX9_root_63 : decode cX9_root 63 = .ok (.getfield 60, 3) := by decide +kernel
theorem dX9_root_66 : decode cX9_root 66 = .ok (.iload_n 1, 1) := by decide +kernel
theorem dX9_root_67 : decode cX9_root 67 = .ok (.aaload, 1) := by decide +kernel
theorem dX9_root_68 : decode cX9_root 68 = .ok (.invokevirtual 219, 3) := by decide +kernel
theorem dX9_root_71 : decode cX9_root 71 = .ok (.lreturn, 1) := by decide +kernel
theorem dX9_claim_0 : decode cX9_claim 0 = .ok (.iload_n 2, 1) := by decide +kernel
theorem dX9_claim_1 : decode cX9_claim 1 = .ok (.iconst 1, 1) := by decide +kernel
theorem dX9_claim_2 : decode cX9_claim 2 = .ok (.if_icmp .lt 9, 3) := by decide +kernel
theorem dX9_claim_5 : decode cX9_claim 5 = .ok (.iload_n 2, 1) := by decide +kernel
theorem dX9_claim_6 : decode cX9_claim 6 = .ok (.bipush 20, 2) := by decide +kernel
theorem dX9_claim_8 : decode cX9_claim 8 = .ok (.if_icmp .le 6, 3) := by decide +kernel
theorem dX9_claim_11 : decode cX9_claim 11 = .ok (.bipush (-2), 2) := by decide +kernel
theorem dX9_claim_13 : decode cX9_claim 13 = .ok (.ireturn, 1) := by decide +kernel
theorem dX9_claim_14 : decode cX9_claim 14 = .ok (.aload_n 0, 1) := by decide +kernel
theorem dX9_claim_15 : decode cX9_claim 15 = .ok (.getfield 26, 3) := by decide +kernel
theorem dX9_claim_18 : decode cX9_claim 18 = .ok (.aload_n 0, 1) := by decide +kernel
theorem dX9_claim_19 : decode cX9_claim 19 = .ok (.getfield 12, 3) := by decide +kernel
theorem dX9_claim_22 : decode cX9_claim 22 = .ok (.invokevirtual 141, 3) := by decide +kernel
theorem dX9_claim_25 : decode cX9_claim 25 = .ok (.iload_n 1, 1) := by decide +kernel
theorem dX9_claim_26 : decode cX9_claim 26 = .ok (.istore_n 3, 1) := by decide +kernel
theorem dX9_claim_27 : decode cX9_claim 27 = .ok (.iconst 0, 1) := by decide +kernel
theorem dX9_claim_28 : decode cX9_claim 28 = .ok (.istore 4, 2) := by decide +kernel
theorem dX9_claim_30 : decode cX9_claim 30 = .ok (.iconst 0, 1) := by decide +kernel
theorem dX9_claim_31 : decode cX9_claim 31 = .ok (.istore 5, 2) := by decide +kernel
theorem dX9_claim_33 : decode cX9_claim 33 = .ok (.iload 5, 2) := by decide +kernel
theorem dX9_claim_35 : decode cX9_claim 35 = .ok (.iload_n 2, 1) := by decide +kernel
theorem dX9_claim_36 : decode cX9_claim 36 = .ok (.if_icmp .ge 37, 3) := by decide +kernel
theorem dX9_claim_39 : decode cX9_claim 39 = .ok (.aload_n 0, 1) := by decide +kernel
theorem dX9_claim_40 : decode cX9_claim 40 = .ok (.iload_n 3, 1) := by decide +kernel
theorem dX9_claim_41 : decode cX9_claim 41 = .ok (.invokevirtual 223, 3) := by decide +kernel
theorem dX9_claim_44 : decode cX9_claim 44 = .ok (.istore_n 3, 1) := by decide +kernel
theorem dX9_claim_45 : decode cX9_claim 45 = .ok (.iload 4, 2) := by decide +kernel
theorem dX9_claim_47 : decode cX9_claim 47 = .ok (.aload_n 0, 1) := by decide +kernel
theorem dX9_claim_48 : decode cX9_claim 48 = .ok (.getfield 40, 3) := by decide +kernel
theorem dX9_claim_51 : decode cX9_claim 51 = .ok (.aload_n 0, 1) := by decide +kernel
theorem dX9_claim_52 : decode cX9_claim 52 = .ok (.getfield 26, 3) := by decide +kernel
theorem dX9_claim_55 : decode cX9_claim 55 = .ok (.aload_n 0, 1) := by decide +kernel
theorem dX9_claim_56 : decode cX9_claim 56 = .ok (.getfield 74, 3) := by decide +kernel
theorem dX9_claim_59 : decode cX9_claim 59 = .ok (.invokevirtual 209, 3) := by decide +kernel
theorem dX9_claim_62 : decode cX9_claim 62 = .ok (.invokestatic 226, 3) := by decide +kernel
theorem dX9_claim_65 : decode cX9_claim 65 = .ok (.istore 4, 2) := by decide +kernel
theorem dX9_claim_67 : decode cX9_claim 67 = .ok (.iinc 5 1, 3) := by decide +kernel
theorem dX9_claim_70 : decode cX9_claim 70 = .ok (.goto (-37), 3) := by decide +kernel
theorem dX9_claim_73 : decode cX9_claim 73 = .ok (.iload 4, 2) := by decide +kernel
theorem dX9_claim_75 : decode cX9_claim 75 = .ok (.ireturn, 1) := by decide +kernel
theorem dX9_sure_0 : decode cX9_sure 0 = .ok (.iload_n 2, 1) := by decide +kernel
theorem dX9_sure_1 : decode cX9_sure 1 = .ok (.iconst 1, 1) := by decide +kernel
theorem dX9_sure_2 : decode cX9_sure 2 = .ok (.if_icmp .lt 9, 3) := by decide +kernel
theorem dX9_sure_5 : decode cX9_sure 5 = .ok (.iload_n 2, 1) := by decide +kernel
theorem dX9_sure_6 : decode cX9_sure 6 = .ok (.bipush 20, 2) := by decide +kernel
theorem dX9_sure_8 : decode cX9_sure 8 = .ok (.if_icmp .le 6, 3) := by decide +kernel
theorem dX9_sure_11 : decode cX9_sure 11 = .ok (.bipush (-2), 2) := by decide +kernel
theorem dX9_sure_13 : decode cX9_sure 13 = .ok (.ireturn, 1) := by decide +kernel
theorem dX9_sure_14 : decode cX9_sure 14 = .ok (.aload_n 0, 1) := by decide +kernel
theorem dX9_sure_15 : decode cX9_sure 15 = .ok (.invokevirtual 166, 3) := by decide +kernel
theorem dX9_sure_18 : decode cX9_sure 18 = .ok (.aload_n 0, 1) := by decide +kernel
theorem dX9_sure_19 : decode cX9_sure 19 = .ok (.getfield 33, 3) := by decide +kernel
theorem dX9_sure_22 : decode cX9_sure 22 = .ok (.invokevirtual 169, 3) := by decide +kernel
theorem dX9_sure_25 : decode cX9_sure 25 = .ok (.istore_n 3, 1) := by decide +kernel
theorem dX9_sure_26 : decode cX9_sure 26 = .ok (.iload_n 1, 1) := by decide +kernel
theorem dX9_sure_27 : decode cX9_sure 27 = .ok (.istore 4, 2) := by decide +kernel
theorem dX9_sure_29 : decode cX9_sure 29 = .ok (.iconst 0, 1) := by decide +kernel
theorem dX9_sure_30 : decode cX9_sure 30 = .ok (.istore 5, 2) := by decide +kernel
theorem dX9_sure_32 : decode cX9_sure 32 = .ok (.iconst 0, 1) := by decide +kernel
theorem dX9_sure_33 : decode cX9_sure 33 = .ok (.istore 6, 2) := by decide +kernel
theorem dX9_sure_35 : decode cX9_sure 35 = .ok (.iload 6, 2) := by decide +kernel
theorem dX9_sure_37 : decode cX9_sure 37 = .ok (.iload_n 2, 1) := by decide +kernel
theorem dX9_sure_38 : decode cX9_sure 38 = .ok (.if_icmp .ge 39, 3) := by decide +kernel
theorem dX9_sure_41 : decode cX9_sure 41 = .ok (.aload_n 0, 1) := by decide +kernel
theorem dX9_sure_42 : decode cX9_sure 42 = .ok (.iload 4, 2) := by decide +kernel
theorem dX9_sure_44 : decode cX9_sure 44 = .ok (.invokevirtual 223, 3) := by decide +kernel
theorem dX9_sure_47 : decode cX9_sure 47 = .ok (.istore 4, 2) := by decide +kernel
theorem dX9_sure_49 : decode cX9_sure 49 = .ok (.aload_n 0, 1) := by decide +kernel
theorem dX9_sure_50 : decode cX9_sure 50 = .ok (.getfield 40, 3) := by decide +kernel
theorem dX9_sure_53 : decode cX9_sure 53 = .ok (.aload_n 0, 1) := by decide +kernel
theorem dX9_sure_54 : decode cX9_sure 54 = .ok (.getfield 26, 3) := by decide +kernel
theorem dX9_sure_57 : decode cX9_sure 57 = .ok (.aload_n 0, 1) := by decide +kernel
theorem dX9_sure_58 : decode cX9_sure 58 = .ok (.getfield 74, 3) := by decide +kernel
theorem dX9_sure_61 : decode cX9_sure 61 = .ok (.invokevirtual 209, 3) := by decide +kernel
theorem dX9_sure_64 : decode cX9_sure 64 = .ok (.iload_n 3, 1) := by decide +kernel
theorem dX9_sure_65 : decode cX9_sure 65 = .ok (.if_icmp .ne 6, 3) := by decide +kernel
theorem dX9_sure_68 : decode cX9_sure 68 = .ok (.iinc 5 1, 3) := by decide +kernel
theorem dX9_sure_71 : decode cX9_sure 71 = .ok (.iinc 6 1, 3) := by decide +kernel
theorem dX9_sure_74 : decode cX9_sure 74 = .ok (.goto (-39), 3) := by decide +kernel
theorem dX9_sure_77 : decode cX9_sure 77 = .ok (.iload 5, 2) := by decide +kernel
theorem dX9_sure_79 : decode cX9_sure 79 = .ok (.ireturn, 1) := by decide +kernel
theorem dX9_cover_0 : decode cX9_cover 0 = .ok (.iload_n 1, 1) := by decide +kernel
theorem dX9_cover_1 : decode cX9_cover 1 = .ok (.invokestatic 194, 3) := by decide +kernel
theorem dX9_cover_4 : decode cX9_cover 4 = .ok (.ifCond .eq 20, 3) := by decide +kernel
theorem dX9_cover_7 : decode cX9_cover 7 = .ok (.iload_n 2, 1) := by decide +kernel
theorem dX9_cover_8 : decode cX9_cover 8 = .ok (.ifCond .lt 16, 3) := by decide +kernel
theorem dX9_cover_11 : decode cX9_cover 11 = .ok (.iload_n 2, 1) := by decide +kernel
theorem dX9_cover_12 : decode cX9_cover 12 = .ok (.iconst 1, 1) := by decide +kernel
theorem dX9_cover_13 : decode cX9_cover 13 = .ok (.aload_n 0, 1) := by decide +kernel
theorem dX9_cover_14 : decode cX9_cover 14 = .ok (.getfield 12, 3) := by decide +kernel
theorem dX9_cover_17 : decode cX9_cover 17 = .ok (.getfield 90, 3) := by decide +kernel
theorem dX9_cover_20 : decode cX9_cover 20 = .ok (.ishl, 1) := by decide +kernel
theorem dX9_cover_21 : decode cX9_cover 21 = .ok (.if_icmp .lt 6, 3) := by decide +kernel
theorem dX9_cover_24 : decode cX9_cover 24 = .ok (.bipush (-2), 2) := by decide +kernel
theorem dX9_cover_26 : decode cX9_cover 26 = .ok (.ireturn, 1) := by decide +kernel
theorem dX9_cover_27 : decode cX9_cover 27 = .ok (.aload_n 0, 1) := by decide +kernel
theorem dX9_cover_28 : decode cX9_cover 28 = .ok (.getfield 60, 3) := by decide +kernel
theorem dX9_cover_31 : decode cX9_cover 31 = .ok (.iload_n 1, 1) := by decide +kernel
theorem dX9_cover_32 : decode cX9_cover 32 = .ok (.aaload, 1) := by decide +kernel
theorem dX9_cover_33 : decode cX9_cover 33 = .ok (.invokevirtual 197, 3) := by decide +kernel
theorem dX9_cover_36 : decode cX9_cover 36 = .ok (.ifCond .eq 6, 3) := by decide +kernel
theorem dX9_cover_39 : decode cX9_cover 39 = .ok (.bipush (-11), 2) := by decide +kernel
theorem dX9_cover_41 : decode cX9_cover 41 = .ok (.ireturn, 1) := by decide +kernel
theorem dX9_cover_42 : decode cX9_cover 42 = .ok (.aload_n 0, 1) := by decide +kernel
theorem dX9_cover_43 : decode cX9_cover 43 = .ok (.getfield 26, 3) := by decide +kernel
theorem dX9_cover_46 : decode cX9_cover 46 = .ok (.aload_n 0, 1) := by decide +kernel
theorem dX9_cover_47 : decode cX9_cover 47 = .ok (.getfield 12, 3) := by decide +kernel
theorem dX9_cover_50 : decode cX9_cover 50 = .ok (.invokevirtual 141, 3) := by decide +kernel
theorem dX9_cover_53 : decode cX9_cover 53 = .ok (.aload_n 0, 1) := by decide +kernel
theorem dX9_cover_54 : decode cX9_cover 54 = .ok (.aload_n 0, 1) := by decide +kernel
theorem dX9_cover_55 : decode cX9_cover 55 = .ok (.getfield 60, 3) := by decide +kernel
theorem dX9_cover_58 : decode cX9_cover 58 = .ok (.iload_n 1, 1) := by decide +kernel
theorem dX9_cover_59 : decode cX9_cover 59 = .ok (.aaload, 1) := by decide +kernel
theorem dX9_cover_60 : decode cX9_cover 60 = .ok (.invokevirtual 231, 3) := by decide +kernel
theorem dX9_cover_63 : decode cX9_cover 63 = .ok (.aload_n 0, 1) := by decide +kernel
theorem dX9_cover_64 : decode cX9_cover 64 = .ok (.getfield 26, 3) := by decide +kernel
theorem dX9_cover_67 : decode cX9_cover 67 = .ok (.iload_n 2, 1) := by decide +kernel
theorem dX9_cover_68 : decode cX9_cover 68 = .ok (.aload_n 0, 1) := by decide +kernel
theorem dX9_cover_69 : decode cX9_cover 69 = .ok (.getfield 77, 3) := by decide +kernel
theorem dX9_cover_72 : decode cX9_cover 72 = .ok (.invokevirtual 234, 3) := by decide +kernel
theorem dX9_cover_75 : decode cX9_cover 75 = .ok (.ireturn, 1) := by decide +kernel
theorem dX9_cheap_0 : decode cX9_cheap 0 = .ok (.iload_n 1, 1) := by decide +kernel
theorem dX9_cheap_1 : decode cX9_cheap 1 = .ok (.invokestatic 117, 3) := by decide +kernel
theorem dX9_cheap_4 : decode cX9_cheap 4 = .ok (.ifCond .eq 10, 3) := by decide +kernel
theorem dX9_cheap_7 : decode cX9_cheap 7 = .ok (.iload_n 2, 1) := by decide +kernel
theorem dX9_cheap_8 : decode cX9_cheap 8 = .ok (.invokestatic 117, 3) := by decide +kernel
theorem dX9_cheap_11 : decode cX9_cheap 11 = .ok (.ifCond .ne 6, 3) := by decide +kernel
theorem dX9_cheap_14 : decode cX9_cheap 14 = .ok (.bipush (-2), 2) := by decide +kernel
theorem dX9_cheap_16 : decode cX9_cheap 16 = .ok (.ireturn, 1) := by decide +kernel
theorem dX9_cheap_17 : decode cX9_cheap 17 = .ok (.aload_n 0, 1) := by decide +kernel
theorem dX9_cheap_18 : decode cX9_cheap 18 = .ok (.getfield 26, 3) := by decide +kernel
theorem dX9_cheap_21 : decode cX9_cheap 21 = .ok (.aload_n 0, 1) := by decide +kernel
theorem dX9_cheap_22 : decode cX9_cheap 22 = .ok (.getfield 12, 3) := by decide +kernel
theorem dX9_cheap_25 : decode cX9_cheap 25 = .ok (.invokevirtual 141, 3) := by decide +kernel
theorem dX9_cheap_28 : decode cX9_cheap 28 = .ok (.iconst 0, 1) := by decide +kernel
theorem dX9_cheap_29 : decode cX9_cheap 29 = .ok (.istore_n 3, 1) := by decide +kernel
theorem dX9_cheap_30 : decode cX9_cheap 30 = .ok (.iload_n 3, 1) := by decide +kernel
theorem dX9_cheap_31 : decode cX9_cheap 31 = .ok (.aload_n 0, 1) := by decide +kernel
theorem dX9_cheap_32 : decode cX9_cheap 32 = .ok (.getfield 12, 3) := by decide +kernel
theorem dX9_cheap_35 : decode cX9_cheap 35 = .ok (.getfield 107, 3) := by decide +kernel
theorem dX9_cheap_38 : decode cX9_cheap 38 = .ok (.if_icmp .ge 24, 3) := by decide +kernel
theorem dX9_cheap_41 : decode cX9_cheap 41 = .ok (.aload_n 0, 1) := by decide +kernel
theorem dX9_cheap_42 : decode cX9_cheap 42 = .ok (.getfield 77, 3) := by decide +kernel
theorem dX9_cheap_45 : decode cX9_cheap 45 = .ok (.iload_n 3, 1) := by decide +kernel
theorem dX9_cheap_46 : decode cX9_cheap 46 = .ok (.iload_n 1, 1) := by decide +kernel
theorem dX9_cheap_47 : decode cX9_cheap 47 = .ok (.ifCond .ne 7, 3) := by decide +kernel
theorem dX9_cheap_50 : decode cX9_cheap 50 = .ok (.iconst 0, 1) := by decide +kernel
theorem dX9_cheap_51 : decode cX9_cheap 51 = .ok (.goto 4, 3) := by decide +kernel
theorem dX9_cheap_54 : decode cX9_cheap 54 = .ok (.iload_n 3, 1) := by decide +kernel
theorem dX9_cheap_55 : decode cX9_cheap 55 = .ok (.iastore, 1) := by decide +kernel
theorem dX9_cheap_56 : decode cX9_cheap 56 = .ok (.iinc 3 1, 3) := by decide +kernel
theorem dX9_cheap_59 : decode cX9_cheap 59 = .ok (.goto (-29), 3) := by decide +kernel
theorem dX9_cheap_62 : decode cX9_cheap 62 = .ok (.iconst 0, 1) := by decide +kernel
theorem dX9_cheap_63 : decode cX9_cheap 63 = .ok (.istore_n 3, 1) := by decide +kernel
theorem dX9_cheap_64 : decode cX9_cheap 64 = .ok (.aload_n 0, 1) := by decide +kernel
theorem dX9_cheap_65 : decode cX9_cheap 65 = .ok (.getfield 26, 3) := by decide +kernel
theorem dX9_cheap_68 : decode cX9_cheap 68 = .ok (.iconst 0, 1) := by decide +kernel
theorem dX9_cheap_69 : decode cX9_cheap 69 = .ok (.aload_n 0, 1) := by decide +kernel
theorem dX9_cheap_70 : decode cX9_cheap 70 = .ok (.getfield 77, 3) := by decide +kernel
theorem dX9_cheap_73 : decode cX9_cheap 73 = .ok (.invokevirtual 234, 3) := by decide +kernel
theorem dX9_cheap_76 : decode cX9_cheap 76 = .ok (.istore 4, 2) := by decide +kernel
theorem dX9_cheap_78 : decode cX9_cheap 78 = .ok (.iconst 1, 1) := by decide +kernel
theorem dX9_cheap_79 : decode cX9_cheap 79 = .ok (.istore 5, 2) := by decide +kernel
theorem dX9_cheap_81 : decode cX9_cheap 81 = .ok (.iload 5, 2) := by decide +kernel
theorem dX9_cheap_83 : decode cX9_cheap 83 = .ok (.iconst 1, 1) := by decide +kernel
theorem dX9_cheap_84 : decode cX9_cheap 84 = .ok (.aload_n 0, 1) := by decide +kernel
theorem dX9_cheap_85 : decode cX9_cheap 85 = .ok (.getfield 12, 3) := by decide +kernel
theorem dX9_cheap_88 : decode cX9_cheap 88 = .ok (.getfield 90, 3) := by decide +kernel
theorem dX9_cheap_91 : decode cX9_cheap 91 = .ok (.ishl, 1) := by decide +kernel
theorem dX9_cheap_92 : decode cX9_cheap 92 = .ok (.if_icmp .ge 48, 3) := by decide +kernel
theorem dX9_cheap_95 : decode cX9_cheap 95 = .ok (.iload 5, 2) := by decide +kernel
theorem dX9_cheap_97 : decode cX9_cheap 97 = .ok (.invokestatic 180, 3) := by decide +kernel
theorem dX9_cheap_100 : decode cX9_cheap 100 = .ok (.iload 4, 2) := by decide +kernel
theorem dX9_cheap_102 : decode cX9_cheap 102 = .ok (.if_icmp .ge 32, 3) := by decide +kernel
theorem dX9_cheap_105 : decode cX9_cheap 105 = .ok (.aload_n 0, 1) := by decide +kernel
theorem dX9_cheap_106 : decode cX9_cheap 106 = .ok (.getfield 26, 3) := by decide +kernel
theorem dX9_cheap_109 : decode cX9_cheap 109 = .ok (.iload 5, 2) := by decide +kernel
theorem dX9_cheap_111 : decode cX9_cheap 111 = .ok (.aload_n 0, 1) := by decide +kernel
theorem dX9_cheap_112 : decode cX9_cheap 112 = .ok (.getfield 77, 3) := by decide +kernel
theorem dX9_cheap_115 : decode cX9_cheap 115 = .ok (.invokevirtual 234, 3) := by decide +kernel
theorem dX9_cheap_118 : decode cX9_cheap 118 = .ok (.istore 6, 2) := by decide +kernel
theorem dX9_cheap_120 : decode cX9_cheap 120 = .ok (.iload 6, 2) := by decide +kernel
theorem dX9_cheap_122 : decode cX9_cheap 122 = .ok (.iload 4, 2) := by decide +kernel
theorem dX9_cheap_124 : decode cX9_cheap 124 = .ok (.if_icmp .ge 10, 3) := by decide +kernel
theorem dX9_cheap_127 : decode cX9_cheap 127 = .ok (.iload 6, 2) := by decide +kernel
theorem dX9_cheap_129 : decode cX9_cheap 129 = .ok (.istore 4, 2) := by decide +kernel
theorem dX9_cheap_131 : decode cX9_cheap 131 = .ok (.iload 5, 2) := by decide +kernel
theorem dX9_cheap_133 : decode cX9_cheap 133 = .ok (.istore_n 3, 1) := by decide +kernel
theorem dX9_cheap_134 : decode cX9_cheap 134 = .ok (.iinc 5 1, 3) := by decide +kernel
theorem dX9_cheap_137 : decode cX9_cheap 137 = .ok (.goto (-56), 3) := by decide +kernel
theorem dX9_cheap_140 : decode cX9_cheap 140 = .ok (.iload_n 2, 1) := by decide +kernel
theorem dX9_cheap_141 : decode cX9_cheap 141 = .ok (.ifCond .ne 8, 3) := by decide +kernel
theorem dX9_cheap_144 : decode cX9_cheap 144 = .ok (.iload 4, 2) := by decide +kernel
theorem dX9_cheap_146 : decode cX9_cheap 146 = .ok (.goto 4, 3) := by decide +kernel
theorem dX9_cheap_149 : decode cX9_cheap 149 = .ok (.iload_n 3, 1) := by decide +kernel
theorem dX9_cheap_150 : decode cX9_cheap 150 = .ok (.ireturn, 1) := by decide +kernel
theorem dX9_rays_0 : decode cX9_rays 0 = .ok (.aload_n 0, 1) := by decide +kernel
theorem dX9_rays_1 : decode cX9_rays 1 = .ok (.invokevirtual 238, 3) := by decide +kernel
theorem dX9_rays_4 : decode cX9_rays 4 = .ok (.aload_n 0, 1) := by decide +kernel
theorem dX9_rays_5 : decode cX9_rays 5 = .ok (.getfield 54, 3) := by decide +kernel
theorem dX9_rays_8 : decode cX9_rays 8 = .ok (.getfield 241, 3) := by decide +kernel
theorem dX9_rays_11 : decode cX9_rays 11 = .ok (.ireturn, 1) := by decide +kernel
theorem dX9_ray_0 : decode cX9_ray 0 = .ok (.aload_n 0, 1) := by decide +kernel
theorem dX9_ray_1 : decode cX9_ray 1 = .ok (.invokevirtual 238, 3) := by decide +kernel
theorem dX9_ray_4 : decode cX9_ray 4 = .ok (.aload_n 0, 1) := by decide +kernel
theorem dX9_ray_5 : decode cX9_ray 5 = .ok (.getfield 54, 3) := by decide +kernel
theorem dX9_ray_8 : decode cX9_ray 8 = .ok (.iload_n 1, 1) := by decide +kernel
theorem dX9_ray_9 : decode cX9_ray 9 = .ok (.invokevirtual 244, 3) := by decide +kernel
theorem dX9_ray_12 : decode cX9_ray 12 = .ok (.ifCond .eq 15, 3) := by decide +kernel
theorem dX9_ray_15 : decode cX9_ray 15 = .ok (.aload_n 0, 1) := by decide +kernel
theorem dX9_ray_16 : decode cX9_ray 16 = .ok (.getfield 54, 3) := by decide +kernel
theorem dX9_ray_19 : decode cX9_ray 19 = .ok (.getfield 245, 3) := by decide +kernel
theorem dX9_ray_22 : decode cX9_ray 22 = .ok (.iload_n 1, 1) := by decide +kernel
theorem dX9_ray_23 : decode cX9_ray 23 = .ok (.laload, 1) := by decide +kernel
theorem dX9_ray_24 : decode cX9_ray 24 = .ok (.goto 6, 3) := by decide +kernel
theorem dX9_ray_27 : decode cX9_ray 27 = .ok (.ldc2_w 158, 3) := by decide +kernel
theorem dX9_ray_30 : decode cX9_ray 30 = .ok (.lreturn, 1) := by decide +kernel
theorem dX9_rayOf_0 : decode cX9_rayOf 0 = .ok (.aload_n 0, 1) := by decide +kernel
theorem dX9_rayOf_1 : decode cX9_rayOf 1 = .ok (.getfield 12, 3) := by decide +kernel
theorem dX9_rayOf_4 : decode cX9_rayOf 4 = .ok (.iload_n 1, 1) := by decide +kernel
theorem dX9_rayOf_5 : decode cX9_rayOf 5 = .ok (.invokevirtual 114, 3) := by decide +kernel
theorem dX9_rayOf_8 : decode cX9_rayOf 8 = .ok (.ifCond .eq 10, 3) := by decide +kernel
theorem dX9_rayOf_11 : decode cX9_rayOf 11 = .ok (.iload_n 2, 1) := by decide +kernel
theorem dX9_rayOf_12 : decode cX9_rayOf 12 = .ok (.invokestatic 117, 3) := by decide +kernel
theorem dX9_rayOf_15 : decode cX9_rayOf 15 = .ok (.ifCond .ne 6, 3) := by decide +kernel
theorem dX9_rayOf_18 : decode cX9_rayOf 18 = .ok (.bipush (-2), 2) := by decide +kernel
theorem dX9_rayOf_20 : decode cX9_rayOf 20 = .ok (.ireturn, 1) := by decide +kernel
theorem dX9_rayOf_21 : decode cX9_rayOf 21 = .ok (.aload_n 0, 1) := by decide +kernel
theorem dX9_rayOf_22 : decode cX9_rayOf 22 = .ok (.invokevirtual 238, 3) := by decide +kernel
theorem dX9_rayOf_25 : decode cX9_rayOf 25 = .ok (.aload_n 0, 1) := by decide +kernel
theorem dX9_rayOf_26 : decode cX9_rayOf 26 = .ok (.getfield 54, 3) := by decide +kernel
theorem dX9_rayOf_29 : decode cX9_rayOf 29 = .ok (.aload_n 0, 1) := by decide +kernel
theorem dX9_rayOf_30 : decode cX9_rayOf 30 = .ok (.getfield 26, 3) := by decide +kernel
theorem dX9_rayOf_33 : decode cX9_rayOf 33 = .ok (.iload_n 1, 1) := by decide +kernel
theorem dX9_rayOf_34 : decode cX9_rayOf 34 = .ok (.bipush 12, 2) := by decide +kernel
theorem dX9_rayOf_36 : decode cX9_rayOf 36 = .ok (.imul, 1) := by decide +kernel
theorem dX9_rayOf_37 : decode cX9_rayOf 37 = .ok (.iload_n 2, 1) := by decide +kernel
theorem dX9_rayOf_38 : decode cX9_rayOf 38 = .ok (.bipush 6, 2) := by decide +kernel
theorem dX9_rayOf_40 : decode cX9_rayOf 40 = .ok (.imul, 1) := by decide +kernel
theorem dX9_rayOf_41 : decode cX9_rayOf 41 = .ok (.iadd, 1) := by decide +kernel
theorem dX9_rayOf_42 : decode cX9_rayOf 42 = .ok (.invokevirtual 248, 3) := by decide +kernel
theorem dX9_rayOf_45 : decode cX9_rayOf 45 = .ok (.lstore_n 3, 1) := by decide +kernel
theorem dX9_rayOf_46 : decode cX9_rayOf 46 = .ok (.lload_n 3, 1) := by decide +kernel
theorem dX9_rayOf_47 : decode cX9_rayOf 47 = .ok (.lconst 0, 1) := by decide +kernel
theorem dX9_rayOf_48 : decode cX9_rayOf 48 = .ok (.lcmp, 1) := by decide +kernel
theorem dX9_rayOf_49 : decode cX9_rayOf 49 = .ok (.ifCond .ne 7, 3) := by decide +kernel
theorem dX9_rayOf_52 : decode cX9_rayOf 52 = .ok (.iconst (-1), 1) := by decide +kernel
theorem dX9_rayOf_53 : decode cX9_rayOf 53 = .ok (.goto 11, 3) := by decide +kernel
theorem dX9_rayOf_56 : decode cX9_rayOf 56 = .ok (.aload_n 0, 1) := by decide +kernel
theorem dX9_rayOf_57 : decode cX9_rayOf 57 = .ok (.getfield 54, 3) := by decide +kernel
theorem dX9_rayOf_60 : decode cX9_rayOf 60 = .ok (.lload_n 3, 1) := by decide +kernel
theorem dX9_rayOf_61 : decode cX9_rayOf 61 = .ok (.invokevirtual 252, 3) := by decide +kernel
theorem dX9_rayOf_64 : decode cX9_rayOf 64 = .ok (.ireturn, 1) := by decide +kernel
theorem dX9_link_0 : decode cX9_link 0 = .ok (.iload_n 1, 1) := by decide +kernel
theorem dX9_link_1 : decode cX9_link 1 = .ok (.invokestatic 255, 3) := by decide +kernel
theorem dX9_link_4 : decode cX9_link 4 = .ok (.ifCond .eq 22, 3) := by decide +kernel
theorem dX9_link_7 : decode cX9_link 7 = .ok (.iload_n 2, 1) := by decide +kernel
theorem dX9_link_8 : decode cX9_link 8 = .ok (.invokestatic 255, 3) := by decide +kernel
theorem dX9_link_11 : decode cX9_link 11 = .ok (.ifCond .eq 15, 3) := by decide +kernel
theorem dX9_link_14 : decode cX9_link 14 = .ok (.iload_n 1, 1) := by decide +kernel
theorem dX9_link_15 : decode cX9_link 15 = .ok (.iload_n 2, 1) := by decide +kernel
theorem dX9_link_16 : decode cX9_link 16 = .ok (.if_icmp .eq 10, 3) := by decide +kernel
theorem dX9_link_19 : decode cX9_link 19 = .ok (.iload_n 3, 1) := by decide +kernel
theorem dX9_link_20 : decode cX9_link 20 = .ok (.invokestatic 117, 3) := by decide +kernel
theorem dX9_link_23 : decode cX9_link 23 = .ok (.ifCond .ne 6, 3) := by decide +kernel
theorem dX9_link_26 : decode cX9_link 26 = .ok (.bipush (-2), 2) := by decide +kernel
theorem dX9_link_28 : decode cX9_link 28 = .ok (.ireturn, 1) := by decide +kernel
theorem dX9_link_29 : decode cX9_link 29 = .ok (.aload_n 0, 1) := by decide +kernel
theorem dX9_link_30 : decode cX9_link 30 = .ok (.getfield 12, 3) := by decide +kernel
theorem dX9_link_33 : decode cX9_link 33 = .ok (.getfield 258, 3) := by decide +kernel
theorem dX9_link_36 : decode cX9_link 36 = .ok (.iload_n 1, 1) := by decide +kernel
theorem dX9_link_37 : decode cX9_link 37 = .ok (.iaload, 1) := by decide +kernel
theorem dX9_link_38 : decode cX9_link 38 = .ok (.iload_n 2, 1) := by decide +kernel
theorem dX9_link_39 : decode cX9_link 39 = .ok (.ishr, 1) := by decide +kernel
theorem dX9_link_40 : decode cX9_link 40 = .ok (.iconst 1, 1) := by decide +kernel
theorem dX9_link_41 : decode cX9_link 41 = .ok (.iand, 1) := by decide +kernel
theorem dX9_link_42 : decode cX9_link 42 = .ok (.istore 4, 2) := by decide +kernel
theorem dX9_link_44 : decode cX9_link 44 = .ok (.iload_n 3, 1) := by decide +kernel
theorem dX9_link_45 : decode cX9_link 45 = .ok (.iconst 1, 1) := by decide +kernel
theorem dX9_link_46 : decode cX9_link 46 = .ok (.if_icmp .ne 35, 3) := by decide +kernel
theorem dX9_link_49 : decode cX9_link 49 = .ok (.iload 4, 2) := by decide +kernel
theorem dX9_link_51 : decode cX9_link 51 = .ok (.ifCond .ne 30, 3) := by decide +kernel
theorem dX9_link_54 : decode cX9_link 54 = .ok (.aload_n 0, 1) := by decide +kernel
theorem dX9_link_55 : decode cX9_link 55 = .ok (.getfield 12, 3) := by decide +kernel
theorem dX9_link_58 : decode cX9_link 58 = .ok (.iload_n 1, 1) := by decide +kernel
theorem dX9_link_59 : decode cX9_link 59 = .ok (.invokevirtual 261, 3) := by decide +kernel
theorem dX9_link_62 : decode cX9_link 62 = .ok (.iconst 3, 1) := by decide +kernel
theorem dX9_link_63 : decode cX9_link 63 = .ok (.if_icmp .ge 15, 3) := by decide +kernel
theorem dX9_link_66 : decode cX9_link 66 = .ok (.aload_n 0, 1) := by decide +kernel
theorem dX9_link_67 : decode cX9_link 67 = .ok (.getfield 12, 3) := by decide +kernel
theorem dX9_link_70 : decode cX9_link 70 = .ok (.iload_n 2, 1) := by decide +kernel
theorem dX9_link_71 : decode cX9_link 71 = .ok (.invokevirtual 261, 3) := by decide +kernel
theorem dX9_link_74 : decode cX9_link 74 = .ok (.iconst 3, 1) := by decide +kernel
theorem dX9_link_75 : decode cX9_link 75 = .ok (.if_icmp .lt 6, 3) := by decide +kernel
theorem dX9_link_78 : decode cX9_link 78 = .ok (.bipush (-3), 2) := by decide +kernel
theorem dX9_link_80 : decode cX9_link 80 = .ok (.ireturn, 1) := by decide +kernel
theorem dX9_link_81 : decode cX9_link 81 = .ok (.iload_n 3, 1) := by decide +kernel
theorem dX9_link_82 : decode cX9_link 82 = .ok (.iload 4, 2) := by decide +kernel
theorem dX9_link_84 : decode cX9_link 84 = .ok (.if_icmp .eq 33, 3) := by decide +kernel
theorem dX9_link_87 : decode cX9_link 87 = .ok (.aload_n 0, 1) := by decide +kernel
theorem dX9_link_88 : decode cX9_link 88 = .ok (.getfield 12, 3) := by decide +kernel
theorem dX9_link_91 : decode cX9_link 91 = .ok (.getfield 258, 3) := by decide +kernel
theorem dX9_link_94 : decode cX9_link 94 = .ok (.iload_n 1, 1) := by decide +kernel
theorem dX9_link_95 : decode cX9_link 95 = .ok (.dup2, 1) := by decide +kernel
theorem dX9_link_96 : decode cX9_link 96 = .ok (.iaload, 1) := by decide +kernel
theorem dX9_link_97 : decode cX9_link 97 = .ok (.iconst 1, 1) := by decide +kernel
theorem dX9_link_98 : decode cX9_link 98 = .ok (.iload_n 2, 1) := by decide +kernel
theorem dX9_link_99 : decode cX9_link 99 = .ok (.ishl, 1) := by decide +kernel
theorem dX9_link_100 : decode cX9_link 100 = .ok (.ixor, 1) := by decide +kernel
theorem dX9_link_101 : decode cX9_link 101 = .ok (.iastore, 1) := by decide +kernel
theorem dX9_link_102 : decode cX9_link 102 = .ok (.aload_n 0, 1) := by decide +kernel
theorem dX9_link_103 : decode cX9_link 103 = .ok (.getfield 12, 3) := by decide +kernel
theorem dX9_link_106 : decode cX9_link 106 = .ok (.getfield 258, 3) := by decide +kernel
theorem dX9_link_109 : decode cX9_link 109 = .ok (.iload_n 2, 1) := by decide +kernel
theorem dX9_link_110 : decode cX9_link 110 = .ok (.dup2, 1) := by decide +kernel
theorem dX9_link_111 : decode cX9_link 111 = .ok (.iaload, 1) := by decide +kernel
theorem dX9_link_112 : decode cX9_link 112 = .ok (.iconst 1, 1) := by decide +kernel
theorem dX9_link_113 : decode cX9_link 113 = .ok (.iload_n 1, 1) := by decide +kernel
theorem dX9_link_114 : decode cX9_link 114 = .ok (.ishl, 1) := by decide +kernel
theorem dX9_link_115 : decode cX9_link 115 = .ok (.ixor, 1) := by decide +kernel
theorem dX9_link_116 : decode cX9_link 116 = .ok (.iastore, 1) := by decide +kernel
theorem dX9_link_117 : decode cX9_link 117 = .ok (.iload 4, 2) := by decide +kernel
theorem dX9_link_119 : decode cX9_link 119 = .ok (.ireturn, 1) := by decide +kernel
theorem dX9_breaks_0 : decode cX9_breaks 0 = .ok (.iload_n 1, 1) := by decide +kernel
theorem dX9_breaks_1 : decode cX9_breaks 1 = .ok (.ifCond .lt 10, 3) := by decide +kernel
theorem dX9_breaks_4 : decode cX9_breaks 4 = .ok (.iload_n 1, 1) := by decide +kernel
theorem dX9_breaks_5 : decode cX9_breaks 5 = .ok (.sipush 256, 3) := by decide +kernel
theorem dX9_breaks_8 : decode cX9_breaks 8 = .ok (.if_icmp .lt 6, 3) := by decide +kernel
theorem dX9_breaks_11 : decode cX9_breaks 11 = .ok (.bipush (-2), 2) := by decide +kernel
theorem dX9_breaks_13 : decode cX9_breaks 13 = .ok (.ireturn, 1) := by decide +kernel
theorem dX9_breaks_14 : decode cX9_breaks 14 = .ok (.aload_n 0, 1) := by decide +kernel
theorem dX9_breaks_15 : decode cX9_breaks 15 = .ok (.iload_n 1, 1) := by decide +kernel
theorem dX9_breaks_16 : decode cX9_breaks 16 = .ok (.invokevirtual 264, 3) := by decide +kernel
theorem dX9_breaks_19 : decode cX9_breaks 19 = .ok (.ifCond .eq 7, 3) := by decide +kernel
theorem dX9_breaks_22 : decode cX9_breaks 22 = .ok (.iconst 1, 1) := by decide +kernel
theorem dX9_breaks_23 : decode cX9_breaks 23 = .ok (.goto 4, 3) := by decide +kernel
theorem dX9_breaks_26 : decode cX9_breaks 26 = .ok (.iconst 0, 1) := by decide +kernel
theorem dX9_breaks_27 : decode cX9_breaks 27 = .ok (.ireturn, 1) := by decide +kernel
theorem dX9_feedback_0 : decode cX9_feedback 0 = .ok (.iload_n 1, 1) := by decide +kernel
theorem dX9_feedback_1 : decode cX9_feedback 1 = .ok (.ifCond .lt 8, 3) := by decide +kernel
theorem dX9_feedback_4 : decode cX9_feedback 4 = .ok (.iload_n 1, 1) := by decide +kernel
theorem dX9_feedback_5 : decode cX9_feedback 5 = .ok (.iconst 2, 1) := by decide +kernel
theorem dX9_feedback_6 : decode cX9_feedback 6 = .ok (.if_icmp .le 6, 3) := by decide +kernel
theorem dX9_feedback_9 : decode cX9_feedback 9 = .ok (.bipush (-2), 2) := by decide +kernel
theorem dX9_feedback_11 : decode cX9_feedback 11 = .ok (.ireturn, 1) := by decide +kernel
theorem dX9_feedback_12 : decode cX9_feedback 12 = .ok (.bipush 9, 2) := by decide +kernel
theorem dX9_feedback_14 : decode cX9_feedback 14 = .ok (.istore_n 2, 1) := by decide +kernel
theorem dX9_feedback_15 : decode cX9_feedback 15 = .ok (.iconst 0, 1) := by decide +kernel
theorem dX9_feedback_16 : decode cX9_feedback 16 = .ok (.istore_n 3, 1) := by decide +kernel
theorem dX9_feedback_17 : decode cX9_feedback 17 = .ok (.iconst 0, 1) := by decide +kernel
theorem dX9_feedback_18 : decode cX9_feedback 18 = .ok (.istore 4, 2) := by decide +kernel
theorem dX9_feedback_20 : decode cX9_feedback 20 = .ok (.iconst 0, 1) := by decide +kernel
theorem dX9_feedback_21 : decode cX9_feedback 21 = .ok (.istore 5, 2) := by decide +kernel
theorem dX9_feedback_23 : decode cX9_feedback 23 = .ok (.iload 5, 2) := by decide +kernel
theorem dX9_feedback_25 : decode cX9_feedback 25 = .ok (.sipush 256, 3) := by decide +kernel
theorem dX9_feedback_28 : decode cX9_feedback 28 = .ok (.if_icmp .ge 49, 3) := by decide +kernel
theorem dX9_feedback_31 : decode cX9_feedback 31 = .ok (.iload 5, 2) := by decide +kernel
theorem dX9_feedback_33 : decode cX9_feedback 33 = .ok (.invokestatic 180, 3) := by decide +kernel
theorem dX9_feedback_36 : decode cX9_feedback 36 = .ok (.istore 6, 2) := by decide +kernel
theorem dX9_feedback_38 : decode cX9_feedback 38 = .ok (.iload 6, 2) := by decide +kernel
theorem dX9_feedback_40 : decode cX9_feedback 40 = .ok (.iload_n 2, 1) := by decide +kernel
theorem dX9_feedback_41 : decode cX9_feedback 41 = .ok (.if_icmp .gt 30, 3) := by decide +kernel
theorem dX9_feedback_44 : decode cX9_feedback 44 = .ok (.aload_n 0, 1) := by decide +kernel
theorem dX9_feedback_45 : decode cX9_feedback 45 = .ok (.iload 5, 2) := by decide +kernel
theorem dX9_feedback_47 : decode cX9_feedback 47 = .ok (.invokevirtual 264, 3) := by decide +kernel
theorem dX9_feedback_50 : decode cX9_feedback 50 = .ok (.ifCond .eq 21, 3) := by decide +kernel
theorem dX9_feedback_53 : decode cX9_feedback 53 = .ok (.iload 6, 2) := by decide +kernel
theorem dX9_feedback_55 : decode cX9_feedback 55 = .ok (.iload_n 2, 1) := by decide +kernel
theorem dX9_feedback_56 : decode cX9_feedback 56 = .ok (.if_icmp .ge 12, 3) := by decide +kernel
theorem dX9_feedback_59 : decode cX9_feedback 59 = .ok (.iload 6, 2) := by decide +kernel
theorem dX9_feedback_61 : decode cX9_feedback 61 = .ok (.istore_n 2, 1) := by decide +kernel
theorem dX9_feedback_62 : decode cX9_feedback 62 = .ok (.iload 5, 2) := by decide +kernel
theorem dX9_feedback_64 : decode cX9_feedback 64 = .ok (.istore_n 3, 1) := by decide +kernel
theorem dX9_feedback_65 : decode cX9_feedback 65 = .ok (.iconst 0, 1) := by decide +kernel
theorem dX9_feedback_66 : decode cX9_feedback 66 = .ok (.istore 4, 2) := by decide +kernel
theorem dX9_feedback_68 : decode cX9_feedback 68 = .ok (.iinc 4 1, 3) := by decide +kernel
theorem dX9_feedback_71 : decode cX9_feedback 71 = .ok (.iinc 5 1, 3) := by decide +kernel
theorem dX9_feedback_74 : decode cX9_feedback 74 = .ok (.goto (-51), 3) := by decide +kernel
theorem dX9_feedback_77 : decode cX9_feedback 77 = .ok (.iload_n 1, 1) := by decide +kernel
theorem dX9_feedback_78 : decode cX9_feedback 78 = .ok (.ifCond .ne 7, 3) := by decide +kernel
theorem dX9_feedback_81 : decode cX9_feedback 81 = .ok (.iload_n 2, 1) := by decide +kernel
theorem dX9_feedback_82 : decode cX9_feedback 82 = .ok (.goto 14, 3) := by decide +kernel
theorem dX9_feedback_85 : decode cX9_feedback 85 = .ok (.iload_n 1, 1) := by decide +kernel
theorem dX9_feedback_86 : decode cX9_feedback 86 = .ok (.iconst 1, 1) := by decide +kernel
theorem dX9_feedback_87 : decode cX9_feedback 87 = .ok (.if_icmp .ne 7, 3) := by decide +kernel
theorem dX9_feedback_90 : decode cX9_feedback 90 = .ok (.iload_n 3, 1) := by decide +kernel
theorem dX9_feedback_91 : decode cX9_feedback 91 = .ok (.goto 5, 3) := by decide +kernel
theorem dX9_feedback_94 : decode cX9_feedback 94 = .ok (.iload 4, 2) := by decide +kernel
theorem dX9_feedback_96 : decode cX9_feedback 96 = .ok (.ireturn, 1) := by decide +kernel
theorem dX9_hold_0 : decode cX9_hold 0 = .ok (.iload_n 1, 1) := by decide +kernel
theorem dX9_hold_1 : decode cX9_hold 1 = .ok (.invokestatic 267, 3) := by decide +kernel
theorem dX9_hold_4 : decode cX9_hold 4 = .ok (.ifCond .ne 6, 3) := by decide +kernel
theorem dX9_hold_7 : decode cX9_hold 7 = .ok (.bipush (-2), 2) := by decide +kernel
theorem dX9_hold_9 : decode cX9_hold 9 = .ok (.ireturn, 1) := by decide +kernel
theorem dX9_hold_10 : decode cX9_hold 10 = .ok (.aload_n 0, 1) := by decide +kernel
theorem dX9_hold_11 : decode cX9_hold 11 = .ok (.getfield 66, 3) := by decide +kernel
theorem dX9_hold_14 : decode cX9_hold 14 = .ok (.iload_n 1, 1) := by decide +kernel
theorem dX9_hold_15 : decode cX9_hold 15 = .ok (.aaload, 1) := by decide +kernel
theorem dX9_hold_16 : decode cX9_hold 16 = .ok (.astore 4, 2) := by decide +kernel
theorem dX9_hold_18 : decode cX9_hold 18 = .ok (.aload 4, 2) := by decide +kernel
theorem dX9_hold_20 : decode cX9_hold 20 = .ok (.getfield 270, 3) := by decide +kernel
theorem dX9_hold_23 : decode cX9_hold 23 = .ok (.istore 5, 2) := by decide +kernel
theorem dX9_hold_25 : decode cX9_hold 25 = .ok (.iload_n 2, 1) := by decide +kernel
theorem dX9_hold_26 : decode cX9_hold 26 = .ok (.tableswitch 124 0 2 #[26, 35, 75], 26) := by decide +kernel
theorem dX9_hold_52 : decode cX9_hold 52 = .ok (.aload 4, 2) := by decide +kernel
theorem dX9_hold_54 : decode cX9_hold 54 = .ok (.iconst 0, 1) := by decide +kernel
theorem dX9_hold_55 : decode cX9_hold 55 = .ok (.putfield 270, 3) := by decide +kernel
theorem dX9_hold_58 : decode cX9_hold 58 = .ok (.iload 5, 2) := by decide +kernel
theorem dX9_hold_60 : decode cX9_hold 60 = .ok (.ireturn, 1) := by decide +kernel
theorem dX9_hold_61 : decode cX9_hold 61 = .ok (.aload_n 0, 1) := by decide +kernel
theorem dX9_hold_62 : decode cX9_hold 62 = .ok (.getfield 12, 3) := by decide +kernel
theorem dX9_hold_65 : decode cX9_hold 65 = .ok (.iload_n 3, 1) := by decide +kernel
theorem dX9_hold_66 : decode cX9_hold 66 = .ok (.invokevirtual 114, 3) := by decide +kernel
theorem dX9_hold_69 : decode cX9_hold 69 = .ok (.ifCond .ne 6, 3) := by decide +kernel
theorem dX9_hold_72 : decode cX9_hold 72 = .ok (.bipush (-2), 2) := by decide +kernel
theorem dX9_hold_74 : decode cX9_hold 74 = .ok (.ireturn, 1) := by decide +kernel
theorem dX9_hold_75 : decode cX9_hold 75 = .ok (.aload 4, 2) := by decide +kernel
theorem dX9_hold_77 : decode cX9_hold 77 = .ok (.aload_n 0, 1) := by decide +kernel
theorem dX9_hold_78 : decode cX9_hold 78 = .ok (.getfield 12, 3) := by decide +kernel
theorem dX9_hold_81 : decode cX9_hold 81 = .ok (.getfield 123, 3) := by decide +kernel
theorem dX9_hold_84 : decode cX9_hold 84 = .ok (.iload_n 3, 1) := by decide +kernel
theorem dX9_hold_85 : decode cX9_hold 85 = .ok (.iaload, 1) := by decide +kernel
theorem dX9_hold_86 : decode cX9_hold 86 = .ok (.aload_n 0, 1) := by decide +kernel
theorem dX9_hold_87 : decode cX9_hold 87 = .ok (.getfield 12, 3) := by decide +kernel
theorem dX9_hold_90 : decode cX9_hold 90 = .ok (.getfield 126, 3) := by decide +kernel
theorem dX9_hold_93 : decode cX9_hold 93 = .ok (.iload_n 3, 1) := by decide +kernel
theorem dX9_hold_94 : decode cX9_hold 94 = .ok (.iaload, 1) := by decide +kernel
theorem dX9_hold_95 : decode cX9_hold 95 = .ok (.invokevirtual 273, 3) := by decide +kernel
theorem dX9_hold_98 : decode cX9_hold 98 = .ok (.iload 5, 2) := by decide +kernel
theorem dX9_hold_100 : decode cX9_hold 100 = .ok (.ireturn, 1) := by decide +kernel
theorem dX9_hold_101 : decode cX9_hold 101 = .ok (.aload_n 0, 1) := by decide +kernel
theorem dX9_hold_102 : decode cX9_hold 102 = .ok (.invokevirtual 238, 3) := by decide +kernel
theorem dX9_hold_105 : decode cX9_hold 105 = .ok (.aload_n 0, 1) := by decide +kernel
theorem dX9_hold_106 : decode cX9_hold 106 = .ok (.getfield 54, 3) := by decide +kernel
theorem dX9_hold_109 : decode cX9_hold 109 = .ok (.iload_n 3, 1) := by decide +kernel
theorem dX9_hold_110 : decode cX9_hold 110 = .ok (.invokevirtual 244, 3) := by decide +kernel
theorem dX9_hold_113 : decode cX9_hold 113 = .ok (.ifCond .ne 6, 3) := by decide +kernel
theorem dX9_hold_116 : decode cX9_hold 116 = .ok (.bipush (-2), 2) := by decide +kernel
theorem dX9_hold_118 : decode cX9_hold 118 = .ok (.ireturn, 1) := by decide +kernel
theorem dX9_hold_119 : decode cX9_hold 119 = .ok (.aload 4, 2) := by decide +kernel
theorem dX9_hold_121 : decode cX9_hold 121 = .ok (.aload_n 0, 1) := by decide +kernel
theorem dX9_hold_122 : decode cX9_hold 122 = .ok (.getfield 54, 3) := by decide +kernel
theorem dX9_hold_125 : decode cX9_hold 125 = .ok (.getfield 245, 3) := by decide +kernel
theorem dX9_hold_128 : decode cX9_hold 128 = .ok (.iload_n 3, 1) := by decide +kernel
theorem dX9_hold_129 : decode cX9_hold 129 = .ok (.laload, 1) := by decide +kernel
theorem dX9_hold_130 : decode cX9_hold 130 = .ok (.aload_n 0, 1) := by decide +kernel
theorem dX9_hold_131 : decode cX9_hold 131 = .ok (.getfield 12, 3) := by decide +kernel
theorem dX9_hold_134 : decode cX9_hold 134 = .ok (.getfield 86, 3) := by decide +kernel
theorem dX9_hold_137 : decode cX9_hold 137 = .ok (.aload_n 0, 1) := by decide +kernel
theorem dX9_hold_138 : decode cX9_hold 138 = .ok (.getfield 12, 3) := by decide +kernel
theorem dX9_hold_141 : decode cX9_hold 141 = .ok (.getfield 90, 3) := by decide +kernel
theorem dX9_hold_144 : decode cX9_hold 144 = .ok (.invokevirtual 277, 3) := by decide +kernel
theorem dX9_hold_147 : decode cX9_hold 147 = .ok (.iload 5, 2) := by decide +kernel
theorem dX9_hold_149 : decode cX9_hold 149 = .ok (.ireturn, 1) := by decide +kernel
theorem dX9_hold_150 : decode cX9_hold 150 = .ok (.bipush (-2), 2) := by decide +kernel
theorem dX9_hold_152 : decode cX9_hold 152 = .ok (.ireturn, 1) := by decide +kernel
theorem dX9_asPair_0 : decode cX9_asPair 0 = .ok (.iload_n 1, 1) := by decide +kernel
theorem dX9_asPair_1 : decode cX9_asPair 1 = .ok (.invokestatic 267, 3) := by decide +kernel
theorem dX9_asPair_4 : decode cX9_asPair 4 = .ok (.ifCond .eq 10, 3) := by decide +kernel
theorem dX9_asPair_7 : decode cX9_asPair 7 = .ok (.iload_n 2, 1) := by decide +kernel
theorem dX9_asPair_8 : decode cX9_asPair 8 = .ok (.invokestatic 101, 3) := by decide +kernel
theorem dX9_asPair_11 : decode cX9_asPair 11 = .ok (.ifCond .ne 6, 3) := by decide +kernel
theorem dX9_asPair_14 : decode cX9_asPair 14 = .ok (.bipush (-2), 2) := by decide +kernel
theorem dX9_asPair_16 : decode cX9_asPair 16 = .ok (.ireturn, 1) := by decide +kernel
theorem dX9_asPair_17 : decode cX9_asPair 17 = .ok (.aload_n 0, 1) := by decide +kernel
theorem dX9_asPair_18 : decode cX9_asPair 18 = .ok (.getfield 66, 3) := by decide +kernel
theorem dX9_asPair_21 : decode cX9_asPair 21 = .ok (.iload_n 1, 1) := by decide +kernel
theorem dX9_asPair_22 : decode cX9_asPair 22 = .ok (.aaload, 1) := by decide +kernel
theorem dX9_asPair_23 : decode cX9_asPair 23 = .ok (.astore_n 3, 1) := by decide +kernel
theorem dX9_asPair_24 : decode cX9_asPair 24 = .ok (.aload_n 3, 1) := by decide +kernel
theorem dX9_asPair_25 : decode cX9_asPair 25 = .ok (.getfield 270, 3) := by decide +kernel
theorem dX9_asPair_28 : decode cX9_asPair 28 = .ok (.ifCond .ne 6, 3) := by decide +kernel
theorem dX9_asPair_31 : decode cX9_asPair 31 = .ok (.bipush (-11), 2) := by decide +kernel
theorem dX9_asPair_33 : decode cX9_asPair 33 = .ok (.ireturn, 1) := by decide +kernel
theorem dX9_asPair_34 : decode cX9_asPair 34 = .ok (.aload_n 3, 1) := by decide +kernel
theorem dX9_asPair_35 : decode cX9_asPair 35 = .ok (.getfield 270, 3) := by decide +kernel
theorem dX9_asPair_38 : decode cX9_asPair 38 = .ok (.iconst 1, 1) := by decide +kernel
theorem dX9_asPair_39 : decode cX9_asPair 39 = .ok (.if_icmp .ne 21, 3) := by decide +kernel
theorem dX9_asPair_42 : decode cX9_asPair 42 = .ok (.aload_n 3, 1) := by decide +kernel
theorem dX9_asPair_43 : decode cX9_asPair 43 = .ok (.getfield 281, 3) := by decide +kernel
theorem dX9_asPair_46 : decode cX9_asPair 46 = .ok (.iload_n 2, 1) := by decide +kernel
theorem dX9_asPair_47 : decode cX9_asPair 47 = .ok (.invokestatic 284, 3) := by decide +kernel
theorem dX9_asPair_50 : decode cX9_asPair 50 = .ok (.ifCond .eq 10, 3) := by decide +kernel
theorem dX9_asPair_53 : decode cX9_asPair 53 = .ok (.aload_n 3, 1) := by decide +kernel
theorem dX9_asPair_54 : decode cX9_asPair 54 = .ok (.getfield 288, 3) := by decide +kernel
theorem dX9_asPair_57 : decode cX9_asPair 57 = .ok (.goto 5, 3) := by decide +kernel
theorem dX9_asPair_60 : decode cX9_asPair 60 = .ok (.bipush (-13), 2) := by decide +kernel
theorem dX9_asPair_62 : decode cX9_asPair 62 = .ok (.ireturn, 1) := by decide +kernel
theorem dX9_asRay_0 : decode cX9_asRay 0 = .ok (.iload_n 1, 1) := by decide +kernel
theorem dX9_asRay_1 : decode cX9_asRay 1 = .ok (.invokestatic 267, 3) := by decide +kernel
theorem dX9_asRay_4 : decode cX9_asRay 4 = .ok (.ifCond .ne 6, 3) := by decide +kernel
theorem dX9_asRay_7 : decode cX9_asRay 7 = .ok (.bipush (-2), 2) := by decide +kernel
theorem dX9_asRay_9 : decode cX9_asRay 9 = .ok (.ireturn, 1) := by decide +kernel
theorem dX9_asRay_10 : decode cX9_asRay 10 = .ok (.aload_n 0, 1) := by decide +kernel
theorem dX9_asRay_11 : decode cX9_asRay 11 = .ok (.getfield 66, 3) := by decide +kernel
theorem dX9_asRay_14 : decode cX9_asRay 14 = .ok (.iload_n 1, 1) := by decide +kernel
theorem dX9_asRay_15 : decode cX9_asRay 15 = .ok (.aaload, 1) := by decide +kernel
theorem dX9_asRay_16 : decode cX9_asRay 16 = .ok (.astore_n 3, 1) := by decide +kernel
theorem dX9_asRay_17 : decode cX9_asRay 17 = .ok (.aload_n 3, 1) := by decide +kernel
theorem dX9_asRay_18 : decode cX9_asRay 18 = .ok (.getfield 270, 3) := by decide +kernel
theorem dX9_asRay_21 : decode cX9_asRay 21 = .ok (.ifCond .ne 6, 3) := by decide +kernel
theorem dX9_asRay_24 : decode cX9_asRay 24 = .ok (.bipush (-11), 2) := by decide +kernel
theorem dX9_asRay_26 : decode cX9_asRay 26 = .ok (.ireturn, 1) := by decide +kernel
theorem dX9_asRay_27 : decode cX9_asRay 27 = .ok (.aload_n 3, 1) := by decide +kernel
theorem dX9_asRay_28 : decode cX9_asRay 28 = .ok (.getfield 270, 3) := by decide +kernel
theorem dX9_asRay_31 : decode cX9_asRay 31 = .ok (.iconst 2, 1) := by decide +kernel
theorem dX9_asRay_32 : decode cX9_asRay 32 = .ok (.if_icmp .eq 6, 3) := by decide +kernel
theorem dX9_asRay_35 : decode cX9_asRay 35 = .ok (.bipush (-13), 2) := by decide +kernel
theorem dX9_asRay_37 : decode cX9_asRay 37 = .ok (.ireturn, 1) := by decide +kernel
theorem dX9_asRay_38 : decode cX9_asRay 38 = .ok (.iload_n 2, 1) := by decide +kernel
theorem dX9_asRay_39 : decode cX9_asRay 39 = .ok (.ifCond .lt 11, 3) := by decide +kernel
theorem dX9_asRay_42 : decode cX9_asRay 42 = .ok (.iload_n 2, 1) := by decide +kernel
theorem dX9_asRay_43 : decode cX9_asRay 43 = .ok (.aload_n 3, 1) := by decide +kernel
theorem dX9_asRay_44 : decode cX9_asRay 44 = .ok (.getfield 291, 3) := by decide +kernel
theorem dX9_asRay_47 : decode cX9_asRay 47 = .ok (.if_icmp .lt 8, 3) := by decide +kernel
theorem dX9_asRay_50 : decode cX9_asRay 50 = .ok (.bipush (-12), 2) := by decide +kernel
theorem dX9_asRay_52 : decode cX9_asRay 52 = .ok (.goto 9, 3) := by decide +kernel
theorem dX9_asRay_55 : decode cX9_asRay 55 = .ok (.aload_n 3, 1) := by decide +kernel
theorem dX9_asRay_56 : decode cX9_asRay 56 = .ok (.getfield 292, 3) := by decide +kernel
theorem dX9_asRay_59 : decode cX9_asRay 59 = .ok (.iload_n 2, 1) := by decide +kernel
theorem dX9_asRay_60 : decode cX9_asRay 60 = .ok (.iaload, 1) := by decide +kernel
theorem dX9_asRay_61 : decode cX9_asRay 61 = .ok (.ireturn, 1) := by decide +kernel
theorem dX9_compare_0 : decode cX9_compare 0 = .ok (.iload_n 1, 1) := by decide +kernel
theorem dX9_compare_1 : decode cX9_compare 1 = .ok (.invokestatic 267, 3) := by decide +kernel
theorem dX9_compare_4 : decode cX9_compare 4 = .ok (.ifCond .eq 10, 3) := by decide +kernel
theorem dX9_compare_7 : decode cX9_compare 7 = .ok (.iload_n 2, 1) := by decide +kernel
theorem dX9_compare_8 : decode cX9_compare 8 = .ok (.invokestatic 267, 3) := by decide +kernel
theorem dX9_compare_11 : decode cX9_compare 11 = .ok (.ifCond .ne 6, 3) := by decide +kernel
theorem dX9_compare_14 : decode cX9_compare 14 = .ok (.bipush (-2), 2) := by decide +kernel
theorem dX9_compare_16 : decode cX9_compare 16 = .ok (.ireturn, 1) := by decide +kernel
theorem dX9_compare_17 : decode cX9_compare 17 = .ok (.aload_n 0, 1) := by decide +kernel
theorem dX9_compare_18 : decode cX9_compare 18 = .ok (.getfield 66, 3) := by decide +kernel
theorem dX9_compare_21 : decode cX9_compare 21 = .ok (.iload_n 1, 1) := by decide +kernel
theorem dX9_compare_22 : decode cX9_compare 22 = .ok (.aaload, 1) := by decide +kernel
theorem dX9_compare_23 : decode cX9_compare 23 = .ok (.astore_n 3, 1) := by decide +kernel
theorem dX9_compare_24 : decode cX9_compare 24 = .ok (.aload_n 0, 1) := by decide +kernel
theorem dX9_compare_25 : decode cX9_compare 25 = .ok (.getfield 66, 3) := by decide +kernel
theorem dX9_compare_28 : decode cX9_compare 28 = .ok (.iload_n 2, 1) := by decide +kernel
theorem dX9_compare_29 : decode cX9_compare 29 = .ok (.aaload, 1) := by decide +kernel
theorem dX9_compare_30 : decode cX9_compare 30 = .ok (.astore 4, 2) := by decide +kernel
theorem dX9_compare_32 : decode cX9_compare 32 = .ok (.aload_n 3, 1) := by decide +kernel
theorem dX9_compare_33 : decode cX9_compare 33 = .ok (.getfield 270, 3) := by decide +kernel
theorem dX9_compare_36 : decode cX9_compare 36 = .ok (.ifCond .eq 11, 3) := by decide +kernel
theorem dX9_compare_39 : decode cX9_compare 39 = .ok (.aload 4, 2) := by decide +kernel
theorem dX9_compare_41 : decode cX9_compare 41 = .ok (.getfield 270, 3) := by decide +kernel
theorem dX9_compare_44 : decode cX9_compare 44 = .ok (.ifCond .ne 6, 3) := by decide +kernel
theorem dX9_compare_47 : decode cX9_compare 47 = .ok (.bipush (-11), 2) := by decide +kernel
theorem dX9_compare_49 : decode cX9_compare 49 = .ok (.ireturn, 1) := by decide +kernel
theorem dX9_compare_50 : decode cX9_compare 50 = .ok (.aload_n 3, 1) := by decide +kernel
theorem dX9_compare_51 : decode cX9_compare 51 = .ok (.getfield 270, 3) := by decide +kernel
theorem dX9_compare_54 : decode cX9_compare 54 = .ok (.iconst 2, 1) := by decide +kernel
theorem dX9_compare_55 : decode cX9_compare 55 = .ok (.if_icmp .ne 21, 3) := by decide +kernel
theorem dX9_compare_58 : decode cX9_compare 58 = .ok (.aload 4, 2) := by decide +kernel
theorem dX9_compare_60 : decode cX9_compare 60 = .ok (.getfield 270, 3) := by decide +kernel
theorem dX9_compare_63 : decode cX9_compare 63 = .ok (.iconst 2, 1) := by decide +kernel
theorem dX9_compare_64 : decode cX9_compare 64 = .ok (.if_icmp .ne 12, 3) := by decide +kernel
theorem dX9_compare_67 : decode cX9_compare 67 = .ok (.aload_n 3, 1) := by decide +kernel
theorem dX9_compare_68 : decode cX9_compare 68 = .ok (.aload 4, 2) := by decide +kernel
theorem dX9_compare_70 : decode cX9_compare 70 = .ok (.invokevirtual 295, 3) := by decide +kernel
theorem dX9_compare_73 : decode cX9_compare 73 = .ok (.goto 5, 3) := by decide +kernel
theorem dX9_compare_76 : decode cX9_compare 76 = .ok (.bipush (-13), 2) := by decide +kernel
theorem dX9_compare_78 : decode cX9_compare 78 = .ok (.ireturn, 1) := by decide +kernel
theorem dX9_sheet_0 : decode cX9_sheet 0 = .ok (.iload_n 1, 1) := by decide +kernel
theorem dX9_sheet_1 : decode cX9_sheet 1 = .ok (.invokestatic 194, 3) := by decide +kernel
theorem dX9_sheet_4 : decode cX9_sheet 4 = .ok (.ifCond .eq 13, 3) := by decide +kernel
theorem dX9_sheet_7 : decode cX9_sheet 7 = .ok (.iload_n 2, 1) := by decide +kernel
theorem dX9_sheet_8 : decode cX9_sheet 8 = .ok (.iconst (-1), 1) := by decide +kernel
theorem dX9_sheet_9 : decode cX9_sheet 9 = .ok (.if_icmp .lt 8, 3) := by decide +kernel
theorem dX9_sheet_12 : decode cX9_sheet 12 = .ok (.iload_n 2, 1) := by decide +kernel
theorem dX9_sheet_13 : decode cX9_sheet 13 = .ok (.iconst 1, 1) := by decide +kernel
theorem dX9_sheet_14 : decode cX9_sheet 14 = .ok (.if_icmp .le 6, 3) := by decide +kernel
theorem dX9_sheet_17 : decode cX9_sheet 17 = .ok (.bipush (-2), 2) := by decide +kernel
theorem dX9_sheet_19 : decode cX9_sheet 19 = .ok (.ireturn, 1) := by decide +kernel
theorem dX9_sheet_20 : decode cX9_sheet 20 = .ok (.iload_n 2, 1) := by decide +kernel
theorem dX9_sheet_21 : decode cX9_sheet 21 = .ok (.iconst (-1), 1) := by decide +kernel
theorem dX9_sheet_22 : decode cX9_sheet 22 = .ok (.if_icmp .eq 12, 3) := by decide +kernel
theorem dX9_sheet_25 : decode cX9_sheet 25 = .ok (.iload_n 3, 1) := by decide +kernel
theorem dX9_sheet_26 : decode cX9_sheet 26 = .ok (.bipush 30, 2) := by decide +kernel
theorem dX9_sheet_28 : decode cX9_sheet 28 = .ok (.if_icmp .le 6, 3) := by decide +kernel
theorem dX9_sheet_31 : decode cX9_sheet 31 = .ok (.bipush (-2), 2) := by decide +kernel
theorem dX9_sheet_33 : decode cX9_sheet 33 = .ok (.ireturn, 1) := by decide +kernel
theorem dX9_sheet_34 : decode cX9_sheet 34 = .ok (.iload_n 2, 1) := by decide +kernel
theorem dX9_sheet_35 : decode cX9_sheet 35 = .ok (.iconst (-1), 1) := by decide +kernel
theorem dX9_sheet_36 : decode cX9_sheet 36 = .ok (.if_icmp .eq 10, 3) := by decide +kernel
theorem dX9_sheet_39 : decode cX9_sheet 39 = .ok (.iload_n 3, 1) := by decide +kernel
theorem dX9_sheet_40 : decode cX9_sheet 40 = .ok (.ifCond .ge 6, 3) := by decide +kernel
theorem dX9_sheet_43 : decode cX9_sheet 43 = .ok (.bipush (-14), 2) := by decide +kernel
theorem dX9_sheet_45 : decode cX9_sheet 45 = .ok (.ireturn, 1) := by decide +kernel
theorem dX9_sheet_46 : decode cX9_sheet 46 = .ok (.aload_n 0, 1) := by decide +kernel
theorem dX9_sheet_47 : decode cX9_sheet 47 = .ok (.getfield 60, 3) := by decide +kernel
theorem dX9_sheet_50 : decode cX9_sheet 50 = .ok (.iload_n 1, 1) := by decide +kernel
theorem dX9_sheet_51 : decode cX9_sheet 51 = .ok (.aaload, 1) := by decide +kernel
theorem dX9_sheet_52 : decode cX9_sheet 52 = .ok (.iload_n 2, 1) := by decide +kernel
theorem dX9_sheet_53 : decode cX9_sheet 53 = .ok (.iload_n 2, 1) := by decide +kernel
theorem dX9_sheet_54 : decode cX9_sheet 54 = .ok (.iconst (-1), 1) := by decide +kernel
theorem dX9_sheet_55 : decode cX9_sheet 55 = .ok (.if_icmp .ne 7, 3) := by decide +kernel
theorem dX9_sheet_58 : decode cX9_sheet 58 = .ok (.iconst 0, 1) := by decide +kernel
theorem dX9_sheet_59 : decode cX9_sheet 59 = .ok (.goto 4, 3) := by decide +kernel
theorem dX9_sheet_62 : decode cX9_sheet 62 = .ok (.iload_n 3, 1) := by decide +kernel
theorem dX9_sheet_63 : decode cX9_sheet 63 = .ok (.invokevirtual 299, 3) := by decide +kernel
theorem dX9_sheet_66 : decode cX9_sheet 66 = .ok (.iconst 1, 1) := by decide +kernel
theorem dX9_sheet_67 : decode cX9_sheet 67 = .ok (.ireturn, 1) := by decide +kernel
theorem dX9_cell_0 : decode cX9_cell 0 = .ok (.iload_n 1, 1) := by decide +kernel
theorem dX9_cell_1 : decode cX9_cell 1 = .ok (.invokestatic 194, 3) := by decide +kernel
theorem dX9_cell_4 : decode cX9_cell 4 = .ok (.ifCond .ne 6, 3) := by decide +kernel
theorem dX9_cell_7 : decode cX9_cell 7 = .ok (.bipush (-2), 2) := by decide +kernel
theorem dX9_cell_9 : decode cX9_cell 9 = .ok (.ireturn, 1) := by decide +kernel
theorem dX9_cell_10 : decode cX9_cell 10 = .ok (.aload_n 0, 1) := by decide +kernel
theorem dX9_cell_11 : decode cX9_cell 11 = .ok (.getfield 60, 3) := by decide +kernel
theorem dX9_cell_14 : decode cX9_cell 14 = .ok (.iload_n 1, 1) := by decide +kernel
theorem dX9_cell_15 : decode cX9_cell 15 = .ok (.aaload, 1) := by decide +kernel
theorem dX9_cell_16 : decode cX9_cell 16 = .ok (.astore 5, 2) := by decide +kernel
theorem dX9_cell_18 : decode cX9_cell 18 = .ok (.aload 5, 2) := by decide +kernel
theorem dX9_cell_20 : decode cX9_cell 20 = .ok (.invokevirtual 197, 3) := by decide +kernel
theorem dX9_cell_23 : decode cX9_cell 23 = .ok (.ifCond .eq 6, 3) := by decide +kernel
theorem dX9_cell_26 : decode cX9_cell 26 = .ok (.bipush (-11), 2) := by decide +kernel
theorem dX9_cell_28 : decode cX9_cell 28 = .ok (.ireturn, 1) := by decide +kernel
theorem dX9_cell_29 : decode cX9_cell 29 = .ok (.aload 5, 2) := by decide +kernel
theorem dX9_cell_31 : decode cX9_cell 31 = .ok (.iload_n 2, 1) := by decide +kernel
theorem dX9_cell_32 : decode cX9_cell 32 = .ok (.invokevirtual 302, 3) := by decide +kernel
theorem dX9_cell_35 : decode cX9_cell 35 = .ok (.ifCond .ne 6, 3) := by decide +kernel
theorem dX9_cell_38 : decode cX9_cell 38 = .ok (.bipush (-12), 2) := by decide +kernel
theorem dX9_cell_40 : decode cX9_cell 40 = .ok (.ireturn, 1) := by decide +kernel
theorem dX9_cell_41 : decode cX9_cell 41 = .ok (.aload 5, 2) := by decide +kernel
theorem dX9_cell_43 : decode cX9_cell 43 = .ok (.getfield 303, 3) := by decide +kernel
theorem dX9_cell_46 : decode cX9_cell 46 = .ok (.ifCond .ne 13, 3) := by decide +kernel
theorem dX9_cell_49 : decode cX9_cell 49 = .ok (.lload_n 3, 1) := by decide +kernel
theorem dX9_cell_50 : decode cX9_cell 50 = .ok (.invokestatic 304, 3) := by decide +kernel
theorem dX9_cell_53 : decode cX9_cell 53 = .ok (.ifCond .ne 6, 3) := by decide +kernel
theorem dX9_cell_56 : decode cX9_cell 56 = .ok (.bipush (-5), 2) := by decide +kernel
theorem dX9_cell_58 : decode cX9_cell 58 = .ok (.ireturn, 1) := by decide +kernel
theorem dX9_cell_59 : decode cX9_cell 59 = .ok (.aload 5, 2) := by decide +kernel
theorem dX9_cell_61 : decode cX9_cell 61 = .ok (.getfield 307, 3) := by decide +kernel
theorem dX9_cell_64 : decode cX9_cell 64 = .ok (.iload_n 2, 1) := by decide +kernel
theorem dX9_cell_65 : decode cX9_cell 65 = .ok (.lload_n 3, 1) := by decide +kernel
theorem dX9_cell_66 : decode cX9_cell 66 = .ok (.lastore, 1) := by decide +kernel
theorem dX9_cell_67 : decode cX9_cell 67 = .ok (.iconst 1, 1) := by decide +kernel
theorem dX9_cell_68 : decode cX9_cell 68 = .ok (.ireturn, 1) := by decide +kernel
theorem dX9_read_0 : decode cX9_read 0 = .ok (.iload_n 1, 1) := by decide +kernel
theorem dX9_read_1 : decode cX9_read 1 = .ok (.invokestatic 194, 3) := by decide +kernel
theorem dX9_read_4 : decode cX9_read 4 = .ok (.ifCond .ne 7, 3) := by decide +kernel
theorem dX9_read_7 : decode cX9_read 7 = .ok (.ldc2_w 213, 3) := by decide +kernel
theorem dX9_read_10 : decode cX9_read 10 = .ok (.lreturn, 1) := by decide +kernel
theorem dX9_read_11 : decode cX9_read 11 = .ok (.aload_n 0, 1) := by decide +kernel
theorem dX9_read_12 : decode cX9_read 12 = .ok (.getfield 60, 3) := by decide +kernel
theorem dX9_read_15 : decode cX9_read 15 = .ok (.iload_n 1, 1) := by decide +kernel
theorem dX9_read_16 : decode cX9_read 16 = .ok (.aaload, 1) := by decide +kernel
theorem dX9_read_17 : decode cX9_read 17 = .ok (.astore_n 3, 1) := by decide +kernel
theorem dX9_read_18 : decode cX9_read 18 = .ok (.aload_n 3, 1) := by decide +kernel
theorem dX9_read_19 : decode cX9_read 19 = .ok (.invokevirtual 197, 3) := by decide +kernel
theorem dX9_read_22 : decode cX9_read 22 = .ok (.ifCond .eq 7, 3) := by decide +kernel
theorem dX9_read_25 : decode cX9_read 25 = .ok (.ldc2_w 215, 3) := by decide +kernel
theorem dX9_read_28 : decode cX9_read 28 = .ok (.lreturn, 1) := by decide +kernel
theorem dX9_read_29 : decode cX9_read 29 = .ok (.aload_n 3, 1) := by decide +kernel
theorem dX9_read_30 : decode cX9_read 30 = .ok (.iload_n 2, 1) := by decide +kernel
theorem dX9_read_31 : decode cX9_read 31 = .ok (.invokevirtual 302, 3) := by decide +kernel
theorem dX9_read_34 : decode cX9_read 34 = .ok (.ifCond .eq 12, 3) := by decide +kernel
theorem dX9_read_37 : decode cX9_read 37 = .ok (.aload_n 3, 1) := by decide +kernel
theorem dX9_read_38 : decode cX9_read 38 = .ok (.getfield 307, 3) := by decide +kernel
theorem dX9_read_41 : decode cX9_read 41 = .ok (.iload_n 2, 1) := by decide +kernel
theorem dX9_read_42 : decode cX9_read 42 = .ok (.laload, 1) := by decide +kernel
theorem dX9_read_43 : decode cX9_read 43 = .ok (.goto 6, 3) := by decide +kernel
theorem dX9_read_46 : decode cX9_read 46 = .ok (.ldc2_w 158, 3) := by decide +kernel
theorem dX9_read_49 : decode cX9_read 49 = .ok (.lreturn, 1) := by decide +kernel
theorem dX9_load_0 : decode cX9_load 0 = .ok (.iload_n 1, 1) := by decide +kernel
theorem dX9_load_1 : decode cX9_load 1 = .ok (.invokestatic 194, 3) := by decide +kernel
theorem dX9_load_4 : decode cX9_load 4 = .ok (.ifCond .eq 14, 3) := by decide +kernel
theorem dX9_load_7 : decode cX9_load 7 = .ok (.aload_n 0, 1) := by decide +kernel
theorem dX9_load_8 : decode cX9_load 8 = .ok (.getfield 12, 3) := by decide +kernel
theorem dX9_load_11 : decode cX9_load 11 = .ok (.iload_n 2, 1) := by decide +kernel
theorem dX9_load_12 : decode cX9_load 12 = .ok (.invokevirtual 114, 3) := by decide +kernel
theorem dX9_load_15 : decode cX9_load 15 = .ok (.ifCond .ne 6, 3) := by decide +kernel
theorem dX9_load_18 : decode cX9_load 18 = .ok (.bipush (-2), 2) := by decide +kernel
theorem dX9_load_20 : decode cX9_load 20 = .ok (.ireturn, 1) := by decide +kernel
theorem dX9_load_21 : decode cX9_load 21 = .ok (.aload_n 0, 1) := by decide +kernel
theorem dX9_load_22 : decode cX9_load 22 = .ok (.getfield 60, 3) := by decide +kernel
theorem dX9_load_25 : decode cX9_load 25 = .ok (.iload_n 1, 1) := by decide +kernel
theorem dX9_load_26 : decode cX9_load 26 = .ok (.aaload, 1) := by decide +kernel
theorem dX9_load_27 : decode cX9_load 27 = .ok (.astore 4, 2) := by decide +kernel
theorem dX9_load_29 : decode cX9_load 29 = .ok (.aload 4, 2) := by decide +kernel
theorem dX9_load_31 : decode cX9_load 31 = .ok (.invokevirtual 197, 3) := by decide +kernel
theorem dX9_load_34 : decode cX9_load 34 = .ok (.ifCond .eq 6, 3) := by decide +kernel
theorem dX9_load_37 : decode cX9_load 37 = .ok (.bipush (-11), 2) := by decide +kernel
theorem dX9_load_39 : decode cX9_load 39 = .ok (.ireturn, 1) := by decide +kernel
theorem dX9_load_40 : decode cX9_load 40 = .ok (.iload_n 3, 1) := by decide +kernel
theorem dX9_load_41 : decode cX9_load 41 = .ok (.ifCond .lt 15, 3) := by decide +kernel
theorem dX9_load_44 : decode cX9_load 44 = .ok (.iload_n 3, 1) := by decide +kernel
theorem dX9_load_45 : decode cX9_load 45 = .ok (.aload 4, 2) := by decide +kernel
theorem dX9_load_47 : decode cX9_load 47 = .ok (.getfield 310, 3) := by decide +kernel
theorem dX9_load_50 : decode cX9_load 50 = .ok (.bipush 12, 2) := by decide +kernel
theorem dX9_load_52 : decode cX9_load 52 = .ok (.isub, 1) := by decide +kernel
theorem dX9_load_53 : decode cX9_load 53 = .ok (.if_icmp .le 6, 3) := by decide +kernel
theorem dX9_load_56 : decode cX9_load 56 = .ok (.bipush (-12), 2) := by decide +kernel
theorem dX9_load_58 : decode cX9_load 58 = .ok (.ireturn, 1) := by decide +kernel
theorem dX9_load_59 : decode cX9_load 59 = .ok (.iconst 0, 1) := by decide +kernel
theorem dX9_load_60 : decode cX9_load 60 = .ok (.istore 5, 2) := by decide +kernel
theorem dX9_load_62 : decode cX9_load 62 = .ok (.iload 5, 2) := by decide +kernel
theorem dX9_load_64 : decode cX9_load 64 = .ok (.bipush 12, 2) := by decide +kernel
theorem dX9_load_66 : decode cX9_load 66 = .ok (.if_icmp .ge 39, 3) := by decide +kernel
theorem dX9_load_69 : decode cX9_load 69 = .ok (.aload_n 0, 1) := by decide +kernel
theorem dX9_load_70 : decode cX9_load 70 = .ok (.getfield 12, 3) := by decide +kernel
theorem dX9_load_73 : decode cX9_load 73 = .ok (.getfield 120, 3) := by decide +kernel
theorem dX9_load_76 : decode cX9_load 76 = .ok (.iload_n 2, 1) := by decide +kernel
theorem dX9_load_77 : decode cX9_load 77 = .ok (.bipush 12, 2) := by decide +kernel
theorem dX9_load_79 : decode cX9_load 79 = .ok (.imul, 1) := by decide +kernel
theorem dX9_load_80 : decode cX9_load 80 = .ok (.iload 5, 2) := by decide +kernel
theorem dX9_load_82 : decode cX9_load 82 = .ok (.iadd, 1) := by decide +kernel
theorem dX9_load_83 : decode cX9_load 83 = .ok (.aload 4, 2) := by decide +kernel
theorem dX9_load_85 : decode cX9_load 85 = .ok (.getfield 307, 3) := by decide +kernel
theorem dX9_load_88 : decode cX9_load 88 = .ok (.iload_n 3, 1) := by decide +kernel
theorem dX9_load_89 : decode cX9_load 89 = .ok (.iload 5, 2) := by decide +kernel
theorem dX9_load_91 : decode cX9_load 91 = .ok (.iadd, 1) := by decide +kernel
theorem dX9_load_92 : decode cX9_load 92 = .ok (.laload, 1) := by decide +kernel
theorem dX9_load_93 : decode cX9_load 93 = .ok (.ldc2_w 311, 3) := by decide +kernel
theorem dX9_load_96 : decode cX9_load 96 = .ok (.lrem, 1) := by decide +kernel
theorem dX9_load_97 : decode cX9_load 97 = .ok (.l2i, 1) := by decide +kernel
theorem dX9_load_98 : decode cX9_load 98 = .ok (.iastore, 1) := by decide +kernel
theorem dX9_load_99 : decode cX9_load 99 = .ok (.iinc 5 1, 3) := by decide +kernel
theorem dX9_load_102 : decode cX9_load 102 = .ok (.goto (-40), 3) := by decide +kernel
theorem dX9_load_105 : decode cX9_load 105 = .ok (.bipush 12, 2) := by decide +kernel
theorem dX9_load_107 : decode cX9_load 107 = .ok (.ireturn, 1) := by decide +kernel
theorem dX9_image_0 : decode cX9_image 0 = .ok (.aload_n 0, 1) := by decide +kernel
theorem dX9_image_1 : decode cX9_image 1 = .ok (.getfield 16, 3) := by decide +kernel
theorem dX9_image_4 : decode cX9_image 4 = .ok (.aload_n 0, 1) := by decide +kernel
theorem dX9_image_5 : decode cX9_image 5 = .ok (.getfield 12, 3) := by decide +kernel
theorem dX9_image_8 : decode cX9_image 8 = .ok (.invokevirtual 313, 3) := by decide +kernel
theorem dX9_image_11 : decode cX9_image 11 = .ok (.aload_n 0, 1) := by decide +kernel
theorem dX9_image_12 : decode cX9_image 12 = .ok (.iconst 1, 1) := by decide +kernel
theorem dX9_image_13 : decode cX9_image 13 = .ok (.putfield 19, 3) := by decide +kernel
theorem dX9_image_16 : decode cX9_image 16 = .ok (.aload_n 0, 1) := by decide +kernel
theorem dX9_image_17 : decode cX9_image 17 = .ok (.getfield 12, 3) := by decide +kernel
theorem dX9_image_20 : decode cX9_image 20 = .ok (.getfield 107, 3) := by decide +kernel
theorem dX9_image_23 : decode cX9_image 23 = .ok (.ireturn, 1) := by decide +kernel
theorem dX9_back_0 : decode cX9_back 0 = .ok (.aload_n 0, 1) := by decide +kernel
theorem dX9_back_1 : decode cX9_back 1 = .ok (.getfield 19, 3) := by decide +kernel
theorem dX9_back_4 : decode cX9_back 4 = .ok (.ifCond .ne 6, 3) := by decide +kernel
theorem dX9_back_7 : decode cX9_back 7 = .ok (.bipush (-3), 2) := by decide +kernel
theorem dX9_back_9 : decode cX9_back 9 = .ok (.ireturn, 1) := by decide +kernel
theorem dX9_back_10 : decode cX9_back 10 = .ok (.aload_n 0, 1) := by decide +kernel
theorem dX9_back_11 : decode cX9_back 11 = .ok (.getfield 12, 3) := by decide +kernel
theorem dX9_back_14 : decode cX9_back 14 = .ok (.aload_n 0, 1) := by decide +kernel
theorem dX9_back_15 : decode cX9_back 15 = .ok (.getfield 16, 3) := by decide +kernel
theorem dX9_back_18 : decode cX9_back 18 = .ok (.invokevirtual 313, 3) := by decide +kernel
theorem dX9_back_21 : decode cX9_back 21 = .ok (.aload_n 0, 1) := by decide +kernel
theorem dX9_back_22 : decode cX9_back 22 = .ok (.getfield 12, 3) := by decide +kernel
theorem dX9_back_25 : decode cX9_back 25 = .ok (.getfield 107, 3) := by decide +kernel
theorem dX9_back_28 : decode cX9_back 28 = .ok (.ireturn, 1) := by decide +kernel
theorem dX9_count_0 : decode cX9_count 0 = .ok (.iload_n 1, 1) := by decide +kernel
theorem dX9_count_1 : decode cX9_count 1 = .ok (.tableswitch 75 0 4 #[35, 43, 51, 59, 67], 35) := by decide +kernel
theorem dX9_count_36 : decode cX9_count 36 = .ok (.aload_n 0, 1) := by decide +kernel
theorem dX9_count_37 : decode cX9_count 37 = .ok (.getfield 12, 3) := by decide +kernel
theorem dX9_count_40 : decode cX9_count 40 = .ok (.getfield 107, 3) := by decide +kernel
theorem dX9_count_43 : decode cX9_count 43 = .ok (.ireturn, 1) := by decide +kernel
theorem dX9_count_44 : decode cX9_count 44 = .ok (.aload_n 0, 1) := by decide +kernel
theorem dX9_count_45 : decode cX9_count 45 = .ok (.getfield 12, 3) := by decide +kernel
theorem dX9_count_48 : decode cX9_count 48 = .ok (.getfield 86, 3) := by decide +kernel
theorem dX9_count_51 : decode cX9_count 51 = .ok (.ireturn, 1) := by decide +kernel
theorem dX9_count_52 : decode cX9_count 52 = .ok (.aload_n 0, 1) := by decide +kernel
theorem dX9_count_53 : decode cX9_count 53 = .ok (.getfield 12, 3) := by decide +kernel
theorem dX9_count_56 : decode cX9_count 56 = .ok (.getfield 90, 3) := by decide +kernel
theorem dX9_count_59 : decode cX9_count 59 = .ok (.ireturn, 1) := by decide +kernel
theorem dX9_count_60 : decode cX9_count 60 = .ok (.aload_n 0, 1) := by decide +kernel
theorem dX9_count_61 : decode cX9_count 61 = .ok (.getfield 12, 3) := by decide +kernel
theorem dX9_count_64 : decode cX9_count 64 = .ok (.invokevirtual 315, 3) := by decide +kernel
theorem dX9_count_67 : decode cX9_count 67 = .ok (.ireturn, 1) := by decide +kernel
theorem dX9_count_68 : decode cX9_count 68 = .ok (.aload_n 0, 1) := by decide +kernel
theorem dX9_count_69 : decode cX9_count 69 = .ok (.getfield 12, 3) := by decide +kernel
theorem dX9_count_72 : decode cX9_count 72 = .ok (.invokevirtual 318, 3) := by decide +kernel
theorem dX9_count_75 : decode cX9_count 75 = .ok (.ireturn, 1) := by decide +kernel
theorem dX9_count_76 : decode cX9_count 76 = .ok (.bipush (-2), 2) := by decide +kernel
theorem dX9_count_78 : decode cX9_count 78 = .ok (.ireturn, 1) := by decide +kernel
theorem dX9_fillStanding_0 : decode cX9_fillStanding 0 = .ok (.aload_n 0, 1) := by decide +kernel
theorem dX9_fillStanding_1 : decode cX9_fillStanding 1 = .ok (.getfield 26, 3) := by decide +kernel
theorem dX9_fillStanding_4 : decode cX9_fillStanding 4 = .ok (.aload_n 0, 1) := by decide +kernel
theorem dX9_fillStanding_5 : decode cX9_fillStanding 5 = .ok (.getfield 12, 3) := by decide +kernel
theorem dX9_fillStanding_8 : decode cX9_fillStanding 8 = .ok (.invokevirtual 141, 3) := by decide +kernel
theorem dX9_fillStanding_11 : decode cX9_fillStanding 11 = .ok (.aload_n 0, 1) := by decide +kernel
theorem dX9_fillStanding_12 : decode cX9_fillStanding 12 = .ok (.getfield 33, 3) := by decide +kernel
theorem dX9_fillStanding_15 : decode cX9_fillStanding 15 = .ok (.aload_n 0, 1) := by decide +kernel
theorem dX9_fillStanding_16 : decode cX9_fillStanding 16 = .ok (.getfield 26, 3) := by decide +kernel
theorem dX9_fillStanding_19 : decode cX9_fillStanding 19 = .ok (.invokevirtual 321, 3) := by decide +kernel
theorem dX9_fillStanding_22 : decode cX9_fillStanding 22 = .ok (.return_, 1) := by decide +kernel
theorem dX9_fillRays_0 : decode cX9_fillRays 0 = .ok (.aload_n 0, 1) := by decide +kernel
theorem dX9_fillRays_1 : decode cX9_fillRays 1 = .ok (.getfield 26, 3) := by decide +kernel
theorem dX9_fillRays_4 : decode cX9_fillRays 4 = .ok (.aload_n 0, 1) := by decide +kernel
theorem dX9_fillRays_5 : decode cX9_fillRays 5 = .ok (.getfield 12, 3) := by decide +kernel
theorem dX9_fillRays_8 : decode cX9_fillRays 8 = .ok (.invokevirtual 141, 3) := by decide +kernel
theorem dX9_fillRays_11 : decode cX9_fillRays 11 = .ok (.aload_n 0, 1) := by decide +kernel
theorem dX9_fillRays_12 : decode cX9_fillRays 12 = .ok (.getfield 54, 3) := by decide +kernel
theorem dX9_fillRays_15 : decode cX9_fillRays 15 = .ok (.aload_n 0, 1) := by decide +kernel
theorem dX9_fillRays_16 : decode cX9_fillRays 16 = .ok (.getfield 26, 3) := by decide +kernel
theorem dX9_fillRays_19 : decode cX9_fillRays 19 = .ok (.invokevirtual 324, 3) := by decide +kernel
theorem dX9_fillRays_22 : decode cX9_fillRays 22 = .ok (.return_, 1) := by decide +kernel
theorem dX9_fillOrder_0 : decode cX9_fillOrder 0 = .ok (.iconst 0, 1) := by decide +kernel
theorem dX9_fillOrder_1 : decode cX9_fillOrder 1 = .ok (.istore_n 1, 1) := by decide +kernel
theorem dX9_fillOrder_2 : decode cX9_fillOrder 2 = .ok (.iload_n 1, 1) := by decide +kernel
theorem dX9_fillOrder_3 : decode cX9_fillOrder 3 = .ok (.aload_n 0, 1) := by decide +kernel
theorem dX9_fillOrder_4 : decode cX9_fillOrder 4 = .ok (.getfield 12, 3) := by decide +kernel
theorem dX9_fillOrder_7 : decode cX9_fillOrder 7 = .ok (.getfield 107, 3) := by decide +kernel
theorem dX9_fillOrder_10 : decode cX9_fillOrder 10 = .ok (.if_icmp .ge 23, 3) := by decide +kernel
theorem dX9_fillOrder_13 : decode cX9_fillOrder 13 = .ok (.aload_n 0, 1) := by decide +kernel
theorem dX9_fillOrder_14 : decode cX9_fillOrder 14 = .ok (.getfield 70, 3) := by decide +kernel
theorem dX9_fillOrder_17 : decode cX9_fillOrder 17 = .ok (.aload_n 0, 1) := by decide +kernel
theorem dX9_fillOrder_18 : decode cX9_fillOrder 18 = .ok (.getfield 12, 3) := by decide +kernel
theorem dX9_fillOrder_21 : decode cX9_fillOrder 21 = .ok (.iload_n 1, 1) := by decide +kernel
theorem dX9_fillOrder_22 : decode cX9_fillOrder 22 = .ok (.invokevirtual 129, 3) := by decide +kernel
theorem dX9_fillOrder_25 : decode cX9_fillOrder 25 = .ok (.iload_n 1, 1) := by decide +kernel
theorem dX9_fillOrder_26 : decode cX9_fillOrder 26 = .ok (.iastore, 1) := by decide +kernel
theorem dX9_fillOrder_27 : decode cX9_fillOrder 27 = .ok (.iinc 1 1, 3) := by decide +kernel
theorem dX9_fillOrder_30 : decode cX9_fillOrder 30 = .ok (.goto (-28), 3) := by decide +kernel
theorem dX9_fillOrder_33 : decode cX9_fillOrder 33 = .ok (.return_, 1) := by decide +kernel
theorem dX9_fillTimes_0 : decode cX9_fillTimes 0 = .ok (.iconst 0, 1) := by decide +kernel
theorem dX9_fillTimes_1 : decode cX9_fillTimes 1 = .ok (.istore_n 2, 1) := by decide +kernel
theorem dX9_fillTimes_2 : decode cX9_fillTimes 2 = .ok (.iload_n 2, 1) := by decide +kernel
theorem dX9_fillTimes_3 : decode cX9_fillTimes 3 = .ok (.aload_n 0, 1) := by decide +kernel
theorem dX9_fillTimes_4 : decode cX9_fillTimes 4 = .ok (.getfield 12, 3) := by decide +kernel
theorem dX9_fillTimes_7 : decode cX9_fillTimes 7 = .ok (.getfield 107, 3) := by decide +kernel
theorem dX9_fillTimes_10 : decode cX9_fillTimes 10 = .ok (.if_icmp .ge 30, 3) := by decide +kernel
theorem dX9_fillTimes_13 : decode cX9_fillTimes 13 = .ok (.aload_n 0, 1) := by decide +kernel
theorem dX9_fillTimes_14 : decode cX9_fillTimes 14 = .ok (.getfield 74, 3) := by decide +kernel
theorem dX9_fillTimes_17 : decode cX9_fillTimes 17 = .ok (.iload_n 2, 1) := by decide +kernel
theorem dX9_fillTimes_18 : decode cX9_fillTimes 18 = .ok (.aload_n 1, 1) := by decide +kernel
theorem dX9_fillTimes_19 : decode cX9_fillTimes 19 = .ok (.iload_n 2, 1) := by decide +kernel
theorem dX9_fillTimes_20 : decode cX9_fillTimes 20 = .ok (.invokevirtual 325, 3) := by decide +kernel
theorem dX9_fillTimes_23 : decode cX9_fillTimes 23 = .ok (.aload_n 0, 1) := by decide +kernel
theorem dX9_fillTimes_24 : decode cX9_fillTimes 24 = .ok (.getfield 12, 3) := by decide +kernel
theorem dX9_fillTimes_27 : decode cX9_fillTimes 27 = .ok (.getfield 86, 3) := by decide +kernel
theorem dX9_fillTimes_30 : decode cX9_fillTimes 30 = .ok (.invokestatic 93, 3) := by decide +kernel
theorem dX9_fillTimes_33 : decode cX9_fillTimes 33 = .ok (.iastore, 1) := by decide +kernel
theorem dX9_fillTimes_34 : decode cX9_fillTimes 34 = .ok (.iinc 2 1, 3) := by decide +kernel
theorem dX9_fillTimes_37 : decode cX9_fillTimes 37 = .ok (.goto (-35), 3) := by decide +kernel
theorem dX9_fillTimes_40 : decode cX9_fillTimes 40 = .ok (.return_, 1) := by decide +kernel
theorem dX9_drawTimes_0 : decode cX9_drawTimes 0 = .ok (.iload_n 1, 1) := by decide +kernel
theorem dX9_drawTimes_1 : decode cX9_drawTimes 1 = .ok (.istore_n 2, 1) := by decide +kernel
theorem dX9_drawTimes_2 : decode cX9_drawTimes 2 = .ok (.iconst 0, 1) := by decide +kernel
theorem dX9_drawTimes_3 : decode cX9_drawTimes 3 = .ok (.istore_n 3, 1) := by decide +kernel
theorem dX9_drawTimes_4 : decode cX9_drawTimes 4 = .ok (.iload_n 3, 1) := by decide +kernel
theorem dX9_drawTimes_5 : decode cX9_drawTimes 5 = .ok (.aload_n 0, 1) := by decide +kernel
theorem dX9_drawTimes_6 : decode cX9_drawTimes 6 = .ok (.getfield 12, 3) := by decide +kernel
theorem dX9_drawTimes_9 : decode cX9_drawTimes 9 = .ok (.getfield 107, 3) := by decide +kernel
theorem dX9_drawTimes_12 : decode cX9_drawTimes 12 = .ok (.if_icmp .ge 37, 3) := by decide +kernel
theorem dX9_drawTimes_15 : decode cX9_drawTimes 15 = .ok (.iload_n 2, 1) := by decide +kernel
theorem dX9_drawTimes_16 : decode cX9_drawTimes 16 = .ok (.ldc_w 329, 3) := by decide +kernel
theorem dX9_drawTimes_19 : decode cX9_drawTimes 19 = .ok (.imul, 1) := by decide +kernel
theorem dX9_drawTimes_20 : decode cX9_drawTimes 20 = .ok (.sipush 12345, 3) := by decide +kernel
theorem dX9_drawTimes_23 : decode cX9_drawTimes 23 = .ok (.iadd, 1) := by decide +kernel
theorem dX9_drawTimes_24 : decode cX9_drawTimes 24 = .ok (.istore_n 2, 1) := by decide +kernel
theorem dX9_drawTimes_25 : decode cX9_drawTimes 25 = .ok (.aload_n 0, 1) := by decide +kernel
theorem dX9_drawTimes_26 : decode cX9_drawTimes 26 = .ok (.getfield 74, 3) := by decide +kernel
theorem dX9_drawTimes_29 : decode cX9_drawTimes 29 = .ok (.iload_n 3, 1) := by decide +kernel
theorem dX9_drawTimes_30 : decode cX9_drawTimes 30 = .ok (.iload_n 2, 1) := by decide +kernel
theorem dX9_drawTimes_31 : decode cX9_drawTimes 31 = .ok (.bipush 8, 2) := by decide +kernel
theorem dX9_drawTimes_33 : decode cX9_drawTimes 33 = .ok (.iushr, 1) := by decide +kernel
theorem dX9_drawTimes_34 : decode cX9_drawTimes 34 = .ok (.aload_n 0, 1) := by decide +kernel
theorem dX9_drawTimes_35 : decode cX9_drawTimes 35 = .ok (.getfield 12, 3) := by decide +kernel
theorem dX9_drawTimes_38 : decode cX9_drawTimes 38 = .ok (.getfield 86, 3) := by decide +kernel
theorem dX9_drawTimes_41 : decode cX9_drawTimes 41 = .ok (.irem, 1) := by decide +kernel
theorem dX9_drawTimes_42 : decode cX9_drawTimes 42 = .ok (.iastore, 1) := by decide +kernel
theorem dX9_drawTimes_43 : decode cX9_drawTimes 43 = .ok (.iinc 3 1, 3) := by decide +kernel
theorem dX9_drawTimes_46 : decode cX9_drawTimes 46 = .ok (.goto (-42), 3) := by decide +kernel
theorem dX9_drawTimes_49 : decode cX9_drawTimes 49 = .ok (.iload_n 2, 1) := by decide +kernel
theorem dX9_drawTimes_50 : decode cX9_drawTimes 50 = .ok (.ireturn, 1) := by decide +kernel
theorem dX9_fillClasses_0 : decode cX9_fillClasses 0 = .ok (.iconst 0, 1) := by decide +kernel
theorem dX9_fillClasses_1 : decode cX9_fillClasses 1 = .ok (.istore_n 2, 1) := by decide +kernel
theorem dX9_fillClasses_2 : decode cX9_fillClasses 2 = .ok (.iload_n 2, 1) := by decide +kernel
theorem dX9_fillClasses_3 : decode cX9_fillClasses 3 = .ok (.aload_n 0, 1) := by decide +kernel
theorem dX9_fillClasses_4 : decode cX9_fillClasses 4 = .ok (.getfield 12, 3) := by decide +kernel
theorem dX9_fillClasses_7 : decode cX9_fillClasses 7 = .ok (.getfield 107, 3) := by decide +kernel
theorem dX9_fillClasses_10 : decode cX9_fillClasses 10 = .ok (.if_icmp .ge 61, 3) := by decide +kernel
theorem dX9_fillClasses_13 : decode cX9_fillClasses 13 = .ok (.aload_n 0, 1) := by decide +kernel
theorem dX9_fillClasses_14 : decode cX9_fillClasses 14 = .ok (.getfield 77, 3) := by decide +kernel
theorem dX9_fillClasses_17 : decode cX9_fillClasses 17 = .ok (.iload_n 2, 1) := by decide +kernel
theorem dX9_fillClasses_18 : decode cX9_fillClasses 18 = .ok (.iload_n 2, 1) := by decide +kernel
theorem dX9_fillClasses_19 : decode cX9_fillClasses 19 = .ok (.iastore, 1) := by decide +kernel
theorem dX9_fillClasses_20 : decode cX9_fillClasses 20 = .ok (.iload_n 2, 1) := by decide +kernel
theorem dX9_fillClasses_21 : decode cX9_fillClasses 21 = .ok (.iconst 1, 1) := by decide +kernel
theorem dX9_fillClasses_22 : decode cX9_fillClasses 22 = .ok (.isub, 1) := by decide +kernel
theorem dX9_fillClasses_23 : decode cX9_fillClasses 23 = .ok (.istore_n 3, 1) := by decide +kernel
theorem dX9_fillClasses_24 : decode cX9_fillClasses 24 = .ok (.iload_n 3, 1) := by decide +kernel
theorem dX9_fillClasses_25 : decode cX9_fillClasses 25 = .ok (.ifCond .lt 40, 3) := by decide +kernel
theorem dX9_fillClasses_28 : decode cX9_fillClasses 28 = .ok (.aload_n 1, 1) := by decide +kernel
theorem dX9_fillClasses_29 : decode cX9_fillClasses 29 = .ok (.iload_n 2, 1) := by decide +kernel
theorem dX9_fillClasses_30 : decode cX9_fillClasses 30 = .ok (.invokevirtual 302, 3) := by decide +kernel
theorem dX9_fillClasses_33 : decode cX9_fillClasses 33 = .ok (.ifCond .eq 32, 3) := by decide +kernel
theorem dX9_fillClasses_36 : decode cX9_fillClasses 36 = .ok (.aload_n 1, 1) := by decide +kernel
theorem dX9_fillClasses_37 : decode cX9_fillClasses 37 = .ok (.getfield 307, 3) := by decide +kernel
theorem dX9_fillClasses_40 : decode cX9_fillClasses 40 = .ok (.iload_n 3, 1) := by decide +kernel
theorem dX9_fillClasses_41 : decode cX9_fillClasses 41 = .ok (.laload, 1) := by decide +kernel
theorem dX9_fillClasses_42 : decode cX9_fillClasses 42 = .ok (.aload_n 1, 1) := by decide +kernel
theorem dX9_fillClasses_43 : decode cX9_fillClasses 43 = .ok (.getfield 307, 3) := by decide +kernel
theorem dX9_fillClasses_46 : decode cX9_fillClasses 46 = .ok (.iload_n 2, 1) := by decide +kernel
theorem dX9_fillClasses_47 : decode cX9_fillClasses 47 = .ok (.laload, 1) := by decide +kernel
theorem dX9_fillClasses_48 : decode cX9_fillClasses 48 = .ok (.lcmp, 1) := by decide +kernel
theorem dX9_fillClasses_49 : decode cX9_fillClasses 49 = .ok (.ifCond .ne 10, 3) := by decide +kernel
theorem dX9_fillClasses_52 : decode cX9_fillClasses 52 = .ok (.aload_n 0, 1) := by decide +kernel
theorem dX9_fillClasses_53 : decode cX9_fillClasses 53 = .ok (.getfield 77, 3) := by decide +kernel
theorem dX9_fillClasses_56 : decode cX9_fillClasses 56 = .ok (.iload_n 2, 1) := by decide +kernel
theorem dX9_fillClasses_57 : decode cX9_fillClasses 57 = .ok (.iload_n 3, 1) := by decide +kernel
theorem dX9_fillClasses_58 : decode cX9_fillClasses 58 = .ok (.iastore, 1) := by decide +kernel
theorem dX9_fillClasses_59 : decode cX9_fillClasses 59 = .ok (.iinc 3 (-1), 3) := by decide +kernel
theorem dX9_fillClasses_62 : decode cX9_fillClasses 62 = .ok (.goto (-38), 3) := by decide +kernel
theorem dX9_fillClasses_65 : decode cX9_fillClasses 65 = .ok (.iinc 2 1, 3) := by decide +kernel
theorem dX9_fillClasses_68 : decode cX9_fillClasses 68 = .ok (.goto (-66), 3) := by decide +kernel
theorem dX9_fillClasses_71 : decode cX9_fillClasses 71 = .ok (.return_, 1) := by decide +kernel
theorem dX9_isBroken_0 : decode cX9_isBroken 0 = .ok (.aload_n 0, 1) := by decide +kernel
theorem dX9_isBroken_1 : decode cX9_isBroken 1 = .ok (.getfield 12, 3) := by decide +kernel
theorem dX9_isBroken_4 : decode cX9_isBroken 4 = .ok (.getfield 258, 3) := by decide +kernel
theorem dX9_isBroken_7 : decode cX9_isBroken 7 = .ok (.iload_n 1, 1) := by decide +kernel
theorem dX9_isBroken_8 : decode cX9_isBroken 8 = .ok (.iconst (-1), 1) := by decide +kernel
theorem dX9_isBroken_9 : decode cX9_isBroken 9 = .ok (.ixor, 1) := by decide +kernel
theorem dX9_isBroken_10 : decode cX9_isBroken 10 = .ok (.sipush 255, 3) := by decide +kernel
theorem dX9_isBroken_13 : decode cX9_isBroken 13 = .ok (.iand, 1) := by decide +kernel
theorem dX9_isBroken_14 : decode cX9_isBroken 14 = .ok (.invokestatic 330, 3) := by decide +kernel
theorem dX9_isBroken_17 : decode cX9_isBroken 17 = .ok (.ifCond .ne 7, 3) := by decide +kernel
theorem dX9_isBroken_20 : decode cX9_isBroken 20 = .ok (.iconst 1, 1) := by decide +kernel
theorem dX9_isBroken_21 : decode cX9_isBroken 21 = .ok (.goto 4, 3) := by decide +kernel
theorem dX9_isBroken_24 : decode cX9_isBroken 24 = .ok (.iconst 0, 1) := by decide +kernel
theorem dX9_isBroken_25 : decode cX9_isBroken 25 = .ok (.ireturn, 1) := by decide +kernel
theorem dX9_isPrime_0 : decode cX9_isPrime 0 = .ok (.iload_n 0, 1) := by decide +kernel
theorem dX9_isPrime_1 : decode cX9_isPrime 1 = .ok (.iconst 2, 1) := by decide +kernel
theorem dX9_isPrime_2 : decode cX9_isPrime 2 = .ok (.if_icmp .lt 9, 3) := by decide +kernel
theorem dX9_isPrime_5 : decode cX9_isPrime 5 = .ok (.iload_n 0, 1) := by decide +kernel
theorem dX9_isPrime_6 : decode cX9_isPrime 6 = .ok (.bipush 97, 2) := by decide +kernel
theorem dX9_isPrime_8 : decode cX9_isPrime 8 = .ok (.if_icmp .le 5, 3) := by decide +kernel
theorem dX9_isPrime_11 : decode cX9_isPrime 11 = .ok (.iconst 0, 1) := by decide +kernel
theorem dX9_isPrime_12 : decode cX9_isPrime 12 = .ok (.ireturn, 1) := by decide +kernel
theorem dX9_isPrime_13 : decode cX9_isPrime 13 = .ok (.iconst 2, 1) := by decide +kernel
theorem dX9_isPrime_14 : decode cX9_isPrime 14 = .ok (.istore_n 1, 1) := by decide +kernel
theorem dX9_isPrime_15 : decode cX9_isPrime 15 = .ok (.iload_n 1, 1) := by decide +kernel
theorem dX9_isPrime_16 : decode cX9_isPrime 16 = .ok (.iload_n 1, 1) := by decide +kernel
theorem dX9_isPrime_17 : decode cX9_isPrime 17 = .ok (.imul, 1) := by decide +kernel
theorem dX9_isPrime_18 : decode cX9_isPrime 18 = .ok (.iload_n 0, 1) := by decide +kernel
theorem dX9_isPrime_19 : decode cX9_isPrime 19 = .ok (.if_icmp .gt 17, 3) := by decide +kernel
theorem dX9_isPrime_22 : decode cX9_isPrime 22 = .ok (.iload_n 0, 1) := by decide +kernel
theorem dX9_isPrime_23 : decode cX9_isPrime 23 = .ok (.iload_n 1, 1) := by decide +kernel
theorem dX9_isPrime_24 : decode cX9_isPrime 24 = .ok (.irem, 1) := by decide +kernel
theorem dX9_isPrime_25 : decode cX9_isPrime 25 = .ok (.ifCond .ne 5, 3) := by decide +kernel
theorem dX9_isPrime_28 : decode cX9_isPrime 28 = .ok (.iconst 0, 1) := by decide +kernel
theorem dX9_isPrime_29 : decode cX9_isPrime 29 = .ok (.ireturn, 1) := by decide +kernel
theorem dX9_isPrime_30 : decode cX9_isPrime 30 = .ok (.iinc 1 1, 3) := by decide +kernel
theorem dX9_isPrime_33 : decode cX9_isPrime 33 = .ok (.goto (-18), 3) := by decide +kernel
theorem dX9_isPrime_36 : decode cX9_isPrime 36 = .ok (.iconst 1, 1) := by decide +kernel
theorem dX9_isPrime_37 : decode cX9_isPrime 37 = .ok (.ireturn, 1) := by decide +kernel
theorem dX9_isBit_0 : decode cX9_isBit 0 = .ok (.iload_n 0, 1) := by decide +kernel
theorem dX9_isBit_1 : decode cX9_isBit 1 = .ok (.ifCond .eq 8, 3) := by decide +kernel
theorem dX9_isBit_4 : decode cX9_isBit 4 = .ok (.iload_n 0, 1) := by decide +kernel
theorem dX9_isBit_5 : decode cX9_isBit 5 = .ok (.iconst 1, 1) := by decide +kernel
theorem dX9_isBit_6 : decode cX9_isBit 6 = .ok (.if_icmp .ne 7, 3) := by decide +kernel
theorem dX9_isBit_9 : decode cX9_isBit 9 = .ok (.iconst 1, 1) := by decide +kernel
theorem dX9_isBit_10 : decode cX9_isBit 10 = .ok (.goto 4, 3) := by decide +kernel
theorem dX9_isBit_13 : decode cX9_isBit 13 = .ok (.iconst 0, 1) := by decide +kernel
theorem dX9_isBit_14 : decode cX9_isBit 14 = .ok (.ireturn, 1) := by decide +kernel
theorem dX9_isKind_0 : decode cX9_isKind 0 = .ok (.iload_n 0, 1) := by decide +kernel
theorem dX9_isKind_1 : decode cX9_isKind 1 = .ok (.ifCond .lt 15, 3) := by decide +kernel
theorem dX9_isKind_4 : decode cX9_isKind 4 = .ok (.iload_n 0, 1) := by decide +kernel
theorem dX9_isKind_5 : decode cX9_isKind 5 = .ok (.getstatic 334, 3) := by decide +kernel
theorem dX9_isKind_8 : decode cX9_isKind 8 = .ok (.arraylength, 1) := by decide +kernel
theorem dX9_isKind_9 : decode cX9_isKind 9 = .ok (.if_icmp .ge 7, 3) := by decide +kernel
theorem dX9_isKind_12 : decode cX9_isKind 12 = .ok (.iconst 1, 1) := by decide +kernel
theorem dX9_isKind_13 : decode cX9_isKind 13 = .ok (.goto 4, 3) := by decide +kernel
theorem dX9_isKind_16 : decode cX9_isKind 16 = .ok (.iconst 0, 1) := by decide +kernel
theorem dX9_isKind_17 : decode cX9_isKind 17 = .ok (.ireturn, 1) := by decide +kernel
theorem dX9_isWeight_0 : decode cX9_isWeight 0 = .ok (.iload_n 0, 1) := by decide +kernel
theorem dX9_isWeight_1 : decode cX9_isWeight 1 = .ok (.ifCond .lt 14, 3) := by decide +kernel
theorem dX9_isWeight_4 : decode cX9_isWeight 4 = .ok (.iload_n 0, 1) := by decide +kernel
theorem dX9_isWeight_5 : decode cX9_isWeight 5 = .ok (.sipush 999, 3) := by decide +kernel
theorem dX9_isWeight_8 : decode cX9_isWeight 8 = .ok (.if_icmp .gt 7, 3) := by decide +kernel
theorem dX9_isWeight_11 : decode cX9_isWeight 11 = .ok (.iconst 1, 1) := by decide +kernel
theorem dX9_isWeight_12 : decode cX9_isWeight 12 = .ok (.goto 4, 3) := by decide +kernel
theorem dX9_isWeight_15 : decode cX9_isWeight 15 = .ok (.iconst 0, 1) := by decide +kernel
theorem dX9_isWeight_16 : decode cX9_isWeight 16 = .ok (.ireturn, 1) := by decide +kernel
theorem dX9_isSheet_0 : decode cX9_isSheet 0 = .ok (.iload_n 0, 1) := by decide +kernel
theorem dX9_isSheet_1 : decode cX9_isSheet 1 = .ok (.ifCond .lt 12, 3) := by decide +kernel
theorem dX9_isSheet_4 : decode cX9_isSheet 4 = .ok (.iload_n 0, 1) := by decide +kernel
theorem dX9_isSheet_5 : decode cX9_isSheet 5 = .ok (.iconst 4, 1) := by decide +kernel
theorem dX9_isSheet_6 : decode cX9_isSheet 6 = .ok (.if_icmp .ge 7, 3) := by decide +kernel
theorem dX9_isSheet_9 : decode cX9_isSheet 9 = .ok (.iconst 1, 1) := by decide +kernel
theorem dX9_isSheet_10 : decode cX9_isSheet 10 = .ok (.goto 4, 3) := by decide +kernel
theorem dX9_isSheet_13 : decode cX9_isSheet 13 = .ok (.iconst 0, 1) := by decide +kernel
theorem dX9_isSheet_14 : decode cX9_isSheet 14 = .ok (.ireturn, 1) := by decide +kernel
theorem dX9_isHand_0 : decode cX9_isHand 0 = .ok (.iload_n 0, 1) := by decide +kernel
theorem dX9_isHand_1 : decode cX9_isHand 1 = .ok (.ifCond .lt 12, 3) := by decide +kernel
theorem dX9_isHand_4 : decode cX9_isHand 4 = .ok (.iload_n 0, 1) := by decide +kernel
theorem dX9_isHand_5 : decode cX9_isHand 5 = .ok (.iconst 4, 1) := by decide +kernel
theorem dX9_isHand_6 : decode cX9_isHand 6 = .ok (.if_icmp .ge 7, 3) := by decide +kernel
theorem dX9_isHand_9 : decode cX9_isHand 9 = .ok (.iconst 1, 1) := by decide +kernel
theorem dX9_isHand_10 : decode cX9_isHand 10 = .ok (.goto 4, 3) := by decide +kernel
theorem dX9_isHand_13 : decode cX9_isHand 13 = .ok (.iconst 0, 1) := by decide +kernel
theorem dX9_isHand_14 : decode cX9_isHand 14 = .ok (.ireturn, 1) := by decide +kernel
theorem dX9_isPoint_0 : decode cX9_isPoint 0 = .ok (.iload_n 0, 1) := by decide +kernel
theorem dX9_isPoint_1 : decode cX9_isPoint 1 = .ok (.ifCond .lt 13, 3) := by decide +kernel
theorem dX9_isPoint_4 : decode cX9_isPoint 4 = .ok (.iload_n 0, 1) := by decide +kernel
theorem dX9_isPoint_5 : decode cX9_isPoint 5 = .ok (.bipush 8, 2) := by decide +kernel
theorem dX9_isPoint_7 : decode cX9_isPoint 7 = .ok (.if_icmp .ge 7, 3) := by decide +kernel
theorem dX9_isPoint_10 : decode cX9_isPoint 10 = .ok (.iconst 1, 1) := by decide +kernel
theorem dX9_isPoint_11 : decode cX9_isPoint 11 = .ok (.goto 4, 3) := by decide +kernel
theorem dX9_isPoint_14 : decode cX9_isPoint 14 = .ok (.iconst 0, 1) := by decide +kernel
theorem dX9_isPoint_15 : decode cX9_isPoint 15 = .ok (.ireturn, 1) := by decide +kernel
theorem dX9_isInt_0 : decode cX9_isInt 0 = .ok (.lload_n 0, 1) := by decide +kernel
theorem dX9_isInt_1 : decode cX9_isInt 1 = .ok (.lload_n 0, 1) := by decide +kernel
theorem dX9_isInt_2 : decode cX9_isInt 2 = .ok (.l2i, 1) := by decide +kernel
theorem dX9_isInt_3 : decode cX9_isInt 3 = .ok (.i2l, 1) := by decide +kernel
theorem dX9_isInt_4 : decode cX9_isInt 4 = .ok (.lcmp, 1) := by decide +kernel
theorem dX9_isInt_5 : decode cX9_isInt 5 = .ok (.ifCond .ne 7, 3) := by decide +kernel
theorem dX9_isInt_8 : decode cX9_isInt 8 = .ok (.iconst 1, 1) := by decide +kernel
theorem dX9_isInt_9 : decode cX9_isInt 9 = .ok (.goto 4, 3) := by decide +kernel
theorem dX9_isInt_12 : decode cX9_isInt 12 = .ok (.iconst 0, 1) := by decide +kernel
theorem dX9_isInt_13 : decode cX9_isInt 13 = .ok (.ireturn, 1) := by decide +kernel
theorem dX9_isName_0 : decode cX9_isName 0 = .ok (.iconst 0, 1) := by decide +kernel
theorem dX9_isName_1 : decode cX9_isName 1 = .ok (.istore_n 2, 1) := by decide +kernel
theorem dX9_isName_2 : decode cX9_isName 2 = .ok (.bipush 56, 2) := by decide +kernel
theorem dX9_isName_4 : decode cX9_isName 4 = .ok (.istore_n 3, 1) := by decide +kernel
theorem dX9_isName_5 : decode cX9_isName 5 = .ok (.iload_n 3, 1) := by decide +kernel
theorem dX9_isName_6 : decode cX9_isName 6 = .ok (.ifCond .lt 49, 3) := by decide +kernel
theorem dX9_isName_9 : decode cX9_isName 9 = .ok (.lload_n 0, 1) := by decide +kernel
theorem dX9_isName_10 : decode cX9_isName 10 = .ok (.iload_n 3, 1) := by decide +kernel
theorem dX9_isName_11 : decode cX9_isName 11 = .ok (.lushr, 1) := by decide +kernel
theorem dX9_isName_12 : decode cX9_isName 12 = .ok (.ldc2_w 337, 3) := by decide +kernel
theorem dX9_isName_15 : decode cX9_isName 15 = .ok (.land, 1) := by decide +kernel
theorem dX9_isName_16 : decode cX9_isName 16 = .ok (.l2i, 1) := by decide +kernel
theorem dX9_isName_17 : decode cX9_isName 17 = .ok (.istore 4, 2) := by decide +kernel
theorem dX9_isName_19 : decode cX9_isName 19 = .ok (.iload 4, 2) := by decide +kernel
theorem dX9_isName_21 : decode cX9_isName 21 = .ok (.ifCond .ne 8, 3) := by decide +kernel
theorem dX9_isName_24 : decode cX9_isName 24 = .ok (.iconst 1, 1) := by decide +kernel
theorem dX9_isName_25 : decode cX9_isName 25 = .ok (.istore_n 2, 1) := by decide +kernel
theorem dX9_isName_26 : decode cX9_isName 26 = .ok (.goto 23, 3) := by decide +kernel
theorem dX9_isName_29 : decode cX9_isName 29 = .ok (.iload_n 2, 1) := by decide +kernel
theorem dX9_isName_30 : decode cX9_isName 30 = .ok (.ifCond .ne 17, 3) := by decide +kernel
theorem dX9_isName_33 : decode cX9_isName 33 = .ok (.iload 4, 2) := by decide +kernel
theorem dX9_isName_35 : decode cX9_isName 35 = .ok (.bipush 97, 2) := by decide +kernel
theorem dX9_isName_37 : decode cX9_isName 37 = .ok (.if_icmp .lt 10, 3) := by decide +kernel
theorem dX9_isName_40 : decode cX9_isName 40 = .ok (.iload 4, 2) := by decide +kernel
theorem dX9_isName_42 : decode cX9_isName 42 = .ok (.bipush 122, 2) := by decide +kernel
theorem dX9_isName_44 : decode cX9_isName 44 = .ok (.if_icmp .le 5, 3) := by decide +kernel
theorem dX9_isName_47 : decode cX9_isName 47 = .ok (.iconst 0, 1) := by decide +kernel
theorem dX9_isName_48 : decode cX9_isName 48 = .ok (.ireturn, 1) := by decide +kernel
theorem dX9_isName_49 : decode cX9_isName 49 = .ok (.iinc 3 (-8), 3) := by decide +kernel
theorem dX9_isName_52 : decode cX9_isName 52 = .ok (.goto (-47), 3) := by decide +kernel
theorem dX9_isName_55 : decode cX9_isName 55 = .ok (.iload_n 2, 1) := by decide +kernel
theorem dX9_isName_56 : decode cX9_isName 56 = .ok (.ifCond .eq 13, 3) := by decide +kernel
theorem dX9_isName_59 : decode cX9_isName 59 = .ok (.lload_n 0, 1) := by decide +kernel
theorem dX9_isName_60 : decode cX9_isName 60 = .ok (.lconst 0, 1) := by decide +kernel
theorem dX9_isName_61 : decode cX9_isName 61 = .ok (.lcmp, 1) := by decide +kernel
theorem dX9_isName_62 : decode cX9_isName 62 = .ok (.ifCond .eq 7, 3) := by decide +kernel
theorem dX9_isName_65 : decode cX9_isName 65 = .ok (.iconst 1, 1) := by decide +kernel
theorem dX9_isName_66 : decode cX9_isName 66 = .ok (.goto 4, 3) := by decide +kernel
theorem dX9_isName_69 : decode cX9_isName 69 = .ok (.iconst 0, 1) := by decide +kernel
theorem dX9_isName_70 : decode cX9_isName 70 = .ok (.ireturn, 1) := by decide +kernel
theorem dX9_isUnder_0 : decode cX9_isUnder 0 = .ok (.iload_n 0, 1) := by decide +kernel
theorem dX9_isUnder_1 : decode cX9_isUnder 1 = .ok (.istore_n 2, 1) := by decide +kernel
theorem dX9_isUnder_2 : decode cX9_isUnder 2 = .ok (.iconst 0, 1) := by decide +kernel
theorem dX9_isUnder_3 : decode cX9_isUnder 3 = .ok (.istore_n 3, 1) := by decide +kernel
theorem dX9_isUnder_4 : decode cX9_isUnder 4 = .ok (.iload_n 3, 1) := by decide +kernel
theorem dX9_isUnder_5 : decode cX9_isUnder 5 = .ok (.getstatic 334, 3) := by decide +kernel
theorem dX9_isUnder_8 : decode cX9_isUnder 8 = .ok (.arraylength, 1) := by decide +kernel
theorem dX9_isUnder_9 : decode cX9_isUnder 9 = .ok (.if_icmp .ge 29, 3) := by decide +kernel
theorem dX9_isUnder_12 : decode cX9_isUnder 12 = .ok (.iload_n 2, 1) := by decide +kernel
theorem dX9_isUnder_13 : decode cX9_isUnder 13 = .ok (.invokestatic 101, 3) := by decide +kernel
theorem dX9_isUnder_16 : decode cX9_isUnder 16 = .ok (.ifCond .eq 22, 3) := by decide +kernel
theorem dX9_isUnder_19 : decode cX9_isUnder 19 = .ok (.iload_n 2, 1) := by decide +kernel
theorem dX9_isUnder_20 : decode cX9_isUnder 20 = .ok (.iload_n 1, 1) := by decide +kernel
theorem dX9_isUnder_21 : decode cX9_isUnder 21 = .ok (.if_icmp .ne 5, 3) := by decide +kernel
theorem dX9_isUnder_24 : decode cX9_isUnder 24 = .ok (.iconst 1, 1) := by decide +kernel
theorem dX9_isUnder_25 : decode cX9_isUnder 25 = .ok (.ireturn, 1) := by decide +kernel
theorem dX9_isUnder_26 : decode cX9_isUnder 26 = .ok (.getstatic 334, 3) := by decide +kernel
theorem dX9_isUnder_29 : decode cX9_isUnder 29 = .ok (.iload_n 2, 1) := by decide +kernel
theorem dX9_isUnder_30 : decode cX9_isUnder 30 = .ok (.iaload, 1) := by decide +kernel
theorem dX9_isUnder_31 : decode cX9_isUnder 31 = .ok (.istore_n 2, 1) := by decide +kernel
theorem dX9_isUnder_32 : decode cX9_isUnder 32 = .ok (.iinc 3 1, 3) := by decide +kernel
theorem dX9_isUnder_35 : decode cX9_isUnder 35 = .ok (.goto (-31), 3) := by decide +kernel
theorem dX9_isUnder_38 : decode cX9_isUnder 38 = .ok (.iconst 0, 1) := by decide +kernel
theorem dX9_isUnder_39 : decode cX9_isUnder 39 = .ok (.ireturn, 1) := by decide +kernel
theorem dX9_restOf_0 : decode cX9_restOf 0 = .ok (.lload_n 0, 1) := by decide +kernel
theorem dX9_restOf_1 : decode cX9_restOf 1 = .ok (.iload_n 2, 1) := by decide +kernel
theorem dX9_restOf_2 : decode cX9_restOf 2 = .ok (.i2l, 1) := by decide +kernel
theorem dX9_restOf_3 : decode cX9_restOf 3 = .ok (.lrem, 1) := by decide +kernel
theorem dX9_restOf_4 : decode cX9_restOf 4 = .ok (.l2i, 1) := by decide +kernel
theorem dX9_restOf_5 : decode cX9_restOf 5 = .ok (.istore_n 3, 1) := by decide +kernel
theorem dX9_restOf_6 : decode cX9_restOf 6 = .ok (.iload_n 3, 1) := by decide +kernel
theorem dX9_restOf_7 : decode cX9_restOf 7 = .ok (.ifCond .ge 9, 3) := by decide +kernel
theorem dX9_restOf_10 : decode cX9_restOf 10 = .ok (.iload_n 3, 1) := by decide +kernel
theorem dX9_restOf_11 : decode cX9_restOf 11 = .ok (.iload_n 2, 1) := by decide +kernel
theorem dX9_restOf_12 : decode cX9_restOf 12 = .ok (.iadd, 1) := by decide +kernel
theorem dX9_restOf_13 : decode cX9_restOf 13 = .ok (.goto 4, 3) := by decide +kernel
end
section
theorem dX9_restOf_16 : decode cX9_restOf 16 = .ok (.iload_n 3, 1) := by decide +kernel
theorem dX9_restOf_17 : decode cX9_restOf 17 = .ok (.ireturn, 1) := by decide +kernel
theorem dX9_quotient_0 : decode cX9_quotient 0 = .ok (.iconst 0, 1) := by decide +kernel
theorem dX9_quotient_1 : decode cX9_quotient 1 = .ok (.istore_n 3, 1) := by decide +kernel
theorem dX9_quotient_2 : decode cX9_quotient 2 = .ok (.iload_n 3, 1) := by decide +kernel
theorem dX9_quotient_3 : decode cX9_quotient 3 = .ok (.iload_n 2, 1) := by decide +kernel
theorem dX9_quotient_4 : decode cX9_quotient 4 = .ok (.iconst 1, 1) := by decide +kernel
theorem dX9_quotient_5 : decode cX9_quotient 5 = .ok (.isub, 1) := by decide +kernel
theorem dX9_quotient_6 : decode cX9_quotient 6 = .ok (.if_icmp .ge 18, 3) := by decide +kernel
theorem dX9_quotient_9 : decode cX9_quotient 9 = .ok (.iload_n 3, 1) := by decide +kernel
theorem dX9_quotient_10 : decode cX9_quotient 10 = .ok (.iload_n 1, 1) := by decide +kernel
theorem dX9_quotient_11 : decode cX9_quotient 11 = .ok (.imul, 1) := by decide +kernel
theorem dX9_quotient_12 : decode cX9_quotient 12 = .ok (.iload_n 2, 1) := by decide +kernel
theorem dX9_quotient_13 : decode cX9_quotient 13 = .ok (.irem, 1) := by decide +kernel
theorem dX9_quotient_14 : decode cX9_quotient 14 = .ok (.iload_n 0, 1) := by decide +kernel
theorem dX9_quotient_15 : decode cX9_quotient 15 = .ok (.if_icmp .eq 9, 3) := by decide +kernel
theorem dX9_quotient_18 : decode cX9_quotient 18 = .ok (.iinc 3 1, 3) := by decide +kernel
theorem dX9_quotient_21 : decode cX9_quotient 21 = .ok (.goto (-19), 3) := by decide +kernel
theorem dX9_quotient_24 : decode cX9_quotient 24 = .ok (.iload_n 3, 1) := by decide +kernel
theorem dX9_quotient_25 : decode cX9_quotient 25 = .ok (.ireturn, 1) := by decide +kernel
theorem dX9_hasRing_0 : decode cX9_hasRing 0 = .ok (.iload_n 1, 1) := by decide +kernel
theorem dX9_hasRing_1 : decode cX9_hasRing 1 = .ok (.istore_n 2, 1) := by decide +kernel
theorem dX9_hasRing_2 : decode cX9_hasRing 2 = .ok (.iconst 0, 1) := by decide +kernel
theorem dX9_hasRing_3 : decode cX9_hasRing 3 = .ok (.istore_n 3, 1) := by decide +kernel
theorem dX9_hasRing_4 : decode cX9_hasRing 4 = .ok (.iload_n 3, 1) := by decide +kernel
theorem dX9_hasRing_5 : decode cX9_hasRing 5 = .ok (.bipush 8, 2) := by decide +kernel
theorem dX9_hasRing_7 : decode cX9_hasRing 7 = .ok (.if_icmp .ge 47, 3) := by decide +kernel
theorem dX9_hasRing_10 : decode cX9_hasRing 10 = .ok (.iconst 0, 1) := by decide +kernel
theorem dX9_hasRing_11 : decode cX9_hasRing 11 = .ok (.istore 4, 2) := by decide +kernel
theorem dX9_hasRing_13 : decode cX9_hasRing 13 = .ok (.iload 4, 2) := by decide +kernel
theorem dX9_hasRing_15 : decode cX9_hasRing 15 = .ok (.bipush 8, 2) := by decide +kernel
theorem dX9_hasRing_17 : decode cX9_hasRing 17 = .ok (.if_icmp .ge 31, 3) := by decide +kernel
theorem dX9_hasRing_20 : decode cX9_hasRing 20 = .ok (.aload_n 0, 1) := by decide +kernel
theorem dX9_hasRing_21 : decode cX9_hasRing 21 = .ok (.iload 4, 2) := by decide +kernel
theorem dX9_hasRing_23 : decode cX9_hasRing 23 = .ok (.iaload, 1) := by decide +kernel
theorem dX9_hasRing_24 : decode cX9_hasRing 24 = .ok (.iload_n 2, 1) := by decide +kernel
theorem dX9_hasRing_25 : decode cX9_hasRing 25 = .ok (.iand, 1) := by decide +kernel
theorem dX9_hasRing_26 : decode cX9_hasRing 26 = .ok (.invokestatic 180, 3) := by decide +kernel
theorem dX9_hasRing_29 : decode cX9_hasRing 29 = .ok (.iconst 1, 1) := by decide +kernel
theorem dX9_hasRing_30 : decode cX9_hasRing 30 = .ok (.if_icmp .gt 12, 3) := by decide +kernel
theorem dX9_hasRing_33 : decode cX9_hasRing 33 = .ok (.iload_n 2, 1) := by decide +kernel
theorem dX9_hasRing_34 : decode cX9_hasRing 34 = .ok (.iconst 1, 1) := by decide +kernel
theorem dX9_hasRing_35 : decode cX9_hasRing 35 = .ok (.iload 4, 2) := by decide +kernel
theorem dX9_hasRing_37 : decode cX9_hasRing 37 = .ok (.ishl, 1) := by decide +kernel
theorem dX9_hasRing_38 : decode cX9_hasRing 38 = .ok (.iconst (-1), 1) := by decide +kernel
theorem dX9_hasRing_39 : decode cX9_hasRing 39 = .ok (.ixor, 1) := by decide +kernel
theorem dX9_hasRing_40 : decode cX9_hasRing 40 = .ok (.iand, 1) := by decide +kernel
theorem dX9_hasRing_41 : decode cX9_hasRing 41 = .ok (.istore_n 2, 1) := by decide +kernel
theorem dX9_hasRing_42 : decode cX9_hasRing 42 = .ok (.iinc 4 1, 3) := by decide +kernel
theorem dX9_hasRing_45 : decode cX9_hasRing 45 = .ok (.goto (-32), 3) := by decide +kernel
theorem dX9_hasRing_48 : decode cX9_hasRing 48 = .ok (.iinc 3 1, 3) := by decide +kernel
theorem dX9_hasRing_51 : decode cX9_hasRing 51 = .ok (.goto (-47), 3) := by decide +kernel
theorem dX9_hasRing_54 : decode cX9_hasRing 54 = .ok (.iload_n 2, 1) := by decide +kernel
theorem dX9_hasRing_55 : decode cX9_hasRing 55 = .ok (.ifCond .eq 7, 3) := by decide +kernel
theorem dX9_hasRing_58 : decode cX9_hasRing 58 = .ok (.iconst 1, 1) := by decide +kernel
theorem dX9_hasRing_59 : decode cX9_hasRing 59 = .ok (.goto 4, 3) := by decide +kernel
theorem dX9_hasRing_62 : decode cX9_hasRing 62 = .ok (.iconst 0, 1) := by decide +kernel
theorem dX9_hasRing_63 : decode cX9_hasRing 63 = .ok (.ireturn, 1) := by decide +kernel
theorem dX10_init_0 : decode cX10_init 0 = .ok (.aload_n 0, 1) := by decide +kernel
theorem dX10_init_1 : decode cX10_init 1 = .ok (.invokespecial 1, 3) := by decide +kernel
theorem dX10_init_4 : decode cX10_init 4 = .ok (.aload_n 0, 1) := by decide +kernel
theorem dX10_init_5 : decode cX10_init 5 = .ok (.bipush 7, 2) := by decide +kernel
theorem dX10_init_7 : decode cX10_init 7 = .ok (.putfield 7, 3) := by decide +kernel
theorem dX10_init_10 : decode cX10_init 10 = .ok (.aload_n 0, 1) := by decide +kernel
theorem dX10_init_11 : decode cX10_init 11 = .ok (.iconst 4, 1) := by decide +kernel
theorem dX10_init_12 : decode cX10_init 12 = .ok (.putfield 13, 3) := by decide +kernel
theorem dX10_init_15 : decode cX10_init 15 = .ok (.aload_n 0, 1) := by decide +kernel
theorem dX10_init_16 : decode cX10_init 16 = .ok (.bipush 10, 2) := by decide +kernel
theorem dX10_init_18 : decode cX10_init 18 = .ok (.newarray .int, 2) := by decide +kernel
theorem dX10_init_20 : decode cX10_init 20 = .ok (.putfield 16, 3) := by decide +kernel
theorem dX10_init_23 : decode cX10_init 23 = .ok (.aload_n 0, 1) := by decide +kernel
theorem dX10_init_24 : decode cX10_init 24 = .ok (.bipush 10, 2) := by decide +kernel
theorem dX10_init_26 : decode cX10_init 26 = .ok (.newarray .int, 2) := by decide +kernel
theorem dX10_init_28 : decode cX10_init 28 = .ok (.putfield 20, 3) := by decide +kernel
theorem dX10_init_31 : decode cX10_init 31 = .ok (.aload_n 0, 1) := by decide +kernel
theorem dX10_init_32 : decode cX10_init 32 = .ok (.bipush 10, 2) := by decide +kernel
theorem dX10_init_34 : decode cX10_init 34 = .ok (.newarray .long, 2) := by decide +kernel
theorem dX10_init_36 : decode cX10_init 36 = .ok (.putfield 23, 3) := by decide +kernel
theorem dX10_init_39 : decode cX10_init 39 = .ok (.aload_n 0, 1) := by decide +kernel
theorem dX10_init_40 : decode cX10_init 40 = .ok (.bipush 120, 2) := by decide +kernel
theorem dX10_init_42 : decode cX10_init 42 = .ok (.newarray .int, 2) := by decide +kernel
theorem dX10_init_44 : decode cX10_init 44 = .ok (.putfield 27, 3) := by decide +kernel
theorem dX10_init_47 : decode cX10_init 47 = .ok (.aload_n 0, 1) := by decide +kernel
theorem dX10_init_48 : decode cX10_init 48 = .ok (.bipush 8, 2) := by decide +kernel
theorem dX10_init_50 : decode cX10_init 50 = .ok (.newarray .int, 2) := by decide +kernel
theorem dX10_init_52 : decode cX10_init 52 = .ok (.putfield 30, 3) := by decide +kernel
theorem dX10_init_55 : decode cX10_init 55 = .ok (.aload_n 0, 1) := by decide +kernel
theorem dX10_init_56 : decode cX10_init 56 = .ok (.sipush 156, 3) := by decide +kernel
theorem dX10_init_59 : decode cX10_init 59 = .ok (.newarray .int, 2) := by decide +kernel
theorem dX10_init_61 : decode cX10_init 61 = .ok (.putfield 33, 3) := by decide +kernel
theorem dX10_init_64 : decode cX10_init 64 = .ok (.aload_n 0, 1) := by decide +kernel
theorem dX10_init_65 : decode cX10_init 65 = .ok (.bipush 10, 2) := by decide +kernel
theorem dX10_init_67 : decode cX10_init 67 = .ok (.newarray .long, 2) := by decide +kernel
theorem dX10_init_69 : decode cX10_init 69 = .ok (.putfield 36, 3) := by decide +kernel
theorem dX10_init_72 : decode cX10_init 72 = .ok (.aload_n 0, 1) := by decide +kernel
theorem dX10_init_73 : decode cX10_init 73 = .ok (.bipush 36, 2) := by decide +kernel
theorem dX10_init_75 : decode cX10_init 75 = .ok (.newarray .long, 2) := by decide +kernel
theorem dX10_init_77 : decode cX10_init 77 = .ok (.putfield 39, 3) := by decide +kernel
theorem dX10_init_80 : decode cX10_init 80 = .ok (.aload_n 0, 1) := by decide +kernel
theorem dX10_init_81 : decode cX10_init 81 = .ok (.bipush 20, 2) := by decide +kernel
theorem dX10_init_83 : decode cX10_init 83 = .ok (.newarray .long, 2) := by decide +kernel
theorem dX10_init_85 : decode cX10_init 85 = .ok (.putfield 42, 3) := by decide +kernel
theorem dX10_init_88 : decode cX10_init 88 = .ok (.aload_n 0, 1) := by decide +kernel
theorem dX10_init_89 : decode cX10_init 89 = .ok (.iconst 4, 1) := by decide +kernel
theorem dX10_init_90 : decode cX10_init 90 = .ok (.newarray .int, 2) := by decide +kernel
theorem dX10_init_92 : decode cX10_init 92 = .ok (.putfield 45, 3) := by decide +kernel
theorem dX10_init_95 : decode cX10_init 95 = .ok (.aload_n 0, 1) := by decide +kernel
theorem dX10_init_96 : decode cX10_init 96 = .ok (.iconst 4, 1) := by decide +kernel
theorem dX10_init_97 : decode cX10_init 97 = .ok (.newarray .int, 2) := by decide +kernel
theorem dX10_init_99 : decode cX10_init 99 = .ok (.putfield 48, 3) := by decide +kernel
theorem dX10_init_102 : decode cX10_init 102 = .ok (.aload_n 0, 1) := by decide +kernel
theorem dX10_init_103 : decode cX10_init 103 = .ok (.iconst 4, 1) := by decide +kernel
theorem dX10_init_104 : decode cX10_init 104 = .ok (.newarray .int, 2) := by decide +kernel
theorem dX10_init_106 : decode cX10_init 106 = .ok (.putfield 51, 3) := by decide +kernel
theorem dX10_init_109 : decode cX10_init 109 = .ok (.aload_n 0, 1) := by decide +kernel
theorem dX10_init_110 : decode cX10_init 110 = .ok (.iconst 4, 1) := by decide +kernel
theorem dX10_init_111 : decode cX10_init 111 = .ok (.newarray .int, 2) := by decide +kernel
theorem dX10_init_113 : decode cX10_init 113 = .ok (.putfield 54, 3) := by decide +kernel
theorem dX10_init_116 : decode cX10_init 116 = .ok (.aload_n 0, 1) := by decide +kernel
theorem dX10_init_117 : decode cX10_init 117 = .ok (.bipush 24, 2) := by decide +kernel
theorem dX10_init_119 : decode cX10_init 119 = .ok (.newarray .int, 2) := by decide +kernel
theorem dX10_init_121 : decode cX10_init 121 = .ok (.putfield 57, 3) := by decide +kernel
theorem dX10_init_124 : decode cX10_init 124 = .ok (.aload_n 0, 1) := by decide +kernel
theorem dX10_init_125 : decode cX10_init 125 = .ok (.iconst 4, 1) := by decide +kernel
theorem dX10_init_126 : decode cX10_init 126 = .ok (.newarray .int, 2) := by decide +kernel
theorem dX10_init_128 : decode cX10_init 128 = .ok (.dup, 1) := by decide +kernel
theorem dX10_init_129 : decode cX10_init 129 = .ok (.iconst 0, 1) := by decide +kernel
theorem dX10_init_130 : decode cX10_init 130 = .ok (.iconst (-1), 1) := by decide +kernel
theorem dX10_init_131 : decode cX10_init 131 = .ok (.iastore, 1) := by decide +kernel
theorem dX10_init_132 : decode cX10_init 132 = .ok (.dup, 1) := by decide +kernel
theorem dX10_init_133 : decode cX10_init 133 = .ok (.iconst 1, 1) := by decide +kernel
theorem dX10_init_134 : decode cX10_init 134 = .ok (.iconst (-1), 1) := by decide +kernel
theorem dX10_init_135 : decode cX10_init 135 = .ok (.iastore, 1) := by decide +kernel
theorem dX10_init_136 : decode cX10_init 136 = .ok (.dup, 1) := by decide +kernel
theorem dX10_init_137 : decode cX10_init 137 = .ok (.iconst 2, 1) := by decide +kernel
theorem dX10_init_138 : decode cX10_init 138 = .ok (.iconst (-1), 1) := by decide +kernel
theorem dX10_init_139 : decode cX10_init 139 = .ok (.iastore, 1) := by decide +kernel
theorem dX10_init_140 : decode cX10_init 140 = .ok (.dup, 1) := by decide +kernel
theorem dX10_init_141 : decode cX10_init 141 = .ok (.iconst 3, 1) := by decide +kernel
theorem dX10_init_142 : decode cX10_init 142 = .ok (.iconst (-1), 1) := by decide +kernel
theorem dX10_init_143 : decode cX10_init 143 = .ok (.iastore, 1) := by decide +kernel
theorem dX10_init_144 : decode cX10_init 144 = .ok (.putfield 60, 3) := by decide +kernel
theorem dX10_init_147 : decode cX10_init 147 = .ok (.aload_n 0, 1) := by decide +kernel
theorem dX10_init_148 : decode cX10_init 148 = .ok (.iconst 4, 1) := by decide +kernel
theorem dX10_init_149 : decode cX10_init 149 = .ok (.newarray .int, 2) := by decide +kernel
theorem dX10_init_151 : decode cX10_init 151 = .ok (.putfield 63, 3) := by decide +kernel
theorem dX10_init_154 : decode cX10_init 154 = .ok (.aload_n 0, 1) := by decide +kernel
theorem dX10_init_155 : decode cX10_init 155 = .ok (.bipush 120, 2) := by decide +kernel
theorem dX10_init_157 : decode cX10_init 157 = .ok (.newarray .long, 2) := by decide +kernel
theorem dX10_init_159 : decode cX10_init 159 = .ok (.putfield 66, 3) := by decide +kernel
theorem dX10_init_162 : decode cX10_init 162 = .ok (.aload_n 0, 1) := by decide +kernel
theorem dX10_init_163 : decode cX10_init 163 = .ok (.sipush 151, 3) := by decide +kernel
theorem dX10_init_166 : decode cX10_init 166 = .ok (.newarray .int, 2) := by decide +kernel
theorem dX10_init_168 : decode cX10_init 168 = .ok (.putfield 69, 3) := by decide +kernel
theorem dX10_init_171 : decode cX10_init 171 = .ok (.aload_n 0, 1) := by decide +kernel
theorem dX10_init_172 : decode cX10_init 172 = .ok (.bipush 10, 2) := by decide +kernel
theorem dX10_init_174 : decode cX10_init 174 = .ok (.newarray .long, 2) := by decide +kernel
theorem dX10_init_176 : decode cX10_init 176 = .ok (.putfield 72, 3) := by decide +kernel
theorem dX10_init_179 : decode cX10_init 179 = .ok (.return_, 1) := by decide +kernel
theorem dX10_in_0 : decode cX10_in 0 = .ok (.lload_n 0, 1) := by decide +kernel
theorem dX10_in_1 : decode cX10_in 1 = .ok (.lload_n 2, 1) := by decide +kernel
theorem dX10_in_2 : decode cX10_in 2 = .ok (.lcmp, 1) := by decide +kernel
theorem dX10_in_3 : decode cX10_in 3 = .ok (.ifCond .lt 14, 3) := by decide +kernel
theorem dX10_in_6 : decode cX10_in 6 = .ok (.lload_n 0, 1) := by decide +kernel
theorem dX10_in_7 : decode cX10_in 7 = .ok (.lload 4, 2) := by decide +kernel
theorem dX10_in_9 : decode cX10_in 9 = .ok (.lcmp, 1) := by decide +kernel
theorem dX10_in_10 : decode cX10_in 10 = .ok (.ifCond .gt 7, 3) := by decide +kernel
theorem dX10_in_13 : decode cX10_in 13 = .ok (.iconst 1, 1) := by decide +kernel
theorem dX10_in_14 : decode cX10_in 14 = .ok (.goto 4, 3) := by decide +kernel
theorem dX10_in_17 : decode cX10_in 17 = .ok (.iconst 0, 1) := by decide +kernel
theorem dX10_in_18 : decode cX10_in 18 = .ok (.ireturn, 1) := by decide +kernel
theorem dX10_has_0 : decode cX10_has 0 = .ok (.iload_n 0, 1) := by decide +kernel
theorem dX10_has_1 : decode cX10_has 1 = .ok (.iload_n 1, 1) := by decide +kernel
theorem dX10_has_2 : decode cX10_has 2 = .ok (.ishr, 1) := by decide +kernel
theorem dX10_has_3 : decode cX10_has 3 = .ok (.iconst 1, 1) := by decide +kernel
theorem dX10_has_4 : decode cX10_has 4 = .ok (.iand, 1) := by decide +kernel
theorem dX10_has_5 : decode cX10_has 5 = .ok (.iconst 1, 1) := by decide +kernel
theorem dX10_has_6 : decode cX10_has 6 = .ok (.if_icmp .ne 7, 3) := by decide +kernel
theorem dX10_has_9 : decode cX10_has 9 = .ok (.iconst 1, 1) := by decide +kernel
theorem dX10_has_10 : decode cX10_has 10 = .ok (.goto 4, 3) := by decide +kernel
theorem dX10_has_13 : decode cX10_has 13 = .ok (.iconst 0, 1) := by decide +kernel
theorem dX10_has_14 : decode cX10_has 14 = .ok (.ireturn, 1) := by decide +kernel
theorem dX10_many_0 : decode cX10_many 0 = .ok (.iconst 0, 1) := by decide +kernel
theorem dX10_many_1 : decode cX10_many 1 = .ok (.istore_n 1, 1) := by decide +kernel
theorem dX10_many_2 : decode cX10_many 2 = .ok (.iload_n 0, 1) := by decide +kernel
theorem dX10_many_3 : decode cX10_many 3 = .ok (.istore_n 2, 1) := by decide +kernel
theorem dX10_many_4 : decode cX10_many 4 = .ok (.iload_n 2, 1) := by decide +kernel
theorem dX10_many_5 : decode cX10_many 5 = .ok (.ifCond .eq 15, 3) := by decide +kernel
theorem dX10_many_8 : decode cX10_many 8 = .ok (.iinc 1 1, 3) := by decide +kernel
theorem dX10_many_11 : decode cX10_many 11 = .ok (.iload_n 2, 1) := by decide +kernel
theorem dX10_many_12 : decode cX10_many 12 = .ok (.iload_n 2, 1) := by decide +kernel
theorem dX10_many_13 : decode cX10_many 13 = .ok (.iconst 1, 1) := by decide +kernel
theorem dX10_many_14 : decode cX10_many 14 = .ok (.isub, 1) := by decide +kernel
theorem dX10_many_15 : decode cX10_many 15 = .ok (.iand, 1) := by decide +kernel
theorem dX10_many_16 : decode cX10_many 16 = .ok (.istore_n 2, 1) := by decide +kernel
theorem dX10_many_17 : decode cX10_many 17 = .ok (.goto (-13), 3) := by decide +kernel
theorem dX10_many_20 : decode cX10_many 20 = .ok (.iload_n 1, 1) := by decide +kernel
theorem dX10_many_21 : decode cX10_many 21 = .ok (.ireturn, 1) := by decide +kernel
theorem dX10_isPair_0 : decode cX10_isPair 0 = .ok (.iload_n 1, 1) := by decide +kernel
theorem dX10_isPair_1 : decode cX10_isPair 1 = .ok (.i2l, 1) := by decide +kernel
theorem dX10_isPair_2 : decode cX10_isPair 2 = .ok (.lconst 0, 1) := by decide +kernel
theorem dX10_isPair_3 : decode cX10_isPair 3 = .ok (.aload_n 0, 1) := by decide +kernel
theorem dX10_isPair_4 : decode cX10_isPair 4 = .ok (.getfield 75, 3) := by decide +kernel
theorem dX10_isPair_7 : decode cX10_isPair 7 = .ok (.iconst 1, 1) := by decide +kernel
theorem dX10_isPair_8 : decode cX10_isPair 8 = .ok (.isub, 1) := by decide +kernel
theorem dX10_isPair_9 : decode cX10_isPair 9 = .ok (.i2l, 1) := by decide +kernel
theorem dX10_isPair_10 : decode cX10_isPair 10 = .ok (.invokestatic 78, 3) := by decide +kernel
theorem dX10_isPair_13 : decode cX10_isPair 13 = .ok (.ireturn, 1) := by decide +kernel
theorem dX10_isSet_0 : decode cX10_isSet 0 = .ok (.iload_n 1, 1) := by decide +kernel
theorem dX10_isSet_1 : decode cX10_isSet 1 = .ok (.i2l, 1) := by decide +kernel
theorem dX10_isSet_2 : decode cX10_isSet 2 = .ok (.lconst 0, 1) := by decide +kernel
theorem dX10_isSet_3 : decode cX10_isSet 3 = .ok (.iconst 1, 1) := by decide +kernel
theorem dX10_isSet_4 : decode cX10_isSet 4 = .ok (.aload_n 0, 1) := by decide +kernel
theorem dX10_isSet_5 : decode cX10_isSet 5 = .ok (.getfield 75, 3) := by decide +kernel
theorem dX10_isSet_8 : decode cX10_isSet 8 = .ok (.ishl, 1) := by decide +kernel
theorem dX10_isSet_9 : decode cX10_isSet 9 = .ok (.iconst 1, 1) := by decide +kernel
theorem dX10_isSet_10 : decode cX10_isSet 10 = .ok (.isub, 1) := by decide +kernel
theorem dX10_isSet_11 : decode cX10_isSet 11 = .ok (.i2l, 1) := by decide +kernel
theorem dX10_isSet_12 : decode cX10_isSet 12 = .ok (.invokestatic 78, 3) := by decide +kernel
theorem dX10_isSet_15 : decode cX10_isSet 15 = .ok (.ireturn, 1) := by decide +kernel
theorem dX10_rest_0 : decode cX10_rest 0 = .ok (.lload_n 1, 1) := by decide +kernel
theorem dX10_rest_1 : decode cX10_rest 1 = .ok (.aload_n 0, 1) := by decide +kernel
theorem dX10_rest_2 : decode cX10_rest 2 = .ok (.getfield 7, 3) := by decide +kernel
theorem dX10_rest_5 : decode cX10_rest 5 = .ok (.i2l, 1) := by decide +kernel
theorem dX10_rest_6 : decode cX10_rest 6 = .ok (.lrem, 1) := by decide +kernel
theorem dX10_rest_7 : decode cX10_rest 7 = .ok (.l2i, 1) := by decide +kernel
theorem dX10_rest_8 : decode cX10_rest 8 = .ok (.istore_n 3, 1) := by decide +kernel
theorem dX10_rest_9 : decode cX10_rest 9 = .ok (.iload_n 3, 1) := by decide +kernel
theorem dX10_rest_10 : decode cX10_rest 10 = .ok (.ifCond .ge 12, 3) := by decide +kernel
theorem dX10_rest_13 : decode cX10_rest 13 = .ok (.iload_n 3, 1) := by decide +kernel
theorem dX10_rest_14 : decode cX10_rest 14 = .ok (.aload_n 0, 1) := by decide +kernel
theorem dX10_rest_15 : decode cX10_rest 15 = .ok (.getfield 7, 3) := by decide +kernel
theorem dX10_rest_18 : decode cX10_rest 18 = .ok (.iadd, 1) := by decide +kernel
theorem dX10_rest_19 : decode cX10_rest 19 = .ok (.goto 4, 3) := by decide +kernel
theorem dX10_rest_22 : decode cX10_rest 22 = .ok (.iload_n 3, 1) := by decide +kernel
theorem dX10_rest_23 : decode cX10_rest 23 = .ok (.ireturn, 1) := by decide +kernel
theorem dX10_over_0 : decode cX10_over 0 = .ok (.iconst 0, 1) := by decide +kernel
theorem dX10_over_1 : decode cX10_over 1 = .ok (.istore_n 3, 1) := by decide +kernel
theorem dX10_over_2 : decode cX10_over 2 = .ok (.aload_n 0, 1) := by decide +kernel
theorem dX10_over_3 : decode cX10_over 3 = .ok (.iload_n 3, 1) := by decide +kernel
theorem dX10_over_4 : decode cX10_over 4 = .ok (.i2l, 1) := by decide +kernel
theorem dX10_over_5 : decode cX10_over 5 = .ok (.iload_n 2, 1) := by decide +kernel
theorem dX10_over_6 : decode cX10_over 6 = .ok (.i2l, 1) := by decide +kernel
theorem dX10_over_7 : decode cX10_over 7 = .ok (.lmul, 1) := by decide +kernel
theorem dX10_over_8 : decode cX10_over 8 = .ok (.invokevirtual 82, 3) := by decide +kernel
theorem dX10_over_11 : decode cX10_over 11 = .ok (.aload_n 0, 1) := by decide +kernel
theorem dX10_over_12 : decode cX10_over 12 = .ok (.iload_n 1, 1) := by decide +kernel
theorem dX10_over_13 : decode cX10_over 13 = .ok (.i2l, 1) := by decide +kernel
theorem dX10_over_14 : decode cX10_over 14 = .ok (.invokevirtual 82, 3) := by decide +kernel
theorem dX10_over_17 : decode cX10_over 17 = .ok (.if_icmp .eq 9, 3) := by decide +kernel
theorem dX10_over_20 : decode cX10_over 20 = .ok (.iinc 3 1, 3) := by decide +kernel
theorem dX10_over_23 : decode cX10_over 23 = .ok (.goto (-21), 3) := by decide +kernel
theorem dX10_over_26 : decode cX10_over 26 = .ok (.iload_n 3, 1) := by decide +kernel
theorem dX10_over_27 : decode cX10_over 27 = .ok (.ireturn, 1) := by decide +kernel
theorem dX10_isPrime_0 : decode cX10_isPrime 0 = .ok (.iconst 2, 1) := by decide +kernel
theorem dX10_isPrime_1 : decode cX10_isPrime 1 = .ok (.istore_n 1, 1) := by decide +kernel
theorem dX10_isPrime_2 : decode cX10_isPrime 2 = .ok (.iload_n 1, 1) := by decide +kernel
theorem dX10_isPrime_3 : decode cX10_isPrime 3 = .ok (.iload_n 0, 1) := by decide +kernel
theorem dX10_isPrime_4 : decode cX10_isPrime 4 = .ok (.if_icmp .ge 17, 3) := by decide +kernel
theorem dX10_isPrime_7 : decode cX10_isPrime 7 = .ok (.iload_n 0, 1) := by decide +kernel
theorem dX10_isPrime_8 : decode cX10_isPrime 8 = .ok (.iload_n 1, 1) := by decide +kernel
theorem dX10_isPrime_9 : decode cX10_isPrime 9 = .ok (.irem, 1) := by decide +kernel
theorem dX10_isPrime_10 : decode cX10_isPrime 10 = .ok (.ifCond .ne 5, 3) := by decide +kernel
theorem dX10_isPrime_13 : decode cX10_isPrime 13 = .ok (.iconst 0, 1) := by decide +kernel
theorem dX10_isPrime_14 : decode cX10_isPrime 14 = .ok (.ireturn, 1) := by decide +kernel
theorem dX10_isPrime_15 : decode cX10_isPrime 15 = .ok (.iinc 1 1, 3) := by decide +kernel
theorem dX10_isPrime_18 : decode cX10_isPrime 18 = .ok (.goto (-16), 3) := by decide +kernel
theorem dX10_isPrime_21 : decode cX10_isPrime 21 = .ok (.iload_n 0, 1) := by decide +kernel
theorem dX10_isPrime_22 : decode cX10_isPrime 22 = .ok (.i2l, 1) := by decide +kernel
theorem dX10_isPrime_23 : decode cX10_isPrime 23 = .ok (.ldc2_w 86, 3) := by decide +kernel
theorem dX10_isPrime_26 : decode cX10_isPrime 26 = .ok (.ldc2_w 88, 3) := by decide +kernel
theorem dX10_isPrime_29 : decode cX10_isPrime 29 = .ok (.invokestatic 78, 3) := by decide +kernel
theorem dX10_isPrime_32 : decode cX10_isPrime 32 = .ok (.ireturn, 1) := by decide +kernel
theorem dX10_field_0 : decode cX10_field 0 = .ok (.iload_n 1, 1) := by decide +kernel
theorem dX10_field_1 : decode cX10_field 1 = .ok (.i2l, 1) := by decide +kernel
theorem dX10_field_2 : decode cX10_field 2 = .ok (.ldc2_w 86, 3) := by decide +kernel
theorem dX10_field_5 : decode cX10_field 5 = .ok (.ldc2_w 88, 3) := by decide +kernel
theorem dX10_field_8 : decode cX10_field 8 = .ok (.invokestatic 78, 3) := by decide +kernel
theorem dX10_field_11 : decode cX10_field 11 = .ok (.ifCond .eq 22, 3) := by decide +kernel
theorem dX10_field_14 : decode cX10_field 14 = .ok (.iload_n 1, 1) := by decide +kernel
theorem dX10_field_15 : decode cX10_field 15 = .ok (.invokestatic 90, 3) := by decide +kernel
theorem dX10_field_18 : decode cX10_field 18 = .ok (.ifCond .eq 15, 3) := by decide +kernel
theorem dX10_field_21 : decode cX10_field 21 = .ok (.iload_n 2, 1) := by decide +kernel
theorem dX10_field_22 : decode cX10_field 22 = .ok (.i2l, 1) := by decide +kernel
theorem dX10_field_23 : decode cX10_field 23 = .ok (.lconst 1, 1) := by decide +kernel
theorem dX10_field_24 : decode cX10_field 24 = .ok (.ldc2_w 94, 3) := by decide +kernel
theorem dX10_field_27 : decode cX10_field 27 = .ok (.invokestatic 78, 3) := by decide +kernel
theorem dX10_field_30 : decode cX10_field 30 = .ok (.ifCond .ne 6, 3) := by decide +kernel
theorem dX10_field_33 : decode cX10_field 33 = .ok (.bipush (-2), 2) := by decide +kernel
theorem dX10_field_35 : decode cX10_field 35 = .ok (.ireturn, 1) := by decide +kernel
theorem dX10_field_36 : decode cX10_field 36 = .ok (.aload_n 0, 1) := by decide +kernel
theorem dX10_field_37 : decode cX10_field 37 = .ok (.getfield 7, 3) := by decide +kernel
theorem dX10_field_40 : decode cX10_field 40 = .ok (.istore_n 3, 1) := by decide +kernel
theorem dX10_field_41 : decode cX10_field 41 = .ok (.aload_n 0, 1) := by decide +kernel
theorem dX10_field_42 : decode cX10_field 42 = .ok (.iload_n 1, 1) := by decide +kernel
theorem dX10_field_43 : decode cX10_field 43 = .ok (.putfield 7, 3) := by decide +kernel
theorem dX10_field_46 : decode cX10_field 46 = .ok (.aload_n 0, 1) := by decide +kernel
theorem dX10_field_47 : decode cX10_field 47 = .ok (.iload_n 2, 1) := by decide +kernel
theorem dX10_field_48 : decode cX10_field 48 = .ok (.putfield 13, 3) := by decide +kernel
theorem dX10_field_51 : decode cX10_field 51 = .ok (.iload_n 3, 1) := by decide +kernel
theorem dX10_field_52 : decode cX10_field 52 = .ok (.ireturn, 1) := by decide +kernel
theorem dX10_divided_0 : decode cX10_divided 0 = .ok (.aload_n 0, 1) := by decide +kernel
theorem dX10_divided_1 : decode cX10_divided 1 = .ok (.iload_n 2, 1) := by decide +kernel
theorem dX10_divided_2 : decode cX10_divided 2 = .ok (.i2l, 1) := by decide +kernel
theorem dX10_divided_3 : decode cX10_divided 3 = .ok (.invokevirtual 82, 3) := by decide +kernel
theorem dX10_divided_6 : decode cX10_divided 6 = .ok (.ifCond .ne 8, 3) := by decide +kernel
theorem dX10_divided_9 : decode cX10_divided 9 = .ok (.bipush (-2), 2) := by decide +kernel
theorem dX10_divided_11 : decode cX10_divided 11 = .ok (.goto 19, 3) := by decide +kernel
theorem dX10_divided_14 : decode cX10_divided 14 = .ok (.aload_n 0, 1) := by decide +kernel
theorem dX10_divided_15 : decode cX10_divided 15 = .ok (.aload_n 0, 1) := by decide +kernel
theorem dX10_divided_16 : decode cX10_divided 16 = .ok (.iload_n 1, 1) := by decide +kernel
theorem dX10_divided_17 : decode cX10_divided 17 = .ok (.i2l, 1) := by decide +kernel
theorem dX10_divided_18 : decode cX10_divided 18 = .ok (.invokevirtual 82, 3) := by decide +kernel
theorem dX10_divided_21 : decode cX10_divided 21 = .ok (.aload_n 0, 1) := by decide +kernel
theorem dX10_divided_22 : decode cX10_divided 22 = .ok (.iload_n 2, 1) := by decide +kernel
theorem dX10_divided_23 : decode cX10_divided 23 = .ok (.i2l, 1) := by decide +kernel
theorem dX10_divided_24 : decode cX10_divided 24 = .ok (.invokevirtual 82, 3) := by decide +kernel
theorem dX10_divided_27 : decode cX10_divided 27 = .ok (.invokevirtual 96, 3) := by decide +kernel
theorem dX10_divided_30 : decode cX10_divided 30 = .ok (.ireturn, 1) := by decide +kernel
theorem dX10_pair_0 : decode cX10_pair 0 = .ok (.iload_n 1, 1) := by decide +kernel
theorem dX10_pair_1 : decode cX10_pair 1 = .ok (.i2l, 1) := by decide +kernel
theorem dX10_pair_2 : decode cX10_pair 2 = .ok (.lconst 0, 1) := by decide +kernel
theorem dX10_pair_3 : decode cX10_pair 3 = .ok (.ldc2_w 100, 3) := by decide +kernel
theorem dX10_pair_6 : decode cX10_pair 6 = .ok (.invokestatic 78, 3) := by decide +kernel
theorem dX10_pair_9 : decode cX10_pair 9 = .ok (.ifCond .eq 15, 3) := by decide +kernel
theorem dX10_pair_12 : decode cX10_pair 12 = .ok (.iload_n 2, 1) := by decide +kernel
theorem dX10_pair_13 : decode cX10_pair 13 = .ok (.i2l, 1) := by decide +kernel
theorem dX10_pair_14 : decode cX10_pair 14 = .ok (.lconst 0, 1) := by decide +kernel
theorem dX10_pair_15 : decode cX10_pair 15 = .ok (.ldc2_w 102, 3) := by decide +kernel
theorem dX10_pair_18 : decode cX10_pair 18 = .ok (.invokestatic 78, 3) := by decide +kernel
theorem dX10_pair_21 : decode cX10_pair 21 = .ok (.ifCond .ne 6, 3) := by decide +kernel
theorem dX10_pair_24 : decode cX10_pair 24 = .ok (.bipush (-2), 2) := by decide +kernel
theorem dX10_pair_26 : decode cX10_pair 26 = .ok (.ireturn, 1) := by decide +kernel
theorem dX10_pair_27 : decode cX10_pair 27 = .ok (.aload_n 0, 1) := by decide +kernel
theorem dX10_pair_28 : decode cX10_pair 28 = .ok (.getfield 75, 3) := by decide +kernel
theorem dX10_pair_31 : decode cX10_pair 31 = .ok (.bipush 10, 2) := by decide +kernel
theorem dX10_pair_33 : decode cX10_pair 33 = .ok (.if_icmp .ne 6, 3) := by decide +kernel
theorem dX10_pair_36 : decode cX10_pair 36 = .ok (.bipush (-4), 2) := by decide +kernel
theorem dX10_pair_38 : decode cX10_pair 38 = .ok (.ireturn, 1) := by decide +kernel
theorem dX10_pair_39 : decode cX10_pair 39 = .ok (.aload_n 0, 1) := by decide +kernel
theorem dX10_pair_40 : decode cX10_pair 40 = .ok (.getfield 16, 3) := by decide +kernel
theorem dX10_pair_43 : decode cX10_pair 43 = .ok (.aload_n 0, 1) := by decide +kernel
theorem dX10_pair_44 : decode cX10_pair 44 = .ok (.getfield 75, 3) := by decide +kernel
theorem dX10_pair_47 : decode cX10_pair 47 = .ok (.iload_n 1, 1) := by decide +kernel
theorem dX10_pair_48 : decode cX10_pair 48 = .ok (.iastore, 1) := by decide +kernel
theorem dX10_pair_49 : decode cX10_pair 49 = .ok (.aload_n 0, 1) := by decide +kernel
theorem dX10_pair_50 : decode cX10_pair 50 = .ok (.getfield 20, 3) := by decide +kernel
theorem dX10_pair_53 : decode cX10_pair 53 = .ok (.aload_n 0, 1) := by decide +kernel
theorem dX10_pair_54 : decode cX10_pair 54 = .ok (.getfield 75, 3) := by decide +kernel
theorem dX10_pair_57 : decode cX10_pair 57 = .ok (.iload_n 2, 1) := by decide +kernel
theorem dX10_pair_58 : decode cX10_pair 58 = .ok (.iastore, 1) := by decide +kernel
theorem dX10_pair_59 : decode cX10_pair 59 = .ok (.aload_n 0, 1) := by decide +kernel
theorem dX10_pair_60 : decode cX10_pair 60 = .ok (.getfield 23, 3) := by decide +kernel
theorem dX10_pair_63 : decode cX10_pair 63 = .ok (.aload_n 0, 1) := by decide +kernel
theorem dX10_pair_64 : decode cX10_pair 64 = .ok (.getfield 75, 3) := by decide +kernel
theorem dX10_pair_67 : decode cX10_pair 67 = .ok (.lconst 0, 1) := by decide +kernel
theorem dX10_pair_68 : decode cX10_pair 68 = .ok (.lastore, 1) := by decide +kernel
theorem dX10_pair_69 : decode cX10_pair 69 = .ok (.iconst 0, 1) := by decide +kernel
theorem dX10_pair_70 : decode cX10_pair 70 = .ok (.istore_n 3, 1) := by decide +kernel
theorem dX10_pair_71 : decode cX10_pair 71 = .ok (.iload_n 3, 1) := by decide +kernel
theorem dX10_pair_72 : decode cX10_pair 72 = .ok (.bipush 12, 2) := by decide +kernel
theorem dX10_pair_74 : decode cX10_pair 74 = .ok (.if_icmp .ge 24, 3) := by decide +kernel
theorem dX10_pair_77 : decode cX10_pair 77 = .ok (.aload_n 0, 1) := by decide +kernel
theorem dX10_pair_78 : decode cX10_pair 78 = .ok (.getfield 27, 3) := by decide +kernel
theorem dX10_pair_81 : decode cX10_pair 81 = .ok (.bipush 12, 2) := by decide +kernel
theorem dX10_pair_83 : decode cX10_pair 83 = .ok (.aload_n 0, 1) := by decide +kernel
theorem dX10_pair_84 : decode cX10_pair 84 = .ok (.getfield 75, 3) := by decide +kernel
theorem dX10_pair_87 : decode cX10_pair 87 = .ok (.imul, 1) := by decide +kernel
theorem dX10_pair_88 : decode cX10_pair 88 = .ok (.iload_n 3, 1) := by decide +kernel
theorem dX10_pair_89 : decode cX10_pair 89 = .ok (.iadd, 1) := by decide +kernel
theorem dX10_pair_90 : decode cX10_pair 90 = .ok (.iconst 0, 1) := by decide +kernel
theorem dX10_pair_91 : decode cX10_pair 91 = .ok (.iastore, 1) := by decide +kernel
theorem dX10_pair_92 : decode cX10_pair 92 = .ok (.iinc 3 1, 3) := by decide +kernel
theorem dX10_pair_95 : decode cX10_pair 95 = .ok (.goto (-24), 3) := by decide +kernel
theorem dX10_pair_98 : decode cX10_pair 98 = .ok (.aload_n 0, 1) := by decide +kernel
theorem dX10_pair_99 : decode cX10_pair 99 = .ok (.dup, 1) := by decide +kernel
theorem dX10_pair_100 : decode cX10_pair 100 = .ok (.getfield 75, 3) := by decide +kernel
theorem dX10_pair_103 : decode cX10_pair 103 = .ok (.iconst 1, 1) := by decide +kernel
theorem dX10_pair_104 : decode cX10_pair 104 = .ok (.iadd, 1) := by decide +kernel
theorem dX10_pair_105 : decode cX10_pair 105 = .ok (.putfield 75, 3) := by decide +kernel
theorem dX10_pair_108 : decode cX10_pair 108 = .ok (.aload_n 0, 1) := by decide +kernel
theorem dX10_pair_109 : decode cX10_pair 109 = .ok (.getfield 75, 3) := by decide +kernel
theorem dX10_pair_112 : decode cX10_pair 112 = .ok (.iconst 1, 1) := by decide +kernel
theorem dX10_pair_113 : decode cX10_pair 113 = .ok (.isub, 1) := by decide +kernel
theorem dX10_pair_114 : decode cX10_pair 114 = .ok (.ireturn, 1) := by decide +kernel
theorem dX10_entry_0 : decode cX10_entry 0 = .ok (.aload_n 0, 1) := by decide +kernel
theorem dX10_entry_1 : decode cX10_entry 1 = .ok (.iload_n 1, 1) := by decide +kernel
theorem dX10_entry_2 : decode cX10_entry 2 = .ok (.invokevirtual 104, 3) := by decide +kernel
theorem dX10_entry_5 : decode cX10_entry 5 = .ok (.ifCond .eq 40, 3) := by decide +kernel
theorem dX10_entry_8 : decode cX10_entry 8 = .ok (.iload_n 2, 1) := by decide +kernel
theorem dX10_entry_9 : decode cX10_entry 9 = .ok (.i2l, 1) := by decide +kernel
theorem dX10_entry_10 : decode cX10_entry 10 = .ok (.lconst 0, 1) := by decide +kernel
theorem dX10_entry_11 : decode cX10_entry 11 = .ok (.lconst 1, 1) := by decide +kernel
theorem dX10_entry_12 : decode cX10_entry 12 = .ok (.invokestatic 78, 3) := by decide +kernel
theorem dX10_entry_15 : decode cX10_entry 15 = .ok (.ifCond .eq 30, 3) := by decide +kernel
theorem dX10_entry_18 : decode cX10_entry 18 = .ok (.iload_n 3, 1) := by decide +kernel
theorem dX10_entry_19 : decode cX10_entry 19 = .ok (.i2l, 1) := by decide +kernel
theorem dX10_entry_20 : decode cX10_entry 20 = .ok (.lconst 0, 1) := by decide +kernel
theorem dX10_entry_21 : decode cX10_entry 21 = .ok (.ldc2_w 100, 3) := by decide +kernel
theorem dX10_entry_24 : decode cX10_entry 24 = .ok (.invokestatic 78, 3) := by decide +kernel
theorem dX10_entry_27 : decode cX10_entry 27 = .ok (.ifCond .eq 18, 3) := by decide +kernel
theorem dX10_entry_30 : decode cX10_entry 30 = .ok (.iload 4, 2) := by decide +kernel
theorem dX10_entry_32 : decode cX10_entry 32 = .ok (.i2l, 1) := by decide +kernel
theorem dX10_entry_33 : decode cX10_entry 33 = .ok (.ldc2_w 107, 3) := by decide +kernel
theorem dX10_entry_36 : decode cX10_entry 36 = .ok (.ldc2_w 109, 3) := by decide +kernel
theorem dX10_entry_39 : decode cX10_entry 39 = .ok (.invokestatic 78, 3) := by decide +kernel
theorem dX10_entry_42 : decode cX10_entry 42 = .ok (.ifCond .ne 6, 3) := by decide +kernel
theorem dX10_entry_45 : decode cX10_entry 45 = .ok (.bipush (-2), 2) := by decide +kernel
theorem dX10_entry_47 : decode cX10_entry 47 = .ok (.ireturn, 1) := by decide +kernel
theorem dX10_entry_48 : decode cX10_entry 48 = .ok (.bipush 12, 2) := by decide +kernel
theorem dX10_entry_50 : decode cX10_entry 50 = .ok (.iload_n 1, 1) := by decide +kernel
theorem dX10_entry_51 : decode cX10_entry 51 = .ok (.imul, 1) := by decide +kernel
theorem dX10_entry_52 : decode cX10_entry 52 = .ok (.bipush 6, 2) := by decide +kernel
theorem dX10_entry_54 : decode cX10_entry 54 = .ok (.iload_n 2, 1) := by decide +kernel
theorem dX10_entry_55 : decode cX10_entry 55 = .ok (.imul, 1) := by decide +kernel
theorem dX10_entry_56 : decode cX10_entry 56 = .ok (.iadd, 1) := by decide +kernel
theorem dX10_entry_57 : decode cX10_entry 57 = .ok (.iload_n 3, 1) := by decide +kernel
theorem dX10_entry_58 : decode cX10_entry 58 = .ok (.iadd, 1) := by decide +kernel
theorem dX10_entry_59 : decode cX10_entry 59 = .ok (.istore 5, 2) := by decide +kernel
theorem dX10_entry_61 : decode cX10_entry 61 = .ok (.aload_n 0, 1) := by decide +kernel
theorem dX10_entry_62 : decode cX10_entry 62 = .ok (.getfield 27, 3) := by decide +kernel
theorem dX10_entry_65 : decode cX10_entry 65 = .ok (.iload 5, 2) := by decide +kernel
theorem dX10_entry_67 : decode cX10_entry 67 = .ok (.iaload, 1) := by decide +kernel
theorem dX10_entry_68 : decode cX10_entry 68 = .ok (.istore 6, 2) := by decide +kernel
theorem dX10_entry_70 : decode cX10_entry 70 = .ok (.aload_n 0, 1) := by decide +kernel
theorem dX10_entry_71 : decode cX10_entry 71 = .ok (.getfield 27, 3) := by decide +kernel
theorem dX10_entry_74 : decode cX10_entry 74 = .ok (.iload 5, 2) := by decide +kernel
theorem dX10_entry_76 : decode cX10_entry 76 = .ok (.iload 4, 2) := by decide +kernel
theorem dX10_entry_78 : decode cX10_entry 78 = .ok (.iastore, 1) := by decide +kernel
theorem dX10_entry_79 : decode cX10_entry 79 = .ok (.iload 6, 2) := by decide +kernel
theorem dX10_entry_81 : decode cX10_entry 81 = .ok (.ireturn, 1) := by decide +kernel
theorem dX10_set_0 : decode cX10_set 0 = .ok (.aload_n 0, 1) := by decide +kernel
theorem dX10_set_1 : decode cX10_set 1 = .ok (.iload_n 1, 1) := by decide +kernel
theorem dX10_set_2 : decode cX10_set 2 = .ok (.invokevirtual 104, 3) := by decide +kernel
theorem dX10_set_5 : decode cX10_set 5 = .ok (.ifCond .eq 35, 3) := by decide +kernel
theorem dX10_set_8 : decode cX10_set 8 = .ok (.iload_n 2, 1) := by decide +kernel
theorem dX10_set_9 : decode cX10_set 9 = .ok (.i2l, 1) := by decide +kernel
theorem dX10_set_10 : decode cX10_set 10 = .ok (.lconst 0, 1) := by decide +kernel
theorem dX10_set_11 : decode cX10_set 11 = .ok (.lconst 1, 1) := by decide +kernel
theorem dX10_set_12 : decode cX10_set 12 = .ok (.invokestatic 78, 3) := by decide +kernel
theorem dX10_set_15 : decode cX10_set 15 = .ok (.ifCond .eq 25, 3) := by decide +kernel
theorem dX10_set_18 : decode cX10_set 18 = .ok (.iload_n 3, 1) := by decide +kernel
theorem dX10_set_19 : decode cX10_set 19 = .ok (.i2l, 1) := by decide +kernel
theorem dX10_set_20 : decode cX10_set 20 = .ok (.lconst 0, 1) := by decide +kernel
theorem dX10_set_21 : decode cX10_set 21 = .ok (.iload_n 2, 1) := by decide +kernel
theorem dX10_set_22 : decode cX10_set 22 = .ok (.ifCond .ne 9, 3) := by decide +kernel
theorem dX10_set_25 : decode cX10_set 25 = .ok (.ldc2_w 100, 3) := by decide +kernel
theorem dX10_set_28 : decode cX10_set 28 = .ok (.goto 6, 3) := by decide +kernel
theorem dX10_set_31 : decode cX10_set 31 = .ok (.ldc2_w 102, 3) := by decide +kernel
theorem dX10_set_34 : decode cX10_set 34 = .ok (.invokestatic 78, 3) := by decide +kernel
theorem dX10_set_37 : decode cX10_set 37 = .ok (.ifCond .ne 6, 3) := by decide +kernel
theorem dX10_set_40 : decode cX10_set 40 = .ok (.bipush (-2), 2) := by decide +kernel
theorem dX10_set_42 : decode cX10_set 42 = .ok (.ireturn, 1) := by decide +kernel
theorem dX10_set_43 : decode cX10_set 43 = .ok (.iload_n 2, 1) := by decide +kernel
theorem dX10_set_44 : decode cX10_set 44 = .ok (.ifCond .ne 12, 3) := by decide +kernel
theorem dX10_set_47 : decode cX10_set 47 = .ok (.aload_n 0, 1) := by decide +kernel
theorem dX10_set_48 : decode cX10_set 48 = .ok (.getfield 16, 3) := by decide +kernel
theorem dX10_set_51 : decode cX10_set 51 = .ok (.iload_n 1, 1) := by decide +kernel
theorem dX10_set_52 : decode cX10_set 52 = .ok (.iaload, 1) := by decide +kernel
theorem dX10_set_53 : decode cX10_set 53 = .ok (.goto 9, 3) := by decide +kernel
theorem dX10_set_56 : decode cX10_set 56 = .ok (.aload_n 0, 1) := by decide +kernel
theorem dX10_set_57 : decode cX10_set 57 = .ok (.getfield 20, 3) := by decide +kernel
theorem dX10_set_60 : decode cX10_set 60 = .ok (.iload_n 1, 1) := by decide +kernel
theorem dX10_set_61 : decode cX10_set 61 = .ok (.iaload, 1) := by decide +kernel
theorem dX10_set_62 : decode cX10_set 62 = .ok (.istore 4, 2) := by decide +kernel
theorem dX10_set_64 : decode cX10_set 64 = .ok (.iload_n 2, 1) := by decide +kernel
theorem dX10_set_65 : decode cX10_set 65 = .ok (.ifCond .ne 13, 3) := by decide +kernel
theorem dX10_set_68 : decode cX10_set 68 = .ok (.aload_n 0, 1) := by decide +kernel
theorem dX10_set_69 : decode cX10_set 69 = .ok (.getfield 16, 3) := by decide +kernel
theorem dX10_set_72 : decode cX10_set 72 = .ok (.iload_n 1, 1) := by decide +kernel
theorem dX10_set_73 : decode cX10_set 73 = .ok (.iload_n 3, 1) := by decide +kernel
theorem dX10_set_74 : decode cX10_set 74 = .ok (.iastore, 1) := by decide +kernel
theorem dX10_set_75 : decode cX10_set 75 = .ok (.goto 10, 3) := by decide +kernel
theorem dX10_set_78 : decode cX10_set 78 = .ok (.aload_n 0, 1) := by decide +kernel
theorem dX10_set_79 : decode cX10_set 79 = .ok (.getfield 20, 3) := by decide +kernel
theorem dX10_set_82 : decode cX10_set 82 = .ok (.iload_n 1, 1) := by decide +kernel
theorem dX10_set_83 : decode cX10_set 83 = .ok (.iload_n 3, 1) := by decide +kernel
theorem dX10_set_84 : decode cX10_set 84 = .ok (.iastore, 1) := by decide +kernel
theorem dX10_set_85 : decode cX10_set 85 = .ok (.iload 4, 2) := by decide +kernel
theorem dX10_set_87 : decode cX10_set 87 = .ok (.ireturn, 1) := by decide +kernel
theorem dX10_ahead_0 : decode cX10_ahead 0 = .ok (.iconst 0, 1) := by decide +kernel
theorem dX10_ahead_1 : decode cX10_ahead 1 = .ok (.istore_n 2, 1) := by decide +kernel
theorem dX10_ahead_2 : decode cX10_ahead 2 = .ok (.iconst 0, 1) := by decide +kernel
theorem dX10_ahead_3 : decode cX10_ahead 3 = .ok (.istore_n 3, 1) := by decide +kernel
theorem dX10_ahead_4 : decode cX10_ahead 4 = .ok (.iload_n 3, 1) := by decide +kernel
theorem dX10_ahead_5 : decode cX10_ahead 5 = .ok (.aload_n 0, 1) := by decide +kernel
theorem dX10_ahead_6 : decode cX10_ahead 6 = .ok (.getfield 75, 3) := by decide +kernel
theorem dX10_ahead_9 : decode cX10_ahead 9 = .ok (.if_icmp .ge 94, 3) := by decide +kernel
theorem dX10_ahead_12 : decode cX10_ahead 12 = .ok (.aload_n 0, 1) := by decide +kernel
theorem dX10_ahead_13 : decode cX10_ahead 13 = .ok (.getfield 20, 3) := by decide +kernel
theorem dX10_ahead_16 : decode cX10_ahead 16 = .ok (.iload_n 3, 1) := by decide +kernel
theorem dX10_ahead_17 : decode cX10_ahead 17 = .ok (.iaload, 1) := by decide +kernel
theorem dX10_ahead_18 : decode cX10_ahead 18 = .ok (.aload_n 0, 1) := by decide +kernel
theorem dX10_ahead_19 : decode cX10_ahead 19 = .ok (.getfield 20, 3) := by decide +kernel
theorem dX10_ahead_22 : decode cX10_ahead 22 = .ok (.iload_n 1, 1) := by decide +kernel
theorem dX10_ahead_23 : decode cX10_ahead 23 = .ok (.iaload, 1) := by decide +kernel
theorem dX10_ahead_24 : decode cX10_ahead 24 = .ok (.if_icmp .gt 53, 3) := by decide +kernel
theorem dX10_ahead_27 : decode cX10_ahead 27 = .ok (.aload_n 0, 1) := by decide +kernel
theorem dX10_ahead_28 : decode cX10_ahead 28 = .ok (.getfield 20, 3) := by decide +kernel
theorem dX10_ahead_31 : decode cX10_ahead 31 = .ok (.iload_n 3, 1) := by decide +kernel
theorem dX10_ahead_32 : decode cX10_ahead 32 = .ok (.iaload, 1) := by decide +kernel
theorem dX10_ahead_33 : decode cX10_ahead 33 = .ok (.aload_n 0, 1) := by decide +kernel
theorem dX10_ahead_34 : decode cX10_ahead 34 = .ok (.getfield 20, 3) := by decide +kernel
theorem dX10_ahead_37 : decode cX10_ahead 37 = .ok (.iload_n 1, 1) := by decide +kernel
theorem dX10_ahead_38 : decode cX10_ahead 38 = .ok (.iaload, 1) := by decide +kernel
theorem dX10_ahead_39 : decode cX10_ahead 39 = .ok (.if_icmp .ne 42, 3) := by decide +kernel
theorem dX10_ahead_42 : decode cX10_ahead 42 = .ok (.aload_n 0, 1) := by decide +kernel
theorem dX10_ahead_43 : decode cX10_ahead 43 = .ok (.getfield 16, 3) := by decide +kernel
theorem dX10_ahead_46 : decode cX10_ahead 46 = .ok (.iload_n 3, 1) := by decide +kernel
theorem dX10_ahead_47 : decode cX10_ahead 47 = .ok (.iaload, 1) := by decide +kernel
theorem dX10_ahead_48 : decode cX10_ahead 48 = .ok (.aload_n 0, 1) := by decide +kernel
theorem dX10_ahead_49 : decode cX10_ahead 49 = .ok (.getfield 16, 3) := by decide +kernel
theorem dX10_ahead_52 : decode cX10_ahead 52 = .ok (.iload_n 1, 1) := by decide +kernel
theorem dX10_ahead_53 : decode cX10_ahead 53 = .ok (.iaload, 1) := by decide +kernel
theorem dX10_ahead_54 : decode cX10_ahead 54 = .ok (.if_icmp .lt 23, 3) := by decide +kernel
theorem dX10_ahead_57 : decode cX10_ahead 57 = .ok (.aload_n 0, 1) := by decide +kernel
theorem dX10_ahead_58 : decode cX10_ahead 58 = .ok (.getfield 16, 3) := by decide +kernel
theorem dX10_ahead_61 : decode cX10_ahead 61 = .ok (.iload_n 3, 1) := by decide +kernel
theorem dX10_ahead_62 : decode cX10_ahead 62 = .ok (.iaload, 1) := by decide +kernel
theorem dX10_ahead_63 : decode cX10_ahead 63 = .ok (.aload_n 0, 1) := by decide +kernel
theorem dX10_ahead_64 : decode cX10_ahead 64 = .ok (.getfield 16, 3) := by decide +kernel
theorem dX10_ahead_67 : decode cX10_ahead 67 = .ok (.iload_n 1, 1) := by decide +kernel
theorem dX10_ahead_68 : decode cX10_ahead 68 = .ok (.iaload, 1) := by decide +kernel
theorem dX10_ahead_69 : decode cX10_ahead 69 = .ok (.if_icmp .ne 12, 3) := by decide +kernel
theorem dX10_ahead_72 : decode cX10_ahead 72 = .ok (.iload_n 3, 1) := by decide +kernel
theorem dX10_ahead_73 : decode cX10_ahead 73 = .ok (.iload_n 1, 1) := by decide +kernel
theorem dX10_ahead_74 : decode cX10_ahead 74 = .ok (.if_icmp .ge 7, 3) := by decide +kernel
theorem dX10_ahead_77 : decode cX10_ahead 77 = .ok (.iconst 1, 1) := by decide +kernel
theorem dX10_ahead_78 : decode cX10_ahead 78 = .ok (.goto 4, 3) := by decide +kernel
theorem dX10_ahead_81 : decode cX10_ahead 81 = .ok (.iconst 0, 1) := by decide +kernel
theorem dX10_ahead_82 : decode cX10_ahead 82 = .ok (.istore 4, 2) := by decide +kernel
theorem dX10_ahead_84 : decode cX10_ahead 84 = .ok (.iload_n 2, 1) := by decide +kernel
theorem dX10_ahead_85 : decode cX10_ahead 85 = .ok (.iload 4, 2) := by decide +kernel
theorem dX10_ahead_87 : decode cX10_ahead 87 = .ok (.ifCond .eq 7, 3) := by decide +kernel
theorem dX10_ahead_90 : decode cX10_ahead 90 = .ok (.iconst 1, 1) := by decide +kernel
theorem dX10_ahead_91 : decode cX10_ahead 91 = .ok (.goto 4, 3) := by decide +kernel
theorem dX10_ahead_94 : decode cX10_ahead 94 = .ok (.iconst 0, 1) := by decide +kernel
theorem dX10_ahead_95 : decode cX10_ahead 95 = .ok (.iadd, 1) := by decide +kernel
theorem dX10_ahead_96 : decode cX10_ahead 96 = .ok (.istore_n 2, 1) := by decide +kernel
theorem dX10_ahead_97 : decode cX10_ahead 97 = .ok (.iinc 3 1, 3) := by decide +kernel
theorem dX10_ahead_100 : decode cX10_ahead 100 = .ok (.goto (-96), 3) := by decide +kernel
theorem dX10_ahead_103 : decode cX10_ahead 103 = .ok (.iload_n 2, 1) := by decide +kernel
theorem dX10_ahead_104 : decode cX10_ahead 104 = .ok (.ireturn, 1) := by decide +kernel
theorem dX10_namePlace_0 : decode cX10_namePlace 0 = .ok (.iconst 0, 1) := by decide +kernel
theorem dX10_namePlace_1 : decode cX10_namePlace 1 = .ok (.istore_n 2, 1) := by decide +kernel
theorem dX10_namePlace_2 : decode cX10_namePlace 2 = .ok (.iconst 0, 1) := by decide +kernel
theorem dX10_namePlace_3 : decode cX10_namePlace 3 = .ok (.istore_n 3, 1) := by decide +kernel
theorem dX10_namePlace_4 : decode cX10_namePlace 4 = .ok (.iload_n 3, 1) := by decide +kernel
theorem dX10_namePlace_5 : decode cX10_namePlace 5 = .ok (.aload_n 0, 1) := by decide +kernel
theorem dX10_namePlace_6 : decode cX10_namePlace 6 = .ok (.getfield 75, 3) := by decide +kernel
theorem dX10_namePlace_9 : decode cX10_namePlace 9 = .ok (.if_icmp .ge 44, 3) := by decide +kernel
theorem dX10_namePlace_12 : decode cX10_namePlace 12 = .ok (.iload_n 2, 1) := by decide +kernel
theorem dX10_namePlace_13 : decode cX10_namePlace 13 = .ok (.aload_n 0, 1) := by decide +kernel
theorem dX10_namePlace_14 : decode cX10_namePlace 14 = .ok (.getfield 23, 3) := by decide +kernel
theorem dX10_namePlace_17 : decode cX10_namePlace 17 = .ok (.iload_n 3, 1) := by decide +kernel
theorem dX10_namePlace_18 : decode cX10_namePlace 18 = .ok (.laload, 1) := by decide +kernel
theorem dX10_namePlace_19 : decode cX10_namePlace 19 = .ok (.lconst 0, 1) := by decide +kernel
theorem dX10_namePlace_20 : decode cX10_namePlace 20 = .ok (.lcmp, 1) := by decide +kernel
theorem dX10_namePlace_21 : decode cX10_namePlace 21 = .ok (.ifCond .eq 23, 3) := by decide +kernel
theorem dX10_namePlace_24 : decode cX10_namePlace 24 = .ok (.aload_n 0, 1) := by decide +kernel
theorem dX10_namePlace_25 : decode cX10_namePlace 25 = .ok (.getfield 23, 3) := by decide +kernel
theorem dX10_namePlace_28 : decode cX10_namePlace 28 = .ok (.iload_n 3, 1) := by decide +kernel
theorem dX10_namePlace_29 : decode cX10_namePlace 29 = .ok (.laload, 1) := by decide +kernel
theorem dX10_namePlace_30 : decode cX10_namePlace 30 = .ok (.aload_n 0, 1) := by decide +kernel
theorem dX10_namePlace_31 : decode cX10_namePlace 31 = .ok (.getfield 23, 3) := by decide +kernel
theorem dX10_namePlace_34 : decode cX10_namePlace 34 = .ok (.iload_n 1, 1) := by decide +kernel
theorem dX10_namePlace_35 : decode cX10_namePlace 35 = .ok (.laload, 1) := by decide +kernel
theorem dX10_namePlace_36 : decode cX10_namePlace 36 = .ok (.lcmp, 1) := by decide +kernel
theorem dX10_namePlace_37 : decode cX10_namePlace 37 = .ok (.ifCond .ge 7, 3) := by decide +kernel
theorem dX10_namePlace_40 : decode cX10_namePlace 40 = .ok (.iconst 1, 1) := by decide +kernel
theorem dX10_namePlace_41 : decode cX10_namePlace 41 = .ok (.goto 4, 3) := by decide +kernel
theorem dX10_namePlace_44 : decode cX10_namePlace 44 = .ok (.iconst 0, 1) := by decide +kernel
theorem dX10_namePlace_45 : decode cX10_namePlace 45 = .ok (.iadd, 1) := by decide +kernel
theorem dX10_namePlace_46 : decode cX10_namePlace 46 = .ok (.istore_n 2, 1) := by decide +kernel
theorem dX10_namePlace_47 : decode cX10_namePlace 47 = .ok (.iinc 3 1, 3) := by decide +kernel
theorem dX10_namePlace_50 : decode cX10_namePlace 50 = .ok (.goto (-46), 3) := by decide +kernel
theorem dX10_namePlace_53 : decode cX10_namePlace 53 = .ok (.aload_n 0, 1) := by decide +kernel
theorem dX10_namePlace_54 : decode cX10_namePlace 54 = .ok (.getfield 23, 3) := by decide +kernel
theorem dX10_namePlace_57 : decode cX10_namePlace 57 = .ok (.iload_n 1, 1) := by decide +kernel
theorem dX10_namePlace_58 : decode cX10_namePlace 58 = .ok (.laload, 1) := by decide +kernel
theorem dX10_namePlace_59 : decode cX10_namePlace 59 = .ok (.lconst 0, 1) := by decide +kernel
theorem dX10_namePlace_60 : decode cX10_namePlace 60 = .ok (.lcmp, 1) := by decide +kernel
theorem dX10_namePlace_61 : decode cX10_namePlace 61 = .ok (.ifCond .ne 7, 3) := by decide +kernel
theorem dX10_namePlace_64 : decode cX10_namePlace 64 = .ok (.iconst (-1), 1) := by decide +kernel
theorem dX10_namePlace_65 : decode cX10_namePlace 65 = .ok (.goto 4, 3) := by decide +kernel
theorem dX10_namePlace_68 : decode cX10_namePlace 68 = .ok (.iload_n 2, 1) := by decide +kernel
theorem dX10_namePlace_69 : decode cX10_namePlace 69 = .ok (.ireturn, 1) := by decide +kernel
theorem dX10_told_0 : decode cX10_told 0 = .ok (.aload_n 0, 1) := by decide +kernel
theorem dX10_told_1 : decode cX10_told 1 = .ok (.iload_n 1, 1) := by decide +kernel
theorem dX10_told_2 : decode cX10_told 2 = .ok (.invokevirtual 104, 3) := by decide +kernel
theorem dX10_told_5 : decode cX10_told 5 = .ok (.ifCond .ne 6, 3) := by decide +kernel
theorem dX10_told_8 : decode cX10_told 8 = .ok (.bipush (-2), 2) := by decide +kernel
theorem dX10_told_10 : decode cX10_told 10 = .ok (.ireturn, 1) := by decide +kernel
theorem dX10_told_11 : decode cX10_told 11 = .ok (.iload_n 2, 1) := by decide +kernel
theorem dX10_told_12 : decode cX10_told 12 = .ok (.tableswitch 71 0 4 #[36, 43, 50, 56, 62], 36) := by decide +kernel
theorem dX10_told_48 : decode cX10_told 48 = .ok (.aload_n 0, 1) := by decide +kernel
theorem dX10_told_49 : decode cX10_told 49 = .ok (.getfield 16, 3) := by decide +kernel
theorem dX10_told_52 : decode cX10_told 52 = .ok (.iload_n 1, 1) := by decide +kernel
theorem dX10_told_53 : decode cX10_told 53 = .ok (.iaload, 1) := by decide +kernel
theorem dX10_told_54 : decode cX10_told 54 = .ok (.ireturn, 1) := by decide +kernel
theorem dX10_told_55 : decode cX10_told 55 = .ok (.aload_n 0, 1) := by decide +kernel
theorem dX10_told_56 : decode cX10_told 56 = .ok (.getfield 20, 3) := by decide +kernel
theorem dX10_told_59 : decode cX10_told 59 = .ok (.iload_n 1, 1) := by decide +kernel
theorem dX10_told_60 : decode cX10_told 60 = .ok (.iaload, 1) := by decide +kernel
theorem dX10_told_61 : decode cX10_told 61 = .ok (.ireturn, 1) := by decide +kernel
theorem dX10_told_62 : decode cX10_told 62 = .ok (.aload_n 0, 1) := by decide +kernel
theorem dX10_told_63 : decode cX10_told 63 = .ok (.iload_n 1, 1) := by decide +kernel
theorem dX10_told_64 : decode cX10_told 64 = .ok (.invokevirtual 111, 3) := by decide +kernel
theorem dX10_told_67 : decode cX10_told 67 = .ok (.ireturn, 1) := by decide +kernel
theorem dX10_told_68 : decode cX10_told 68 = .ok (.aload_n 0, 1) := by decide +kernel
theorem dX10_told_69 : decode cX10_told 69 = .ok (.iload_n 1, 1) := by decide +kernel
theorem dX10_told_70 : decode cX10_told 70 = .ok (.invokevirtual 115, 3) := by decide +kernel
theorem dX10_told_73 : decode cX10_told 73 = .ok (.ireturn, 1) := by decide +kernel
theorem dX10_told_74 : decode cX10_told 74 = .ok (.aload_n 0, 1) := by decide +kernel
theorem dX10_told_75 : decode cX10_told 75 = .ok (.iconst 1, 1) := by decide +kernel
theorem dX10_told_76 : decode cX10_told 76 = .ok (.iload_n 1, 1) := by decide +kernel
theorem dX10_told_77 : decode cX10_told 77 = .ok (.ishl, 1) := by decide +kernel
theorem dX10_told_78 : decode cX10_told 78 = .ok (.iconst 0, 1) := by decide +kernel
theorem dX10_told_79 : decode cX10_told 79 = .ok (.invokevirtual 118, 3) := by decide +kernel
theorem dX10_told_82 : decode cX10_told 82 = .ok (.ireturn, 1) := by decide +kernel
theorem dX10_told_83 : decode cX10_told 83 = .ok (.bipush (-2), 2) := by decide +kernel
theorem dX10_told_85 : decode cX10_told 85 = .ok (.ireturn, 1) := by decide +kernel
theorem dX10_numberOf_0 : decode cX10_numberOf 0 = .ok (.aload_n 0, 1) := by decide +kernel
theorem dX10_numberOf_1 : decode cX10_numberOf 1 = .ok (.getfield 27, 3) := by decide +kernel
theorem dX10_numberOf_4 : decode cX10_numberOf 4 = .ok (.bipush 12, 2) := by decide +kernel
theorem dX10_numberOf_6 : decode cX10_numberOf 6 = .ok (.iload_n 1, 1) := by decide +kernel
theorem dX10_numberOf_7 : decode cX10_numberOf 7 = .ok (.imul, 1) := by decide +kernel
theorem dX10_numberOf_8 : decode cX10_numberOf 8 = .ok (.iload_n 3, 1) := by decide +kernel
theorem dX10_numberOf_9 : decode cX10_numberOf 9 = .ok (.iadd, 1) := by decide +kernel
theorem dX10_numberOf_10 : decode cX10_numberOf 10 = .ok (.iaload, 1) := by decide +kernel
theorem dX10_numberOf_11 : decode cX10_numberOf 11 = .ok (.istore 4, 2) := by decide +kernel
theorem dX10_numberOf_13 : decode cX10_numberOf 13 = .ok (.aload_n 0, 1) := by decide +kernel
theorem dX10_numberOf_14 : decode cX10_numberOf 14 = .ok (.getfield 27, 3) := by decide +kernel
theorem dX10_numberOf_17 : decode cX10_numberOf 17 = .ok (.bipush 12, 2) := by decide +kernel
theorem dX10_numberOf_19 : decode cX10_numberOf 19 = .ok (.iload_n 1, 1) := by decide +kernel
theorem dX10_numberOf_20 : decode cX10_numberOf 20 = .ok (.imul, 1) := by decide +kernel
theorem dX10_numberOf_21 : decode cX10_numberOf 21 = .ok (.bipush 6, 2) := by decide +kernel
theorem dX10_numberOf_23 : decode cX10_numberOf 23 = .ok (.iadd, 1) := by decide +kernel
theorem dX10_numberOf_24 : decode cX10_numberOf 24 = .ok (.iload_n 3, 1) := by decide +kernel
theorem dX10_numberOf_25 : decode cX10_numberOf 25 = .ok (.iadd, 1) := by decide +kernel
theorem dX10_numberOf_26 : decode cX10_numberOf 26 = .ok (.iaload, 1) := by decide +kernel
theorem dX10_numberOf_27 : decode cX10_numberOf 27 = .ok (.istore 5, 2) := by decide +kernel
theorem dX10_numberOf_29 : decode cX10_numberOf 29 = .ok (.aload_n 0, 1) := by decide +kernel
theorem dX10_numberOf_30 : decode cX10_numberOf 30 = .ok (.getfield 16, 3) := by decide +kernel
theorem dX10_numberOf_33 : decode cX10_numberOf 33 = .ok (.iload_n 1, 1) := by decide +kernel
theorem dX10_numberOf_34 : decode cX10_numberOf 34 = .ok (.iaload, 1) := by decide +kernel
theorem dX10_numberOf_35 : decode cX10_numberOf 35 = .ok (.tableswitch 131 1 5 #[33, 54, 72, 96, 123], 33) := by decide +kernel
theorem dX10_numberOf_68 : decode cX10_numberOf 68 = .ok (.aload_n 0, 1) := by decide +kernel
theorem dX10_numberOf_69 : decode cX10_numberOf 69 = .ok (.iload_n 2, 1) := by decide +kernel
theorem dX10_numberOf_70 : decode cX10_numberOf 70 = .ok (.ifCond .ne 9, 3) := by decide +kernel
theorem dX10_numberOf_73 : decode cX10_numberOf 73 = .ok (.iload 4, 2) := by decide +kernel
theorem dX10_numberOf_75 : decode cX10_numberOf 75 = .ok (.i2l, 1) := by decide +kernel
theorem dX10_numberOf_76 : decode cX10_numberOf 76 = .ok (.goto 9, 3) := by decide +kernel
theorem dX10_numberOf_79 : decode cX10_numberOf 79 = .ok (.iload 4, 2) := by decide +kernel
theorem dX10_numberOf_81 : decode cX10_numberOf 81 = .ok (.iload 5, 2) := by decide +kernel
theorem dX10_numberOf_83 : decode cX10_numberOf 83 = .ok (.iadd, 1) := by decide +kernel
theorem dX10_numberOf_84 : decode cX10_numberOf 84 = .ok (.i2l, 1) := by decide +kernel
theorem dX10_numberOf_85 : decode cX10_numberOf 85 = .ok (.invokevirtual 82, 3) := by decide +kernel
theorem dX10_numberOf_88 : decode cX10_numberOf 88 = .ok (.ireturn, 1) := by decide +kernel
theorem dX10_numberOf_89 : decode cX10_numberOf 89 = .ok (.aload_n 0, 1) := by decide +kernel
theorem dX10_numberOf_90 : decode cX10_numberOf 90 = .ok (.iload_n 2, 1) := by decide +kernel
theorem dX10_numberOf_91 : decode cX10_numberOf 91 = .ok (.ifCond .ne 9, 3) := by decide +kernel
theorem dX10_numberOf_94 : decode cX10_numberOf 94 = .ok (.iload 5, 2) := by decide +kernel
theorem dX10_numberOf_96 : decode cX10_numberOf 96 = .ok (.i2l, 1) := by decide +kernel
theorem dX10_numberOf_97 : decode cX10_numberOf 97 = .ok (.goto 6, 3) := by decide +kernel
theorem dX10_numberOf_100 : decode cX10_numberOf 100 = .ok (.iload 4, 2) := by decide +kernel
theorem dX10_numberOf_102 : decode cX10_numberOf 102 = .ok (.i2l, 1) := by decide +kernel
theorem dX10_numberOf_103 : decode cX10_numberOf 103 = .ok (.invokevirtual 82, 3) := by decide +kernel
theorem dX10_numberOf_106 : decode cX10_numberOf 106 = .ok (.ireturn, 1) := by decide +kernel
theorem dX10_numberOf_107 : decode cX10_numberOf 107 = .ok (.aload_n 0, 1) := by decide +kernel
theorem dX10_numberOf_108 : decode cX10_numberOf 108 = .ok (.iload_n 2, 1) := by decide +kernel
theorem dX10_numberOf_109 : decode cX10_numberOf 109 = .ok (.ifCond .ne 9, 3) := by decide +kernel
theorem dX10_numberOf_112 : decode cX10_numberOf 112 = .ok (.iload 4, 2) := by decide +kernel
theorem dX10_numberOf_114 : decode cX10_numberOf 114 = .ok (.i2l, 1) := by decide +kernel
theorem dX10_numberOf_115 : decode cX10_numberOf 115 = .ok (.goto 12, 3) := by decide +kernel
theorem dX10_numberOf_118 : decode cX10_numberOf 118 = .ok (.iload 4, 2) := by decide +kernel
theorem dX10_numberOf_120 : decode cX10_numberOf 120 = .ok (.iload 5, 2) := by decide +kernel
theorem dX10_numberOf_122 : decode cX10_numberOf 122 = .ok (.iadd, 1) := by decide +kernel
theorem dX10_numberOf_123 : decode cX10_numberOf 123 = .ok (.iload 4, 2) := by decide +kernel
theorem dX10_numberOf_125 : decode cX10_numberOf 125 = .ok (.iadd, 1) := by decide +kernel
theorem dX10_numberOf_126 : decode cX10_numberOf 126 = .ok (.i2l, 1) := by decide +kernel
theorem dX10_numberOf_127 : decode cX10_numberOf 127 = .ok (.invokevirtual 82, 3) := by decide +kernel
theorem dX10_numberOf_130 : decode cX10_numberOf 130 = .ok (.ireturn, 1) := by decide +kernel
theorem dX10_numberOf_131 : decode cX10_numberOf 131 = .ok (.aload_n 0, 1) := by decide +kernel
theorem dX10_numberOf_132 : decode cX10_numberOf 132 = .ok (.iload_n 2, 1) := by decide +kernel
theorem dX10_numberOf_133 : decode cX10_numberOf 133 = .ok (.iconst 1, 1) := by decide +kernel
theorem dX10_numberOf_134 : decode cX10_numberOf 134 = .ok (.if_icmp .ne 9, 3) := by decide +kernel
theorem dX10_numberOf_137 : decode cX10_numberOf 137 = .ok (.iload 4, 2) := by decide +kernel
theorem dX10_numberOf_139 : decode cX10_numberOf 139 = .ok (.i2l, 1) := by decide +kernel
theorem dX10_numberOf_140 : decode cX10_numberOf 140 = .ok (.goto 14, 3) := by decide +kernel
theorem dX10_numberOf_143 : decode cX10_numberOf 143 = .ok (.iload_n 3, 1) := by decide +kernel
theorem dX10_numberOf_144 : decode cX10_numberOf 144 = .ok (.ifCond .ne 7, 3) := by decide +kernel
theorem dX10_numberOf_147 : decode cX10_numberOf 147 = .ok (.lconst 0, 1) := by decide +kernel
theorem dX10_numberOf_148 : decode cX10_numberOf 148 = .ok (.goto 6, 3) := by decide +kernel
theorem dX10_numberOf_151 : decode cX10_numberOf 151 = .ok (.iload 5, 2) := by decide +kernel
theorem dX10_numberOf_153 : decode cX10_numberOf 153 = .ok (.i2l, 1) := by decide +kernel
theorem dX10_numberOf_154 : decode cX10_numberOf 154 = .ok (.invokevirtual 82, 3) := by decide +kernel
theorem dX10_numberOf_157 : decode cX10_numberOf 157 = .ok (.ireturn, 1) := by decide +kernel
theorem dX10_numberOf_158 : decode cX10_numberOf 158 = .ok (.aload_n 0, 1) := by decide +kernel
theorem dX10_numberOf_159 : decode cX10_numberOf 159 = .ok (.iload 4, 2) := by decide +kernel
theorem dX10_numberOf_161 : decode cX10_numberOf 161 = .ok (.i2l, 1) := by decide +kernel
theorem dX10_numberOf_162 : decode cX10_numberOf 162 = .ok (.invokevirtual 82, 3) := by decide +kernel
theorem dX10_numberOf_165 : decode cX10_numberOf 165 = .ok (.ireturn, 1) := by decide +kernel
theorem dX10_numberOf_166 : decode cX10_numberOf 166 = .ok (.aload_n 0, 1) := by decide +kernel
theorem dX10_numberOf_167 : decode cX10_numberOf 167 = .ok (.iload_n 2, 1) := by decide +kernel
theorem dX10_numberOf_168 : decode cX10_numberOf 168 = .ok (.ifCond .ne 9, 3) := by decide +kernel
theorem dX10_numberOf_171 : decode cX10_numberOf 171 = .ok (.iload 4, 2) := by decide +kernel
theorem dX10_numberOf_173 : decode cX10_numberOf 173 = .ok (.i2l, 1) := by decide +kernel
theorem dX10_numberOf_174 : decode cX10_numberOf 174 = .ok (.goto 6, 3) := by decide +kernel
theorem dX10_numberOf_177 : decode cX10_numberOf 177 = .ok (.iload 5, 2) := by decide +kernel
theorem dX10_numberOf_179 : decode cX10_numberOf 179 = .ok (.i2l, 1) := by decide +kernel
theorem dX10_numberOf_180 : decode cX10_numberOf 180 = .ok (.invokevirtual 82, 3) := by decide +kernel
theorem dX10_numberOf_183 : decode cX10_numberOf 183 = .ok (.ireturn, 1) := by decide +kernel
theorem dX10_number_0 : decode cX10_number 0 = .ok (.aload_n 0, 1) := by decide +kernel
theorem dX10_number_1 : decode cX10_number 1 = .ok (.iload_n 1, 1) := by decide +kernel
theorem dX10_number_2 : decode cX10_number 2 = .ok (.invokevirtual 104, 3) := by decide +kernel
theorem dX10_number_5 : decode cX10_number 5 = .ok (.ifCond .eq 39, 3) := by decide +kernel
theorem dX10_number_8 : decode cX10_number 8 = .ok (.iload_n 2, 1) := by decide +kernel
theorem dX10_number_9 : decode cX10_number 9 = .ok (.i2l, 1) := by decide +kernel
theorem dX10_number_10 : decode cX10_number 10 = .ok (.lconst 0, 1) := by decide +kernel
theorem dX10_number_11 : decode cX10_number 11 = .ok (.lconst 1, 1) := by decide +kernel
theorem dX10_number_12 : decode cX10_number 12 = .ok (.invokestatic 78, 3) := by decide +kernel
theorem dX10_number_15 : decode cX10_number 15 = .ok (.ifCond .eq 29, 3) := by decide +kernel
theorem dX10_number_18 : decode cX10_number 18 = .ok (.iload_n 3, 1) := by decide +kernel
theorem dX10_number_19 : decode cX10_number 19 = .ok (.i2l, 1) := by decide +kernel
theorem dX10_number_20 : decode cX10_number 20 = .ok (.lconst 0, 1) := by decide +kernel
theorem dX10_number_21 : decode cX10_number 21 = .ok (.aload_n 0, 1) := by decide +kernel
theorem dX10_number_22 : decode cX10_number 22 = .ok (.getfield 13, 3) := by decide +kernel
theorem dX10_number_25 : decode cX10_number 25 = .ok (.iconst 1, 1) := by decide +kernel
theorem dX10_number_26 : decode cX10_number 26 = .ok (.isub, 1) := by decide +kernel
theorem dX10_number_27 : decode cX10_number 27 = .ok (.i2l, 1) := by decide +kernel
theorem dX10_number_28 : decode cX10_number 28 = .ok (.invokestatic 78, 3) := by decide +kernel
theorem dX10_number_31 : decode cX10_number 31 = .ok (.ifCond .eq 13, 3) := by decide +kernel
theorem dX10_number_34 : decode cX10_number 34 = .ok (.aload_n 0, 1) := by decide +kernel
theorem dX10_number_35 : decode cX10_number 35 = .ok (.iload_n 1, 1) := by decide +kernel
theorem dX10_number_36 : decode cX10_number 36 = .ok (.iload_n 2, 1) := by decide +kernel
theorem dX10_number_37 : decode cX10_number 37 = .ok (.iload_n 3, 1) := by decide +kernel
theorem dX10_number_38 : decode cX10_number 38 = .ok (.invokevirtual 121, 3) := by decide +kernel
theorem dX10_number_41 : decode cX10_number 41 = .ok (.goto 5, 3) := by decide +kernel
theorem dX10_number_44 : decode cX10_number 44 = .ok (.bipush (-2), 2) := by decide +kernel
theorem dX10_number_46 : decode cX10_number 46 = .ok (.ireturn, 1) := by decide +kernel
theorem dX10_drop_0 : decode cX10_drop 0 = .ok (.aload_n 0, 1) := by decide +kernel
theorem dX10_drop_1 : decode cX10_drop 1 = .ok (.getfield 75, 3) := by decide +kernel
theorem dX10_drop_4 : decode cX10_drop 4 = .ok (.ifCond .ne 6, 3) := by decide +kernel
theorem dX10_drop_7 : decode cX10_drop 7 = .ok (.bipush (-3), 2) := by decide +kernel
theorem dX10_drop_9 : decode cX10_drop 9 = .ok (.ireturn, 1) := by decide +kernel
theorem dX10_drop_10 : decode cX10_drop 10 = .ok (.aload_n 0, 1) := by decide +kernel
theorem dX10_drop_11 : decode cX10_drop 11 = .ok (.dup, 1) := by decide +kernel
theorem dX10_drop_12 : decode cX10_drop 12 = .ok (.getfield 75, 3) := by decide +kernel
theorem dX10_drop_15 : decode cX10_drop 15 = .ok (.iconst 1, 1) := by decide +kernel
theorem dX10_drop_16 : decode cX10_drop 16 = .ok (.isub, 1) := by decide +kernel
theorem dX10_drop_17 : decode cX10_drop 17 = .ok (.putfield 75, 3) := by decide +kernel
theorem dX10_drop_20 : decode cX10_drop 20 = .ok (.aload_n 0, 1) := by decide +kernel
theorem dX10_drop_21 : decode cX10_drop 21 = .ok (.getfield 75, 3) := by decide +kernel
theorem dX10_drop_24 : decode cX10_drop 24 = .ok (.ireturn, 1) := by decide +kernel
theorem dX10_isName_0 : decode cX10_isName 0 = .ok (.iconst 0, 1) := by decide +kernel
theorem dX10_isName_1 : decode cX10_isName 1 = .ok (.istore_n 2, 1) := by decide +kernel
theorem dX10_isName_2 : decode cX10_isName 2 = .ok (.iconst 0, 1) := by decide +kernel
theorem dX10_isName_3 : decode cX10_isName 3 = .ok (.istore_n 3, 1) := by decide +kernel
theorem dX10_isName_4 : decode cX10_isName 4 = .ok (.iload_n 3, 1) := by decide +kernel
theorem dX10_isName_5 : decode cX10_isName 5 = .ok (.bipush 8, 2) := by decide +kernel
theorem dX10_isName_7 : decode cX10_isName 7 = .ok (.if_icmp .ge 66, 3) := by decide +kernel
theorem dX10_isName_10 : decode cX10_isName 10 = .ok (.lload_n 0, 1) := by decide +kernel
theorem dX10_isName_11 : decode cX10_isName 11 = .ok (.bipush 56, 2) := by decide +kernel
theorem dX10_isName_13 : decode cX10_isName 13 = .ok (.bipush 8, 2) := by decide +kernel
theorem dX10_isName_15 : decode cX10_isName 15 = .ok (.iload_n 3, 1) := by decide +kernel
theorem dX10_isName_16 : decode cX10_isName 16 = .ok (.imul, 1) := by decide +kernel
theorem dX10_isName_17 : decode cX10_isName 17 = .ok (.isub, 1) := by decide +kernel
theorem dX10_isName_18 : decode cX10_isName 18 = .ok (.lushr, 1) := by decide +kernel
theorem dX10_isName_19 : decode cX10_isName 19 = .ok (.ldc2_w 125, 3) := by decide +kernel
theorem dX10_isName_22 : decode cX10_isName 22 = .ok (.land, 1) := by decide +kernel
theorem dX10_isName_23 : decode cX10_isName 23 = .ok (.lstore 4, 2) := by decide +kernel
theorem dX10_isName_25 : decode cX10_isName 25 = .ok (.lload 4, 2) := by decide +kernel
theorem dX10_isName_27 : decode cX10_isName 27 = .ok (.lconst 0, 1) := by decide +kernel
theorem dX10_isName_28 : decode cX10_isName 28 = .ok (.lcmp, 1) := by decide +kernel
theorem dX10_isName_29 : decode cX10_isName 29 = .ok (.ifCond .eq 23, 3) := by decide +kernel
theorem dX10_isName_32 : decode cX10_isName 32 = .ok (.iload_n 2, 1) := by decide +kernel
theorem dX10_isName_33 : decode cX10_isName 33 = .ok (.ifCond .ne 17, 3) := by decide +kernel
theorem dX10_isName_36 : decode cX10_isName 36 = .ok (.lload 4, 2) := by decide +kernel
theorem dX10_isName_38 : decode cX10_isName 38 = .ok (.ldc2_w 88, 3) := by decide +kernel
theorem dX10_isName_41 : decode cX10_isName 41 = .ok (.ldc2_w 127, 3) := by decide +kernel
theorem dX10_isName_44 : decode cX10_isName 44 = .ok (.invokestatic 78, 3) := by decide +kernel
theorem dX10_isName_47 : decode cX10_isName 47 = .ok (.ifCond .ne 5, 3) := by decide +kernel
theorem dX10_isName_50 : decode cX10_isName 50 = .ok (.iconst 0, 1) := by decide +kernel
theorem dX10_isName_51 : decode cX10_isName 51 = .ok (.ireturn, 1) := by decide +kernel
theorem dX10_isName_52 : decode cX10_isName 52 = .ok (.iload_n 2, 1) := by decide +kernel
theorem dX10_isName_53 : decode cX10_isName 53 = .ok (.lload 4, 2) := by decide +kernel
theorem dX10_isName_55 : decode cX10_isName 55 = .ok (.lconst 0, 1) := by decide +kernel
theorem dX10_isName_56 : decode cX10_isName 56 = .ok (.lcmp, 1) := by decide +kernel
theorem dX10_isName_57 : decode cX10_isName 57 = .ok (.ifCond .ne 7, 3) := by decide +kernel
theorem dX10_isName_60 : decode cX10_isName 60 = .ok (.iconst 1, 1) := by decide +kernel
theorem dX10_isName_61 : decode cX10_isName 61 = .ok (.goto 4, 3) := by decide +kernel
theorem dX10_isName_64 : decode cX10_isName 64 = .ok (.iconst 0, 1) := by decide +kernel
theorem dX10_isName_65 : decode cX10_isName 65 = .ok (.ior, 1) := by decide +kernel
theorem dX10_isName_66 : decode cX10_isName 66 = .ok (.istore_n 2, 1) := by decide +kernel
theorem dX10_isName_67 : decode cX10_isName 67 = .ok (.iinc 3 1, 3) := by decide +kernel
theorem dX10_isName_70 : decode cX10_isName 70 = .ok (.goto (-66), 3) := by decide +kernel
theorem dX10_isName_73 : decode cX10_isName 73 = .ok (.iload_n 2, 1) := by decide +kernel
theorem dX10_isName_74 : decode cX10_isName 74 = .ok (.ifCond .eq 13, 3) := by decide +kernel
theorem dX10_isName_77 : decode cX10_isName 77 = .ok (.lload_n 0, 1) := by decide +kernel
theorem dX10_isName_78 : decode cX10_isName 78 = .ok (.lconst 0, 1) := by decide +kernel
theorem dX10_isName_79 : decode cX10_isName 79 = .ok (.lcmp, 1) := by decide +kernel
theorem dX10_isName_80 : decode cX10_isName 80 = .ok (.ifCond .eq 7, 3) := by decide +kernel
theorem dX10_isName_83 : decode cX10_isName 83 = .ok (.iconst 1, 1) := by decide +kernel
theorem dX10_isName_84 : decode cX10_isName 84 = .ok (.goto 4, 3) := by decide +kernel
theorem dX10_isName_87 : decode cX10_isName 87 = .ok (.iconst 0, 1) := by decide +kernel
theorem dX10_isName_88 : decode cX10_isName 88 = .ok (.ireturn, 1) := by decide +kernel
theorem dX10_whoIs_0 : decode cX10_whoIs 0 = .ok (.iconst 0, 1) := by decide +kernel
theorem dX10_whoIs_1 : decode cX10_whoIs 1 = .ok (.istore_n 3, 1) := by decide +kernel
theorem dX10_whoIs_2 : decode cX10_whoIs 2 = .ok (.iload_n 3, 1) := by decide +kernel
theorem dX10_whoIs_3 : decode cX10_whoIs 3 = .ok (.aload_n 0, 1) := by decide +kernel
theorem dX10_whoIs_4 : decode cX10_whoIs 4 = .ok (.getfield 75, 3) := by decide +kernel
theorem dX10_whoIs_7 : decode cX10_whoIs 7 = .ok (.if_icmp .ge 22, 3) := by decide +kernel
theorem dX10_whoIs_10 : decode cX10_whoIs 10 = .ok (.aload_n 0, 1) := by decide +kernel
theorem dX10_whoIs_11 : decode cX10_whoIs 11 = .ok (.getfield 23, 3) := by decide +kernel
theorem dX10_whoIs_14 : decode cX10_whoIs 14 = .ok (.iload_n 3, 1) := by decide +kernel
theorem dX10_whoIs_15 : decode cX10_whoIs 15 = .ok (.laload, 1) := by decide +kernel
theorem dX10_whoIs_16 : decode cX10_whoIs 16 = .ok (.lload_n 1, 1) := by decide +kernel
theorem dX10_whoIs_17 : decode cX10_whoIs 17 = .ok (.lcmp, 1) := by decide +kernel
theorem dX10_whoIs_18 : decode cX10_whoIs 18 = .ok (.ifCond .ne 5, 3) := by decide +kernel
theorem dX10_whoIs_21 : decode cX10_whoIs 21 = .ok (.iload_n 3, 1) := by decide +kernel
theorem dX10_whoIs_22 : decode cX10_whoIs 22 = .ok (.ireturn, 1) := by decide +kernel
theorem dX10_whoIs_23 : decode cX10_whoIs 23 = .ok (.iinc 3 1, 3) := by decide +kernel
theorem dX10_whoIs_26 : decode cX10_whoIs 26 = .ok (.goto (-24), 3) := by decide +kernel
theorem dX10_whoIs_29 : decode cX10_whoIs 29 = .ok (.iconst (-1), 1) := by decide +kernel
theorem dX10_whoIs_30 : decode cX10_whoIs 30 = .ok (.ireturn, 1) := by decide +kernel
theorem dX10_name_0 : decode cX10_name 0 = .ok (.aload_n 0, 1) := by decide +kernel
theorem dX10_name_1 : decode cX10_name 1 = .ok (.iload_n 1, 1) := by decide +kernel
theorem dX10_name_2 : decode cX10_name 2 = .ok (.invokevirtual 104, 3) := by decide +kernel
theorem dX10_name_5 : decode cX10_name 5 = .ok (.ifCond .eq 10, 3) := by decide +kernel
theorem dX10_name_8 : decode cX10_name 8 = .ok (.lload_n 2, 1) := by decide +kernel
theorem dX10_name_9 : decode cX10_name 9 = .ok (.invokestatic 129, 3) := by decide +kernel
theorem dX10_name_12 : decode cX10_name 12 = .ok (.ifCond .ne 6, 3) := by decide +kernel
theorem dX10_name_15 : decode cX10_name 15 = .ok (.bipush (-2), 2) := by decide +kernel
theorem dX10_name_17 : decode cX10_name 17 = .ok (.ireturn, 1) := by decide +kernel
theorem dX10_name_18 : decode cX10_name 18 = .ok (.aload_n 0, 1) := by decide +kernel
theorem dX10_name_19 : decode cX10_name 19 = .ok (.lload_n 2, 1) := by decide +kernel
theorem dX10_name_20 : decode cX10_name 20 = .ok (.invokevirtual 133, 3) := by decide +kernel
theorem dX10_name_23 : decode cX10_name 23 = .ok (.istore 4, 2) := by decide +kernel
theorem dX10_name_25 : decode cX10_name 25 = .ok (.iload 4, 2) := by decide +kernel
theorem dX10_name_27 : decode cX10_name 27 = .ok (.iconst (-1), 1) := by decide +kernel
theorem dX10_name_28 : decode cX10_name 28 = .ok (.if_icmp .eq 12, 3) := by decide +kernel
theorem dX10_name_31 : decode cX10_name 31 = .ok (.iload 4, 2) := by decide +kernel
theorem dX10_name_33 : decode cX10_name 33 = .ok (.iload_n 1, 1) := by decide +kernel
theorem dX10_name_34 : decode cX10_name 34 = .ok (.if_icmp .eq 6, 3) := by decide +kernel
theorem dX10_name_37 : decode cX10_name 37 = .ok (.bipush (-3), 2) := by decide +kernel
theorem dX10_name_39 : decode cX10_name 39 = .ok (.ireturn, 1) := by decide +kernel
theorem dX10_name_40 : decode cX10_name 40 = .ok (.aload_n 0, 1) := by decide +kernel
theorem dX10_name_41 : decode cX10_name 41 = .ok (.getfield 23, 3) := by decide +kernel
theorem dX10_name_44 : decode cX10_name 44 = .ok (.iload_n 1, 1) := by decide +kernel
theorem dX10_name_45 : decode cX10_name 45 = .ok (.lload_n 2, 1) := by decide +kernel
theorem dX10_name_46 : decode cX10_name 46 = .ok (.lastore, 1) := by decide +kernel
theorem dX10_name_47 : decode cX10_name 47 = .ok (.iconst 1, 1) := by decide +kernel
theorem dX10_name_48 : decode cX10_name 48 = .ok (.ireturn, 1) := by decide +kernel
theorem dX10_named_0 : decode cX10_named 0 = .ok (.lload_n 1, 1) := by decide +kernel
theorem dX10_named_1 : decode cX10_named 1 = .ok (.invokestatic 129, 3) := by decide +kernel
theorem dX10_named_4 : decode cX10_named 4 = .ok (.ifCond .eq 11, 3) := by decide +kernel
theorem dX10_named_7 : decode cX10_named 7 = .ok (.aload_n 0, 1) := by decide +kernel
theorem dX10_named_8 : decode cX10_named 8 = .ok (.lload_n 1, 1) := by decide +kernel
theorem dX10_named_9 : decode cX10_named 9 = .ok (.invokevirtual 133, 3) := by decide +kernel
theorem dX10_named_12 : decode cX10_named 12 = .ok (.goto 5, 3) := by decide +kernel
theorem dX10_named_15 : decode cX10_named 15 = .ok (.bipush (-2), 2) := by decide +kernel
theorem dX10_named_17 : decode cX10_named 17 = .ok (.ireturn, 1) := by decide +kernel
theorem dX10_unname_0 : decode cX10_unname 0 = .ok (.aload_n 0, 1) := by decide +kernel
theorem dX10_unname_1 : decode cX10_unname 1 = .ok (.iload_n 1, 1) := by decide +kernel
theorem dX10_unname_2 : decode cX10_unname 2 = .ok (.invokevirtual 104, 3) := by decide +kernel
theorem dX10_unname_5 : decode cX10_unname 5 = .ok (.ifCond .ne 6, 3) := by decide +kernel
theorem dX10_unname_8 : decode cX10_unname 8 = .ok (.bipush (-2), 2) := by decide +kernel
theorem dX10_unname_10 : decode cX10_unname 10 = .ok (.ireturn, 1) := by decide +kernel
theorem dX10_unname_11 : decode cX10_unname 11 = .ok (.aload_n 0, 1) := by decide +kernel
theorem dX10_unname_12 : decode cX10_unname 12 = .ok (.getfield 23, 3) := by decide +kernel
theorem dX10_unname_15 : decode cX10_unname 15 = .ok (.iload_n 1, 1) := by decide +kernel
theorem dX10_unname_16 : decode cX10_unname 16 = .ok (.laload, 1) := by decide +kernel
theorem dX10_unname_17 : decode cX10_unname 17 = .ok (.lconst 0, 1) := by decide +kernel
theorem dX10_unname_18 : decode cX10_unname 18 = .ok (.lcmp, 1) := by decide +kernel
theorem dX10_unname_19 : decode cX10_unname 19 = .ok (.ifCond .ne 7, 3) := by decide +kernel
theorem dX10_unname_22 : decode cX10_unname 22 = .ok (.iconst 0, 1) := by decide +kernel
theorem dX10_unname_23 : decode cX10_unname 23 = .ok (.goto 4, 3) := by decide +kernel
theorem dX10_unname_26 : decode cX10_unname 26 = .ok (.iconst 1, 1) := by decide +kernel
theorem dX10_unname_27 : decode cX10_unname 27 = .ok (.istore_n 2, 1) := by decide +kernel
theorem dX10_unname_28 : decode cX10_unname 28 = .ok (.aload_n 0, 1) := by decide +kernel
theorem dX10_unname_29 : decode cX10_unname 29 = .ok (.getfield 23, 3) := by decide +kernel
theorem dX10_unname_32 : decode cX10_unname 32 = .ok (.iload_n 1, 1) := by decide +kernel
theorem dX10_unname_33 : decode cX10_unname 33 = .ok (.lconst 0, 1) := by decide +kernel
theorem dX10_unname_34 : decode cX10_unname 34 = .ok (.lastore, 1) := by decide +kernel
theorem dX10_unname_35 : decode cX10_unname 35 = .ok (.iload_n 2, 1) := by decide +kernel
theorem dX10_unname_36 : decode cX10_unname 36 = .ok (.ireturn, 1) := by decide +kernel
theorem dX10_nameAt_0 : decode cX10_nameAt 0 = .ok (.iconst 0, 1) := by decide +kernel
theorem dX10_nameAt_1 : decode cX10_nameAt 1 = .ok (.istore_n 2, 1) := by decide +kernel
theorem dX10_nameAt_2 : decode cX10_nameAt 2 = .ok (.iload_n 2, 1) := by decide +kernel
theorem dX10_nameAt_3 : decode cX10_nameAt 3 = .ok (.aload_n 0, 1) := by decide +kernel
theorem dX10_nameAt_4 : decode cX10_nameAt 4 = .ok (.getfield 75, 3) := by decide +kernel
theorem dX10_nameAt_7 : decode cX10_nameAt 7 = .ok (.if_icmp .ge 36, 3) := by decide +kernel
theorem dX10_nameAt_10 : decode cX10_nameAt 10 = .ok (.aload_n 0, 1) := by decide +kernel
theorem dX10_nameAt_11 : decode cX10_nameAt 11 = .ok (.getfield 23, 3) := by decide +kernel
theorem dX10_nameAt_14 : decode cX10_nameAt 14 = .ok (.iload_n 2, 1) := by decide +kernel
theorem dX10_nameAt_15 : decode cX10_nameAt 15 = .ok (.laload, 1) := by decide +kernel
theorem dX10_nameAt_16 : decode cX10_nameAt 16 = .ok (.lconst 0, 1) := by decide +kernel
theorem dX10_nameAt_17 : decode cX10_nameAt 17 = .ok (.lcmp, 1) := by decide +kernel
theorem dX10_nameAt_18 : decode cX10_nameAt 18 = .ok (.ifCond .eq 19, 3) := by decide +kernel
theorem dX10_nameAt_21 : decode cX10_nameAt 21 = .ok (.aload_n 0, 1) := by decide +kernel
theorem dX10_nameAt_22 : decode cX10_nameAt 22 = .ok (.iload_n 2, 1) := by decide +kernel
theorem dX10_nameAt_23 : decode cX10_nameAt 23 = .ok (.invokevirtual 115, 3) := by decide +kernel
theorem dX10_nameAt_26 : decode cX10_nameAt 26 = .ok (.iload_n 1, 1) := by decide +kernel
theorem dX10_nameAt_27 : decode cX10_nameAt 27 = .ok (.if_icmp .ne 10, 3) := by decide +kernel
theorem dX10_nameAt_30 : decode cX10_nameAt 30 = .ok (.aload_n 0, 1) := by decide +kernel
theorem dX10_nameAt_31 : decode cX10_nameAt 31 = .ok (.getfield 23, 3) := by decide +kernel
theorem dX10_nameAt_34 : decode cX10_nameAt 34 = .ok (.iload_n 2, 1) := by decide +kernel
theorem dX10_nameAt_35 : decode cX10_nameAt 35 = .ok (.laload, 1) := by decide +kernel
theorem dX10_nameAt_36 : decode cX10_nameAt 36 = .ok (.lreturn, 1) := by decide +kernel
theorem dX10_nameAt_37 : decode cX10_nameAt 37 = .ok (.iinc 2 1, 3) := by decide +kernel
theorem dX10_nameAt_40 : decode cX10_nameAt 40 = .ok (.goto (-38), 3) := by decide +kernel
theorem dX10_nameAt_43 : decode cX10_nameAt 43 = .ok (.ldc2_w 136, 3) := by decide +kernel
theorem dX10_nameAt_46 : decode cX10_nameAt 46 = .ok (.lreturn, 1) := by decide +kernel
theorem dX10_laysRow_0 : decode cX10_laysRow 0 = .ok (.iconst 0, 1) := by decide +kernel
theorem dX10_laysRow_1 : decode cX10_laysRow 1 = .ok (.istore_n 3, 1) := by decide +kernel
theorem dX10_laysRow_2 : decode cX10_laysRow 2 = .ok (.iload_n 3, 1) := by decide +kernel
theorem dX10_laysRow_3 : decode cX10_laysRow 3 = .ok (.aload_n 0, 1) := by decide +kernel
theorem dX10_laysRow_4 : decode cX10_laysRow 4 = .ok (.getfield 13, 3) := by decide +kernel
theorem dX10_laysRow_7 : decode cX10_laysRow 7 = .ok (.if_icmp .ge 30, 3) := by decide +kernel
theorem dX10_laysRow_10 : decode cX10_laysRow 10 = .ok (.aload_n 0, 1) := by decide +kernel
theorem dX10_laysRow_11 : decode cX10_laysRow 11 = .ok (.getfield 33, 3) := by decide +kernel
theorem dX10_laysRow_14 : decode cX10_laysRow 14 = .ok (.bipush 6, 2) := by decide +kernel
theorem dX10_laysRow_16 : decode cX10_laysRow 16 = .ok (.aload_n 0, 1) := by decide +kernel
theorem dX10_laysRow_17 : decode cX10_laysRow 17 = .ok (.getfield 138, 3) := by decide +kernel
theorem dX10_laysRow_20 : decode cX10_laysRow 20 = .ok (.imul, 1) := by decide +kernel
theorem dX10_laysRow_21 : decode cX10_laysRow 21 = .ok (.iload_n 3, 1) := by decide +kernel
theorem dX10_laysRow_22 : decode cX10_laysRow 22 = .ok (.iadd, 1) := by decide +kernel
theorem dX10_laysRow_23 : decode cX10_laysRow 23 = .ok (.aload_n 0, 1) := by decide +kernel
theorem dX10_laysRow_24 : decode cX10_laysRow 24 = .ok (.iload_n 1, 1) := by decide +kernel
theorem dX10_laysRow_25 : decode cX10_laysRow 25 = .ok (.iload_n 2, 1) := by decide +kernel
theorem dX10_laysRow_26 : decode cX10_laysRow 26 = .ok (.iload_n 3, 1) := by decide +kernel
theorem dX10_laysRow_27 : decode cX10_laysRow 27 = .ok (.invokevirtual 121, 3) := by decide +kernel
theorem dX10_laysRow_30 : decode cX10_laysRow 30 = .ok (.iastore, 1) := by decide +kernel
theorem dX10_laysRow_31 : decode cX10_laysRow 31 = .ok (.iinc 3 1, 3) := by decide +kernel
theorem dX10_laysRow_34 : decode cX10_laysRow 34 = .ok (.goto (-32), 3) := by decide +kernel
theorem dX10_laysRow_37 : decode cX10_laysRow 37 = .ok (.aload_n 0, 1) := by decide +kernel
theorem dX10_laysRow_38 : decode cX10_laysRow 38 = .ok (.dup, 1) := by decide +kernel
theorem dX10_laysRow_39 : decode cX10_laysRow 39 = .ok (.getfield 138, 3) := by decide +kernel
theorem dX10_laysRow_42 : decode cX10_laysRow 42 = .ok (.iconst 1, 1) := by decide +kernel
theorem dX10_laysRow_43 : decode cX10_laysRow 43 = .ok (.iadd, 1) := by decide +kernel
theorem dX10_laysRow_44 : decode cX10_laysRow 44 = .ok (.putfield 138, 3) := by decide +kernel
theorem dX10_laysRow_47 : decode cX10_laysRow 47 = .ok (.return_, 1) := by decide +kernel
theorem dX10_laysAxis_0 : decode cX10_laysAxis 0 = .ok (.iconst 0, 1) := by decide +kernel
theorem dX10_laysAxis_1 : decode cX10_laysAxis 1 = .ok (.istore_n 2, 1) := by decide +kernel
theorem dX10_laysAxis_2 : decode cX10_laysAxis 2 = .ok (.iload_n 2, 1) := by decide +kernel
theorem dX10_laysAxis_3 : decode cX10_laysAxis 3 = .ok (.aload_n 0, 1) := by decide +kernel
theorem dX10_laysAxis_4 : decode cX10_laysAxis 4 = .ok (.getfield 13, 3) := by decide +kernel
theorem dX10_laysAxis_7 : decode cX10_laysAxis 7 = .ok (.if_icmp .ge 33, 3) := by decide +kernel
theorem dX10_laysAxis_10 : decode cX10_laysAxis 10 = .ok (.aload_n 0, 1) := by decide +kernel
theorem dX10_laysAxis_11 : decode cX10_laysAxis 11 = .ok (.getfield 33, 3) := by decide +kernel
theorem dX10_laysAxis_14 : decode cX10_laysAxis 14 = .ok (.bipush 6, 2) := by decide +kernel
theorem dX10_laysAxis_16 : decode cX10_laysAxis 16 = .ok (.aload_n 0, 1) := by decide +kernel
theorem dX10_laysAxis_17 : decode cX10_laysAxis 17 = .ok (.getfield 138, 3) := by decide +kernel
theorem dX10_laysAxis_20 : decode cX10_laysAxis 20 = .ok (.imul, 1) := by decide +kernel
theorem dX10_laysAxis_21 : decode cX10_laysAxis 21 = .ok (.iload_n 2, 1) := by decide +kernel
theorem dX10_laysAxis_22 : decode cX10_laysAxis 22 = .ok (.iadd, 1) := by decide +kernel
theorem dX10_laysAxis_23 : decode cX10_laysAxis 23 = .ok (.iload_n 2, 1) := by decide +kernel
theorem dX10_laysAxis_24 : decode cX10_laysAxis 24 = .ok (.iload_n 1, 1) := by decide +kernel
theorem dX10_laysAxis_25 : decode cX10_laysAxis 25 = .ok (.if_icmp .ne 7, 3) := by decide +kernel
theorem dX10_laysAxis_28 : decode cX10_laysAxis 28 = .ok (.iconst 1, 1) := by decide +kernel
theorem dX10_laysAxis_29 : decode cX10_laysAxis 29 = .ok (.goto 4, 3) := by decide +kernel
theorem dX10_laysAxis_32 : decode cX10_laysAxis 32 = .ok (.iconst 0, 1) := by decide +kernel
theorem dX10_laysAxis_33 : decode cX10_laysAxis 33 = .ok (.iastore, 1) := by decide +kernel
theorem dX10_laysAxis_34 : decode cX10_laysAxis 34 = .ok (.iinc 2 1, 3) := by decide +kernel
theorem dX10_laysAxis_37 : decode cX10_laysAxis 37 = .ok (.goto (-35), 3) := by decide +kernel
theorem dX10_laysAxis_40 : decode cX10_laysAxis 40 = .ok (.aload_n 0, 1) := by decide +kernel
theorem dX10_laysAxis_41 : decode cX10_laysAxis 41 = .ok (.dup, 1) := by decide +kernel
theorem dX10_laysAxis_42 : decode cX10_laysAxis 42 = .ok (.getfield 138, 3) := by decide +kernel
theorem dX10_laysAxis_45 : decode cX10_laysAxis 45 = .ok (.iconst 1, 1) := by decide +kernel
theorem dX10_laysAxis_46 : decode cX10_laysAxis 46 = .ok (.iadd, 1) := by decide +kernel
theorem dX10_laysAxis_47 : decode cX10_laysAxis 47 = .ok (.putfield 138, 3) := by decide +kernel
theorem dX10_laysAxis_50 : decode cX10_laysAxis 50 = .ok (.return_, 1) := by decide +kernel
theorem dX10_adds_0 : decode cX10_adds 0 = .ok (.iconst 0, 1) := by decide +kernel
theorem dX10_adds_1 : decode cX10_adds 1 = .ok (.istore 4, 2) := by decide +kernel
theorem dX10_adds_3 : decode cX10_adds 3 = .ok (.iload 4, 2) := by decide +kernel
theorem dX10_adds_5 : decode cX10_adds 5 = .ok (.aload_n 0, 1) := by decide +kernel
theorem dX10_adds_6 : decode cX10_adds 6 = .ok (.getfield 13, 3) := by decide +kernel
theorem dX10_adds_9 : decode cX10_adds 9 = .ok (.if_icmp .ge 55, 3) := by decide +kernel
theorem dX10_adds_12 : decode cX10_adds 12 = .ok (.aload_n 0, 1) := by decide +kernel
theorem dX10_adds_13 : decode cX10_adds 13 = .ok (.getfield 33, 3) := by decide +kernel
theorem dX10_adds_16 : decode cX10_adds 16 = .ok (.bipush 6, 2) := by decide +kernel
theorem dX10_adds_18 : decode cX10_adds 18 = .ok (.iload_n 1, 1) := by decide +kernel
theorem dX10_adds_19 : decode cX10_adds 19 = .ok (.imul, 1) := by decide +kernel
theorem dX10_adds_20 : decode cX10_adds 20 = .ok (.iload 4, 2) := by decide +kernel
theorem dX10_adds_22 : decode cX10_adds 22 = .ok (.iadd, 1) := by decide +kernel
theorem dX10_adds_23 : decode cX10_adds 23 = .ok (.aload_n 0, 1) := by decide +kernel
theorem dX10_adds_24 : decode cX10_adds 24 = .ok (.aload_n 0, 1) := by decide +kernel
theorem dX10_adds_25 : decode cX10_adds 25 = .ok (.getfield 33, 3) := by decide +kernel
theorem dX10_adds_28 : decode cX10_adds 28 = .ok (.bipush 6, 2) := by decide +kernel
theorem dX10_adds_30 : decode cX10_adds 30 = .ok (.iload_n 1, 1) := by decide +kernel
theorem dX10_adds_31 : decode cX10_adds 31 = .ok (.imul, 1) := by decide +kernel
theorem dX10_adds_32 : decode cX10_adds 32 = .ok (.iload 4, 2) := by decide +kernel
theorem dX10_adds_34 : decode cX10_adds 34 = .ok (.iadd, 1) := by decide +kernel
theorem dX10_adds_35 : decode cX10_adds 35 = .ok (.iaload, 1) := by decide +kernel
theorem dX10_adds_36 : decode cX10_adds 36 = .ok (.i2l, 1) := by decide +kernel
theorem dX10_adds_37 : decode cX10_adds 37 = .ok (.iload_n 3, 1) := by decide +kernel
theorem dX10_adds_38 : decode cX10_adds 38 = .ok (.i2l, 1) := by decide +kernel
theorem dX10_adds_39 : decode cX10_adds 39 = .ok (.aload_n 0, 1) := by decide +kernel
theorem dX10_adds_40 : decode cX10_adds 40 = .ok (.getfield 33, 3) := by decide +kernel
theorem dX10_adds_43 : decode cX10_adds 43 = .ok (.bipush 6, 2) := by decide +kernel
theorem dX10_adds_45 : decode cX10_adds 45 = .ok (.iload_n 2, 1) := by decide +kernel
theorem dX10_adds_46 : decode cX10_adds 46 = .ok (.imul, 1) := by decide +kernel
theorem dX10_adds_47 : decode cX10_adds 47 = .ok (.iload 4, 2) := by decide +kernel
theorem dX10_adds_49 : decode cX10_adds 49 = .ok (.iadd, 1) := by decide +kernel
theorem dX10_adds_50 : decode cX10_adds 50 = .ok (.iaload, 1) := by decide +kernel
theorem dX10_adds_51 : decode cX10_adds 51 = .ok (.i2l, 1) := by decide +kernel
theorem dX10_adds_52 : decode cX10_adds 52 = .ok (.lmul, 1) := by decide +kernel
theorem dX10_adds_53 : decode cX10_adds 53 = .ok (.ladd, 1) := by decide +kernel
theorem dX10_adds_54 : decode cX10_adds 54 = .ok (.invokevirtual 82, 3) := by decide +kernel
theorem dX10_adds_57 : decode cX10_adds 57 = .ok (.iastore, 1) := by decide +kernel
theorem dX10_adds_58 : decode cX10_adds 58 = .ok (.iinc 4 1, 3) := by decide +kernel
theorem dX10_adds_61 : decode cX10_adds 61 = .ok (.goto (-58), 3) := by decide +kernel
theorem dX10_adds_64 : decode cX10_adds 64 = .ok (.return_, 1) := by decide +kernel
theorem dX10_changes_0 : decode cX10_changes 0 = .ok (.iconst 0, 1) := by decide +kernel
theorem dX10_changes_1 : decode cX10_changes 1 = .ok (.istore_n 3, 1) := by decide +kernel
theorem dX10_changes_2 : decode cX10_changes 2 = .ok (.iload_n 3, 1) := by decide +kernel
theorem dX10_changes_3 : decode cX10_changes 3 = .ok (.aload_n 0, 1) := by decide +kernel
theorem dX10_changes_4 : decode cX10_changes 4 = .ok (.getfield 13, 3) := by decide +kernel
theorem dX10_changes_7 : decode cX10_changes 7 = .ok (.if_icmp .ge 57, 3) := by decide +kernel
theorem dX10_changes_10 : decode cX10_changes 10 = .ok (.aload_n 0, 1) := by decide +kernel
theorem dX10_changes_11 : decode cX10_changes 11 = .ok (.getfield 33, 3) := by decide +kernel
theorem dX10_changes_14 : decode cX10_changes 14 = .ok (.bipush 6, 2) := by decide +kernel
theorem dX10_changes_16 : decode cX10_changes 16 = .ok (.iload_n 1, 1) := by decide +kernel
theorem dX10_changes_17 : decode cX10_changes 17 = .ok (.imul, 1) := by decide +kernel
theorem dX10_changes_18 : decode cX10_changes 18 = .ok (.iload_n 3, 1) := by decide +kernel
theorem dX10_changes_19 : decode cX10_changes 19 = .ok (.iadd, 1) := by decide +kernel
theorem dX10_changes_20 : decode cX10_changes 20 = .ok (.iaload, 1) := by decide +kernel
theorem dX10_changes_21 : decode cX10_changes 21 = .ok (.istore 4, 2) := by decide +kernel
theorem dX10_changes_23 : decode cX10_changes 23 = .ok (.aload_n 0, 1) := by decide +kernel
theorem dX10_changes_24 : decode cX10_changes 24 = .ok (.getfield 33, 3) := by decide +kernel
theorem dX10_changes_27 : decode cX10_changes 27 = .ok (.bipush 6, 2) := by decide +kernel
theorem dX10_changes_29 : decode cX10_changes 29 = .ok (.iload_n 1, 1) := by decide +kernel
theorem dX10_changes_30 : decode cX10_changes 30 = .ok (.imul, 1) := by decide +kernel
theorem dX10_changes_31 : decode cX10_changes 31 = .ok (.iload_n 3, 1) := by decide +kernel
theorem dX10_changes_32 : decode cX10_changes 32 = .ok (.iadd, 1) := by decide +kernel
theorem dX10_changes_33 : decode cX10_changes 33 = .ok (.aload_n 0, 1) := by decide +kernel
theorem dX10_changes_34 : decode cX10_changes 34 = .ok (.getfield 33, 3) := by decide +kernel
theorem dX10_changes_37 : decode cX10_changes 37 = .ok (.bipush 6, 2) := by decide +kernel
theorem dX10_changes_39 : decode cX10_changes 39 = .ok (.iload_n 2, 1) := by decide +kernel
theorem dX10_changes_40 : decode cX10_changes 40 = .ok (.imul, 1) := by decide +kernel
theorem dX10_changes_41 : decode cX10_changes 41 = .ok (.iload_n 3, 1) := by decide +kernel
theorem dX10_changes_42 : decode cX10_changes 42 = .ok (.iadd, 1) := by decide +kernel
theorem dX10_changes_43 : decode cX10_changes 43 = .ok (.iaload, 1) := by decide +kernel
theorem dX10_changes_44 : decode cX10_changes 44 = .ok (.iastore, 1) := by decide +kernel
theorem dX10_changes_45 : decode cX10_changes 45 = .ok (.aload_n 0, 1) := by decide +kernel
theorem dX10_changes_46 : decode cX10_changes 46 = .ok (.getfield 33, 3) := by decide +kernel
theorem dX10_changes_49 : decode cX10_changes 49 = .ok (.bipush 6, 2) := by decide +kernel
theorem dX10_changes_51 : decode cX10_changes 51 = .ok (.iload_n 2, 1) := by decide +kernel
theorem dX10_changes_52 : decode cX10_changes 52 = .ok (.imul, 1) := by decide +kernel
theorem dX10_changes_53 : decode cX10_changes 53 = .ok (.iload_n 3, 1) := by decide +kernel
theorem dX10_changes_54 : decode cX10_changes 54 = .ok (.iadd, 1) := by decide +kernel
theorem dX10_changes_55 : decode cX10_changes 55 = .ok (.iload 4, 2) := by decide +kernel
theorem dX10_changes_57 : decode cX10_changes 57 = .ok (.iastore, 1) := by decide +kernel
theorem dX10_changes_58 : decode cX10_changes 58 = .ok (.iinc 3 1, 3) := by decide +kernel
theorem dX10_changes_61 : decode cX10_changes 61 = .ok (.goto (-59), 3) := by decide +kernel
theorem dX10_changes_64 : decode cX10_changes 64 = .ok (.return_, 1) := by decide +kernel
theorem dX10_ranks_0 : decode cX10_ranks 0 = .ok (.iconst 0, 1) := by decide +kernel
theorem dX10_ranks_1 : decode cX10_ranks 1 = .ok (.istore_n 1, 1) := by decide +kernel
theorem dX10_ranks_2 : decode cX10_ranks 2 = .ok (.iconst 0, 1) := by decide +kernel
theorem dX10_ranks_3 : decode cX10_ranks 3 = .ok (.istore_n 2, 1) := by decide +kernel
theorem dX10_ranks_4 : decode cX10_ranks 4 = .ok (.iload_n 2, 1) := by decide +kernel
theorem dX10_ranks_5 : decode cX10_ranks 5 = .ok (.aload_n 0, 1) := by decide +kernel
theorem dX10_ranks_6 : decode cX10_ranks 6 = .ok (.getfield 13, 3) := by decide +kernel
theorem dX10_ranks_9 : decode cX10_ranks 9 = .ok (.if_icmp .ge 141, 3) := by decide +kernel
theorem dX10_ranks_12 : decode cX10_ranks 12 = .ok (.iload_n 1, 1) := by decide +kernel
theorem dX10_ranks_13 : decode cX10_ranks 13 = .ok (.aload_n 0, 1) := by decide +kernel
theorem dX10_ranks_14 : decode cX10_ranks 14 = .ok (.getfield 138, 3) := by decide +kernel
theorem dX10_ranks_17 : decode cX10_ranks 17 = .ok (.if_icmp .ge 133, 3) := by decide +kernel
theorem dX10_ranks_20 : decode cX10_ranks 20 = .ok (.iload_n 1, 1) := by decide +kernel
theorem dX10_ranks_21 : decode cX10_ranks 21 = .ok (.istore_n 3, 1) := by decide +kernel
theorem dX10_ranks_22 : decode cX10_ranks 22 = .ok (.iload_n 3, 1) := by decide +kernel
theorem dX10_ranks_23 : decode cX10_ranks 23 = .ok (.aload_n 0, 1) := by decide +kernel
theorem dX10_ranks_24 : decode cX10_ranks 24 = .ok (.getfield 138, 3) := by decide +kernel
theorem dX10_ranks_27 : decode cX10_ranks 27 = .ok (.if_icmp .ge 23, 3) := by decide +kernel
theorem dX10_ranks_30 : decode cX10_ranks 30 = .ok (.aload_n 0, 1) := by decide +kernel
theorem dX10_ranks_31 : decode cX10_ranks 31 = .ok (.getfield 33, 3) := by decide +kernel
theorem dX10_ranks_34 : decode cX10_ranks 34 = .ok (.bipush 6, 2) := by decide +kernel
theorem dX10_ranks_36 : decode cX10_ranks 36 = .ok (.iload_n 3, 1) := by decide +kernel
theorem dX10_ranks_37 : decode cX10_ranks 37 = .ok (.imul, 1) := by decide +kernel
theorem dX10_ranks_38 : decode cX10_ranks 38 = .ok (.iload_n 2, 1) := by decide +kernel
theorem dX10_ranks_39 : decode cX10_ranks 39 = .ok (.iadd, 1) := by decide +kernel
theorem dX10_ranks_40 : decode cX10_ranks 40 = .ok (.iaload, 1) := by decide +kernel
theorem dX10_ranks_41 : decode cX10_ranks 41 = .ok (.ifCond .ne 9, 3) := by decide +kernel
theorem dX10_ranks_44 : decode cX10_ranks 44 = .ok (.iinc 3 1, 3) := by decide +kernel
theorem dX10_ranks_47 : decode cX10_ranks 47 = .ok (.goto (-25), 3) := by decide +kernel
theorem dX10_ranks_50 : decode cX10_ranks 50 = .ok (.iload_n 3, 1) := by decide +kernel
theorem dX10_ranks_51 : decode cX10_ranks 51 = .ok (.aload_n 0, 1) := by decide +kernel
theorem dX10_ranks_52 : decode cX10_ranks 52 = .ok (.getfield 138, 3) := by decide +kernel
theorem dX10_ranks_55 : decode cX10_ranks 55 = .ok (.if_icmp .ne 6, 3) := by decide +kernel
theorem dX10_ranks_58 : decode cX10_ranks 58 = .ok (.goto 86, 3) := by decide +kernel
theorem dX10_ranks_61 : decode cX10_ranks 61 = .ok (.aload_n 0, 1) := by decide +kernel
theorem dX10_ranks_62 : decode cX10_ranks 62 = .ok (.iload_n 1, 1) := by decide +kernel
theorem dX10_ranks_63 : decode cX10_ranks 63 = .ok (.iload_n 3, 1) := by decide +kernel
theorem dX10_ranks_64 : decode cX10_ranks 64 = .ok (.invokevirtual 141, 3) := by decide +kernel
theorem dX10_ranks_67 : decode cX10_ranks 67 = .ok (.iload_n 1, 1) := by decide +kernel
theorem dX10_ranks_68 : decode cX10_ranks 68 = .ok (.iconst 1, 1) := by decide +kernel
theorem dX10_ranks_69 : decode cX10_ranks 69 = .ok (.iadd, 1) := by decide +kernel
theorem dX10_ranks_70 : decode cX10_ranks 70 = .ok (.istore 4, 2) := by decide +kernel
theorem dX10_ranks_72 : decode cX10_ranks 72 = .ok (.iload 4, 2) := by decide +kernel
theorem dX10_ranks_74 : decode cX10_ranks 74 = .ok (.aload_n 0, 1) := by decide +kernel
theorem dX10_ranks_75 : decode cX10_ranks 75 = .ok (.getfield 138, 3) := by decide +kernel
theorem dX10_ranks_78 : decode cX10_ranks 78 = .ok (.if_icmp .ge 63, 3) := by decide +kernel
theorem dX10_ranks_81 : decode cX10_ranks 81 = .ok (.aload_n 0, 1) := by decide +kernel
theorem dX10_ranks_82 : decode cX10_ranks 82 = .ok (.getfield 33, 3) := by decide +kernel
theorem dX10_ranks_85 : decode cX10_ranks 85 = .ok (.bipush 6, 2) := by decide +kernel
theorem dX10_ranks_87 : decode cX10_ranks 87 = .ok (.iload 4, 2) := by decide +kernel
theorem dX10_ranks_89 : decode cX10_ranks 89 = .ok (.imul, 1) := by decide +kernel
theorem dX10_ranks_90 : decode cX10_ranks 90 = .ok (.iload_n 2, 1) := by decide +kernel
theorem dX10_ranks_91 : decode cX10_ranks 91 = .ok (.iadd, 1) := by decide +kernel
theorem dX10_ranks_92 : decode cX10_ranks 92 = .ok (.iaload, 1) := by decide +kernel
theorem dX10_ranks_93 : decode cX10_ranks 93 = .ok (.ifCond .eq 42, 3) := by decide +kernel
theorem dX10_ranks_96 : decode cX10_ranks 96 = .ok (.aload_n 0, 1) := by decide +kernel
theorem dX10_ranks_97 : decode cX10_ranks 97 = .ok (.iload 4, 2) := by decide +kernel
theorem dX10_ranks_99 : decode cX10_ranks 99 = .ok (.iload_n 1, 1) := by decide +kernel
theorem dX10_ranks_100 : decode cX10_ranks 100 = .ok (.aload_n 0, 1) := by decide +kernel
theorem dX10_ranks_101 : decode cX10_ranks 101 = .ok (.getfield 7, 3) := by decide +kernel
theorem dX10_ranks_104 : decode cX10_ranks 104 = .ok (.aload_n 0, 1) := by decide +kernel
theorem dX10_ranks_105 : decode cX10_ranks 105 = .ok (.aload_n 0, 1) := by decide +kernel
theorem dX10_ranks_106 : decode cX10_ranks 106 = .ok (.getfield 33, 3) := by decide +kernel
theorem dX10_ranks_109 : decode cX10_ranks 109 = .ok (.bipush 6, 2) := by decide +kernel
theorem dX10_ranks_111 : decode cX10_ranks 111 = .ok (.iload 4, 2) := by decide +kernel
theorem dX10_ranks_113 : decode cX10_ranks 113 = .ok (.imul, 1) := by decide +kernel
theorem dX10_ranks_114 : decode cX10_ranks 114 = .ok (.iload_n 2, 1) := by decide +kernel
theorem dX10_ranks_115 : decode cX10_ranks 115 = .ok (.iadd, 1) := by decide +kernel
theorem dX10_ranks_116 : decode cX10_ranks 116 = .ok (.iaload, 1) := by decide +kernel
theorem dX10_ranks_117 : decode cX10_ranks 117 = .ok (.aload_n 0, 1) := by decide +kernel
theorem dX10_ranks_118 : decode cX10_ranks 118 = .ok (.getfield 33, 3) := by decide +kernel
theorem dX10_ranks_121 : decode cX10_ranks 121 = .ok (.bipush 6, 2) := by decide +kernel
theorem dX10_ranks_123 : decode cX10_ranks 123 = .ok (.iload_n 1, 1) := by decide +kernel
theorem dX10_ranks_124 : decode cX10_ranks 124 = .ok (.imul, 1) := by decide +kernel
theorem dX10_ranks_125 : decode cX10_ranks 125 = .ok (.iload_n 2, 1) := by decide +kernel
theorem dX10_ranks_126 : decode cX10_ranks 126 = .ok (.iadd, 1) := by decide +kernel
theorem dX10_ranks_127 : decode cX10_ranks 127 = .ok (.iaload, 1) := by decide +kernel
theorem dX10_ranks_128 : decode cX10_ranks 128 = .ok (.invokevirtual 96, 3) := by decide +kernel
theorem dX10_ranks_131 : decode cX10_ranks 131 = .ok (.isub, 1) := by decide +kernel
theorem dX10_ranks_132 : decode cX10_ranks 132 = .ok (.invokevirtual 145, 3) := by decide +kernel
theorem dX10_ranks_135 : decode cX10_ranks 135 = .ok (.iinc 4 1, 3) := by decide +kernel
theorem dX10_ranks_138 : decode cX10_ranks 138 = .ok (.goto (-66), 3) := by decide +kernel
theorem dX10_ranks_141 : decode cX10_ranks 141 = .ok (.iinc 1 1, 3) := by decide +kernel
theorem dX10_ranks_144 : decode cX10_ranks 144 = .ok (.iinc 2 1, 3) := by decide +kernel
theorem dX10_ranks_147 : decode cX10_ranks 147 = .ok (.goto (-143), 3) := by decide +kernel
theorem dX10_ranks_150 : decode cX10_ranks 150 = .ok (.iload_n 1, 1) := by decide +kernel
theorem dX10_ranks_151 : decode cX10_ranks 151 = .ok (.ireturn, 1) := by decide +kernel
theorem dX10_rankOf_0 : decode cX10_rankOf 0 = .ok (.aload_n 0, 1) := by decide +kernel
theorem dX10_rankOf_1 : decode cX10_rankOf 1 = .ok (.iconst 0, 1) := by decide +kernel
theorem dX10_rankOf_2 : decode cX10_rankOf 2 = .ok (.putfield 138, 3) := by decide +kernel
theorem dX10_rankOf_5 : decode cX10_rankOf 5 = .ok (.iconst 0, 1) := by decide +kernel
theorem dX10_rankOf_6 : decode cX10_rankOf 6 = .ok (.istore_n 3, 1) := by decide +kernel
theorem dX10_rankOf_7 : decode cX10_rankOf 7 = .ok (.iload_n 3, 1) := by decide +kernel
theorem dX10_rankOf_8 : decode cX10_rankOf 8 = .ok (.aload_n 0, 1) := by decide +kernel
theorem dX10_rankOf_9 : decode cX10_rankOf 9 = .ok (.getfield 13, 3) := by decide +kernel
theorem dX10_rankOf_12 : decode cX10_rankOf 12 = .ok (.if_icmp .ge 22, 3) := by decide +kernel
theorem dX10_rankOf_15 : decode cX10_rankOf 15 = .ok (.iload_n 2, 1) := by decide +kernel
theorem dX10_rankOf_16 : decode cX10_rankOf 16 = .ok (.iload_n 3, 1) := by decide +kernel
theorem dX10_rankOf_17 : decode cX10_rankOf 17 = .ok (.invokestatic 149, 3) := by decide +kernel
theorem dX10_rankOf_20 : decode cX10_rankOf 20 = .ok (.ifCond .eq 8, 3) := by decide +kernel
theorem dX10_rankOf_23 : decode cX10_rankOf 23 = .ok (.aload_n 0, 1) := by decide +kernel
theorem dX10_rankOf_24 : decode cX10_rankOf 24 = .ok (.iload_n 3, 1) := by decide +kernel
theorem dX10_rankOf_25 : decode cX10_rankOf 25 = .ok (.invokevirtual 153, 3) := by decide +kernel
theorem dX10_rankOf_28 : decode cX10_rankOf 28 = .ok (.iinc 3 1, 3) := by decide +kernel
theorem dX10_rankOf_31 : decode cX10_rankOf 31 = .ok (.goto (-24), 3) := by decide +kernel
theorem dX10_rankOf_34 : decode cX10_rankOf 34 = .ok (.iconst 0, 1) := by decide +kernel
theorem dX10_rankOf_35 : decode cX10_rankOf 35 = .ok (.istore_n 3, 1) := by decide +kernel
theorem dX10_rankOf_36 : decode cX10_rankOf 36 = .ok (.iload_n 3, 1) := by decide +kernel
theorem dX10_rankOf_37 : decode cX10_rankOf 37 = .ok (.aload_n 0, 1) := by decide +kernel
theorem dX10_rankOf_38 : decode cX10_rankOf 38 = .ok (.getfield 75, 3) := by decide +kernel
theorem dX10_rankOf_41 : decode cX10_rankOf 41 = .ok (.if_icmp .ge 29, 3) := by decide +kernel
theorem dX10_rankOf_44 : decode cX10_rankOf 44 = .ok (.iload_n 1, 1) := by decide +kernel
theorem dX10_rankOf_45 : decode cX10_rankOf 45 = .ok (.iload_n 3, 1) := by decide +kernel
theorem dX10_rankOf_46 : decode cX10_rankOf 46 = .ok (.invokestatic 149, 3) := by decide +kernel
theorem dX10_rankOf_49 : decode cX10_rankOf 49 = .ok (.ifCond .eq 15, 3) := by decide +kernel
theorem dX10_rankOf_52 : decode cX10_rankOf 52 = .ok (.aload_n 0, 1) := by decide +kernel
theorem dX10_rankOf_53 : decode cX10_rankOf 53 = .ok (.iload_n 3, 1) := by decide +kernel
theorem dX10_rankOf_54 : decode cX10_rankOf 54 = .ok (.iconst 0, 1) := by decide +kernel
theorem dX10_rankOf_55 : decode cX10_rankOf 55 = .ok (.invokevirtual 157, 3) := by decide +kernel
theorem dX10_rankOf_58 : decode cX10_rankOf 58 = .ok (.aload_n 0, 1) := by decide +kernel
theorem dX10_rankOf_59 : decode cX10_rankOf 59 = .ok (.iload_n 3, 1) := by decide +kernel
theorem dX10_rankOf_60 : decode cX10_rankOf 60 = .ok (.iconst 1, 1) := by decide +kernel
theorem dX10_rankOf_61 : decode cX10_rankOf 61 = .ok (.invokevirtual 157, 3) := by decide +kernel
theorem dX10_rankOf_64 : decode cX10_rankOf 64 = .ok (.iinc 3 1, 3) := by decide +kernel
theorem dX10_rankOf_67 : decode cX10_rankOf 67 = .ok (.goto (-31), 3) := by decide +kernel
theorem dX10_rankOf_70 : decode cX10_rankOf 70 = .ok (.aload_n 0, 1) := by decide +kernel
theorem dX10_rankOf_71 : decode cX10_rankOf 71 = .ok (.invokevirtual 160, 3) := by decide +kernel
theorem dX10_rankOf_74 : decode cX10_rankOf 74 = .ok (.ireturn, 1) := by decide +kernel
theorem dX10_isStanding_0 : decode cX10_isStanding 0 = .ok (.iconst 2, 1) := by decide +kernel
theorem dX10_isStanding_1 : decode cX10_isStanding 1 = .ok (.iload_n 1, 1) := by decide +kernel
theorem dX10_isStanding_2 : decode cX10_isStanding 2 = .ok (.invokestatic 164, 3) := by decide +kernel
theorem dX10_isStanding_5 : decode cX10_isStanding 5 = .ok (.imul, 1) := by decide +kernel
theorem dX10_isStanding_6 : decode cX10_isStanding 6 = .ok (.aload_n 0, 1) := by decide +kernel
theorem dX10_isStanding_7 : decode cX10_isStanding 7 = .ok (.getfield 13, 3) := by decide +kernel
theorem dX10_isStanding_10 : decode cX10_isStanding 10 = .ok (.if_icmp .gt 22, 3) := by decide +kernel
theorem dX10_isStanding_13 : decode cX10_isStanding 13 = .ok (.aload_n 0, 1) := by decide +kernel
theorem dX10_isStanding_14 : decode cX10_isStanding 14 = .ok (.iload_n 1, 1) := by decide +kernel
theorem dX10_isStanding_15 : decode cX10_isStanding 15 = .ok (.iconst 0, 1) := by decide +kernel
theorem dX10_isStanding_16 : decode cX10_isStanding 16 = .ok (.invokevirtual 118, 3) := by decide +kernel
theorem dX10_isStanding_19 : decode cX10_isStanding 19 = .ok (.iconst 2, 1) := by decide +kernel
theorem dX10_isStanding_20 : decode cX10_isStanding 20 = .ok (.iload_n 1, 1) := by decide +kernel
theorem dX10_isStanding_21 : decode cX10_isStanding 21 = .ok (.invokestatic 164, 3) := by decide +kernel
theorem dX10_isStanding_24 : decode cX10_isStanding 24 = .ok (.imul, 1) := by decide +kernel
end
section
theorem dX10_isStanding_25 : decode cX10_isStanding 25 = .ok (.if_icmp .ne 7, 3) := by decide +kernel
theorem dX10_isStanding_28 : decode cX10_isStanding 28 = .ok (.iconst 1, 1) := by decide +kernel
theorem dX10_isStanding_29 : decode cX10_isStanding 29 = .ok (.goto 4, 3) := by decide +kernel
theorem dX10_isStanding_32 : decode cX10_isStanding 32 = .ok (.iconst 0, 1) := by decide +kernel
theorem dX10_isStanding_33 : decode cX10_isStanding 33 = .ok (.ireturn, 1) := by decide +kernel
theorem dX10_rank_0 : decode cX10_rank 0 = .ok (.aload_n 0, 1) := by decide +kernel
theorem dX10_rank_1 : decode cX10_rank 1 = .ok (.iload_n 1, 1) := by decide +kernel
theorem dX10_rank_2 : decode cX10_rank 2 = .ok (.invokevirtual 167, 3) := by decide +kernel
theorem dX10_rank_5 : decode cX10_rank 5 = .ok (.ifCond .eq 12, 3) := by decide +kernel
theorem dX10_rank_8 : decode cX10_rank 8 = .ok (.aload_n 0, 1) := by decide +kernel
theorem dX10_rank_9 : decode cX10_rank 9 = .ok (.iload_n 1, 1) := by decide +kernel
theorem dX10_rank_10 : decode cX10_rank 10 = .ok (.iconst 0, 1) := by decide +kernel
theorem dX10_rank_11 : decode cX10_rank 11 = .ok (.invokevirtual 118, 3) := by decide +kernel
theorem dX10_rank_14 : decode cX10_rank 14 = .ok (.goto 5, 3) := by decide +kernel
theorem dX10_rank_17 : decode cX10_rank 17 = .ok (.bipush (-2), 2) := by decide +kernel
theorem dX10_rank_19 : decode cX10_rank 19 = .ok (.ireturn, 1) := by decide +kernel
theorem dX10_stands_0 : decode cX10_stands 0 = .ok (.aload_n 0, 1) := by decide +kernel
theorem dX10_stands_1 : decode cX10_stands 1 = .ok (.iload_n 1, 1) := by decide +kernel
theorem dX10_stands_2 : decode cX10_stands 2 = .ok (.invokevirtual 167, 3) := by decide +kernel
theorem dX10_stands_5 : decode cX10_stands 5 = .ok (.ifCond .ne 8, 3) := by decide +kernel
theorem dX10_stands_8 : decode cX10_stands 8 = .ok (.bipush (-2), 2) := by decide +kernel
theorem dX10_stands_10 : decode cX10_stands 10 = .ok (.goto 16, 3) := by decide +kernel
theorem dX10_stands_13 : decode cX10_stands 13 = .ok (.aload_n 0, 1) := by decide +kernel
theorem dX10_stands_14 : decode cX10_stands 14 = .ok (.iload_n 1, 1) := by decide +kernel
theorem dX10_stands_15 : decode cX10_stands 15 = .ok (.invokevirtual 170, 3) := by decide +kernel
theorem dX10_stands_18 : decode cX10_stands 18 = .ok (.ifCond .eq 7, 3) := by decide +kernel
theorem dX10_stands_21 : decode cX10_stands 21 = .ok (.iconst 1, 1) := by decide +kernel
theorem dX10_stands_22 : decode cX10_stands 22 = .ok (.goto 4, 3) := by decide +kernel
theorem dX10_stands_25 : decode cX10_stands 25 = .ok (.iconst 0, 1) := by decide +kernel
theorem dX10_stands_26 : decode cX10_stands 26 = .ok (.ireturn, 1) := by decide +kernel
theorem dX10_mostOf_0 : decode cX10_mostOf 0 = .ok (.iconst 0, 1) := by decide +kernel
theorem dX10_mostOf_1 : decode cX10_mostOf 1 = .ok (.istore_n 1, 1) := by decide +kernel
theorem dX10_mostOf_2 : decode cX10_mostOf 2 = .ok (.iconst 1, 1) := by decide +kernel
theorem dX10_mostOf_3 : decode cX10_mostOf 3 = .ok (.istore_n 2, 1) := by decide +kernel
theorem dX10_mostOf_4 : decode cX10_mostOf 4 = .ok (.iload_n 2, 1) := by decide +kernel
theorem dX10_mostOf_5 : decode cX10_mostOf 5 = .ok (.iconst 1, 1) := by decide +kernel
theorem dX10_mostOf_6 : decode cX10_mostOf 6 = .ok (.aload_n 0, 1) := by decide +kernel
theorem dX10_mostOf_7 : decode cX10_mostOf 7 = .ok (.getfield 75, 3) := by decide +kernel
theorem dX10_mostOf_10 : decode cX10_mostOf 10 = .ok (.ishl, 1) := by decide +kernel
theorem dX10_mostOf_11 : decode cX10_mostOf 11 = .ok (.if_icmp .ge 34, 3) := by decide +kernel
theorem dX10_mostOf_14 : decode cX10_mostOf 14 = .ok (.iload_n 2, 1) := by decide +kernel
theorem dX10_mostOf_15 : decode cX10_mostOf 15 = .ok (.invokestatic 164, 3) := by decide +kernel
theorem dX10_mostOf_18 : decode cX10_mostOf 18 = .ok (.iload_n 1, 1) := by decide +kernel
theorem dX10_mostOf_19 : decode cX10_mostOf 19 = .ok (.if_icmp .le 18, 3) := by decide +kernel
theorem dX10_mostOf_22 : decode cX10_mostOf 22 = .ok (.aload_n 0, 1) := by decide +kernel
theorem dX10_mostOf_23 : decode cX10_mostOf 23 = .ok (.iload_n 2, 1) := by decide +kernel
theorem dX10_mostOf_24 : decode cX10_mostOf 24 = .ok (.invokevirtual 170, 3) := by decide +kernel
theorem dX10_mostOf_27 : decode cX10_mostOf 27 = .ok (.ifCond .eq 10, 3) := by decide +kernel
theorem dX10_mostOf_30 : decode cX10_mostOf 30 = .ok (.iload_n 2, 1) := by decide +kernel
theorem dX10_mostOf_31 : decode cX10_mostOf 31 = .ok (.invokestatic 164, 3) := by decide +kernel
theorem dX10_mostOf_34 : decode cX10_mostOf 34 = .ok (.goto 4, 3) := by decide +kernel
theorem dX10_mostOf_37 : decode cX10_mostOf 37 = .ok (.iload_n 1, 1) := by decide +kernel
theorem dX10_mostOf_38 : decode cX10_mostOf 38 = .ok (.istore_n 1, 1) := by decide +kernel
theorem dX10_mostOf_39 : decode cX10_mostOf 39 = .ok (.iinc 2 1, 3) := by decide +kernel
theorem dX10_mostOf_42 : decode cX10_mostOf 42 = .ok (.goto (-38), 3) := by decide +kernel
theorem dX10_mostOf_45 : decode cX10_mostOf 45 = .ok (.iload_n 1, 1) := by decide +kernel
theorem dX10_mostOf_46 : decode cX10_mostOf 46 = .ok (.ireturn, 1) := by decide +kernel
theorem dX10_most_0 : decode cX10_most 0 = .ok (.aload_n 0, 1) := by decide +kernel
theorem dX10_most_1 : decode cX10_most 1 = .ok (.invokevirtual 173, 3) := by decide +kernel
theorem dX10_most_4 : decode cX10_most 4 = .ok (.ireturn, 1) := by decide +kernel
theorem dX10_best_0 : decode cX10_best 0 = .ok (.iload_n 1, 1) := by decide +kernel
theorem dX10_best_1 : decode cX10_best 1 = .ok (.i2l, 1) := by decide +kernel
theorem dX10_best_2 : decode cX10_best 2 = .ok (.lconst 0, 1) := by decide +kernel
theorem dX10_best_3 : decode cX10_best 3 = .ok (.ldc2_w 176, 3) := by decide +kernel
theorem dX10_best_6 : decode cX10_best 6 = .ok (.invokestatic 78, 3) := by decide +kernel
theorem dX10_best_9 : decode cX10_best 9 = .ok (.ifCond .ne 6, 3) := by decide +kernel
theorem dX10_best_12 : decode cX10_best 12 = .ok (.bipush (-2), 2) := by decide +kernel
theorem dX10_best_14 : decode cX10_best 14 = .ok (.ireturn, 1) := by decide +kernel
theorem dX10_best_15 : decode cX10_best 15 = .ok (.aload_n 0, 1) := by decide +kernel
theorem dX10_best_16 : decode cX10_best 16 = .ok (.invokevirtual 173, 3) := by decide +kernel
theorem dX10_best_19 : decode cX10_best 19 = .ok (.istore_n 2, 1) := by decide +kernel
theorem dX10_best_20 : decode cX10_best 20 = .ok (.iconst (-1), 1) := by decide +kernel
theorem dX10_best_21 : decode cX10_best 21 = .ok (.istore_n 3, 1) := by decide +kernel
theorem dX10_best_22 : decode cX10_best 22 = .ok (.iconst 0, 1) := by decide +kernel
theorem dX10_best_23 : decode cX10_best 23 = .ok (.istore 4, 2) := by decide +kernel
theorem dX10_best_25 : decode cX10_best 25 = .ok (.iconst 1, 1) := by decide +kernel
theorem dX10_best_26 : decode cX10_best 26 = .ok (.aload_n 0, 1) := by decide +kernel
theorem dX10_best_27 : decode cX10_best 27 = .ok (.getfield 75, 3) := by decide +kernel
theorem dX10_best_30 : decode cX10_best 30 = .ok (.ishl, 1) := by decide +kernel
theorem dX10_best_31 : decode cX10_best 31 = .ok (.iconst 1, 1) := by decide +kernel
theorem dX10_best_32 : decode cX10_best 32 = .ok (.isub, 1) := by decide +kernel
theorem dX10_best_33 : decode cX10_best 33 = .ok (.istore 5, 2) := by decide +kernel
theorem dX10_best_35 : decode cX10_best 35 = .ok (.iconst 0, 1) := by decide +kernel
theorem dX10_best_36 : decode cX10_best 36 = .ok (.istore 6, 2) := by decide +kernel
theorem dX10_best_38 : decode cX10_best 38 = .ok (.iconst 0, 1) := by decide +kernel
theorem dX10_best_39 : decode cX10_best 39 = .ok (.istore 7, 2) := by decide +kernel
theorem dX10_best_41 : decode cX10_best 41 = .ok (.iload 7, 2) := by decide +kernel
theorem dX10_best_43 : decode cX10_best 43 = .ok (.iconst 1, 1) := by decide +kernel
theorem dX10_best_44 : decode cX10_best 44 = .ok (.aload_n 0, 1) := by decide +kernel
theorem dX10_best_45 : decode cX10_best 45 = .ok (.getfield 75, 3) := by decide +kernel
theorem dX10_best_48 : decode cX10_best 48 = .ok (.ishl, 1) := by decide +kernel
theorem dX10_best_49 : decode cX10_best 49 = .ok (.if_icmp .ge 56, 3) := by decide +kernel
theorem dX10_best_52 : decode cX10_best 52 = .ok (.iload 7, 2) := by decide +kernel
theorem dX10_best_54 : decode cX10_best 54 = .ok (.invokestatic 164, 3) := by decide +kernel
theorem dX10_best_57 : decode cX10_best 57 = .ok (.iload_n 2, 1) := by decide +kernel
theorem dX10_best_58 : decode cX10_best 58 = .ok (.if_icmp .ne 41, 3) := by decide +kernel
theorem dX10_best_61 : decode cX10_best 61 = .ok (.aload_n 0, 1) := by decide +kernel
theorem dX10_best_62 : decode cX10_best 62 = .ok (.iload 7, 2) := by decide +kernel
theorem dX10_best_64 : decode cX10_best 64 = .ok (.invokevirtual 170, 3) := by decide +kernel
theorem dX10_best_67 : decode cX10_best 67 = .ok (.ifCond .eq 32, 3) := by decide +kernel
theorem dX10_best_70 : decode cX10_best 70 = .ok (.iload_n 3, 1) := by decide +kernel
theorem dX10_best_71 : decode cX10_best 71 = .ok (.iconst (-1), 1) := by decide +kernel
theorem dX10_best_72 : decode cX10_best 72 = .ok (.if_icmp .ne 8, 3) := by decide +kernel
theorem dX10_best_75 : decode cX10_best 75 = .ok (.iload 7, 2) := by decide +kernel
theorem dX10_best_77 : decode cX10_best 77 = .ok (.goto 4, 3) := by decide +kernel
theorem dX10_best_80 : decode cX10_best 80 = .ok (.iload_n 3, 1) := by decide +kernel
theorem dX10_best_81 : decode cX10_best 81 = .ok (.istore_n 3, 1) := by decide +kernel
theorem dX10_best_82 : decode cX10_best 82 = .ok (.iinc 4 1, 3) := by decide +kernel
theorem dX10_best_85 : decode cX10_best 85 = .ok (.iload 5, 2) := by decide +kernel
theorem dX10_best_87 : decode cX10_best 87 = .ok (.iload 7, 2) := by decide +kernel
theorem dX10_best_89 : decode cX10_best 89 = .ok (.iand, 1) := by decide +kernel
theorem dX10_best_90 : decode cX10_best 90 = .ok (.istore 5, 2) := by decide +kernel
theorem dX10_best_92 : decode cX10_best 92 = .ok (.iload 6, 2) := by decide +kernel
theorem dX10_best_94 : decode cX10_best 94 = .ok (.iload 7, 2) := by decide +kernel
theorem dX10_best_96 : decode cX10_best 96 = .ok (.ior, 1) := by decide +kernel
theorem dX10_best_97 : decode cX10_best 97 = .ok (.istore 6, 2) := by decide +kernel
theorem dX10_best_99 : decode cX10_best 99 = .ok (.iinc 7 1, 3) := by decide +kernel
theorem dX10_best_102 : decode cX10_best 102 = .ok (.goto (-61), 3) := by decide +kernel
theorem dX10_best_105 : decode cX10_best 105 = .ok (.iload_n 1, 1) := by decide +kernel
theorem dX10_best_106 : decode cX10_best 106 = .ok (.ifCond .ne 7, 3) := by decide +kernel
theorem dX10_best_109 : decode cX10_best 109 = .ok (.iload_n 3, 1) := by decide +kernel
theorem dX10_best_110 : decode cX10_best 110 = .ok (.goto 25, 3) := by decide +kernel
theorem dX10_best_113 : decode cX10_best 113 = .ok (.iload_n 1, 1) := by decide +kernel
theorem dX10_best_114 : decode cX10_best 114 = .ok (.iconst 1, 1) := by decide +kernel
theorem dX10_best_115 : decode cX10_best 115 = .ok (.if_icmp .ne 8, 3) := by decide +kernel
theorem dX10_best_118 : decode cX10_best 118 = .ok (.iload 4, 2) := by decide +kernel
theorem dX10_best_120 : decode cX10_best 120 = .ok (.goto 15, 3) := by decide +kernel
theorem dX10_best_123 : decode cX10_best 123 = .ok (.iload_n 1, 1) := by decide +kernel
theorem dX10_best_124 : decode cX10_best 124 = .ok (.iconst 2, 1) := by decide +kernel
theorem dX10_best_125 : decode cX10_best 125 = .ok (.if_icmp .ne 8, 3) := by decide +kernel
theorem dX10_best_128 : decode cX10_best 128 = .ok (.iload 5, 2) := by decide +kernel
theorem dX10_best_130 : decode cX10_best 130 = .ok (.goto 5, 3) := by decide +kernel
theorem dX10_best_133 : decode cX10_best 133 = .ok (.iload 6, 2) := by decide +kernel
theorem dX10_best_135 : decode cX10_best 135 = .ok (.ireturn, 1) := by decide +kernel
theorem dX10_weights_0 : decode cX10_weights 0 = .ok (.iconst 0, 1) := by decide +kernel
theorem dX10_weights_1 : decode cX10_weights 1 = .ok (.istore_n 2, 1) := by decide +kernel
theorem dX10_weights_2 : decode cX10_weights 2 = .ok (.iconst 0, 1) := by decide +kernel
theorem dX10_weights_3 : decode cX10_weights 3 = .ok (.istore_n 3, 1) := by decide +kernel
theorem dX10_weights_4 : decode cX10_weights 4 = .ok (.iload_n 3, 1) := by decide +kernel
theorem dX10_weights_5 : decode cX10_weights 5 = .ok (.aload_n 0, 1) := by decide +kernel
theorem dX10_weights_6 : decode cX10_weights 6 = .ok (.getfield 75, 3) := by decide +kernel
theorem dX10_weights_9 : decode cX10_weights 9 = .ok (.if_icmp .ge 30, 3) := by decide +kernel
theorem dX10_weights_12 : decode cX10_weights 12 = .ok (.iload_n 2, 1) := by decide +kernel
theorem dX10_weights_13 : decode cX10_weights 13 = .ok (.iload_n 1, 1) := by decide +kernel
theorem dX10_weights_14 : decode cX10_weights 14 = .ok (.iload_n 3, 1) := by decide +kernel
theorem dX10_weights_15 : decode cX10_weights 15 = .ok (.invokestatic 149, 3) := by decide +kernel
theorem dX10_weights_18 : decode cX10_weights 18 = .ok (.ifCond .eq 12, 3) := by decide +kernel
theorem dX10_weights_21 : decode cX10_weights 21 = .ok (.aload_n 0, 1) := by decide +kernel
theorem dX10_weights_22 : decode cX10_weights 22 = .ok (.getfield 20, 3) := by decide +kernel
theorem dX10_weights_25 : decode cX10_weights 25 = .ok (.iload_n 3, 1) := by decide +kernel
theorem dX10_weights_26 : decode cX10_weights 26 = .ok (.iaload, 1) := by decide +kernel
theorem dX10_weights_27 : decode cX10_weights 27 = .ok (.goto 4, 3) := by decide +kernel
theorem dX10_weights_30 : decode cX10_weights 30 = .ok (.iconst 0, 1) := by decide +kernel
theorem dX10_weights_31 : decode cX10_weights 31 = .ok (.iadd, 1) := by decide +kernel
theorem dX10_weights_32 : decode cX10_weights 32 = .ok (.istore_n 2, 1) := by decide +kernel
theorem dX10_weights_33 : decode cX10_weights 33 = .ok (.iinc 3 1, 3) := by decide +kernel
theorem dX10_weights_36 : decode cX10_weights 36 = .ok (.goto (-32), 3) := by decide +kernel
theorem dX10_weights_39 : decode cX10_weights 39 = .ok (.iload_n 2, 1) := by decide +kernel
theorem dX10_weights_40 : decode cX10_weights 40 = .ok (.ireturn, 1) := by decide +kernel
theorem dX10_heavy_0 : decode cX10_heavy 0 = .ok (.iload_n 1, 1) := by decide +kernel
theorem dX10_heavy_1 : decode cX10_heavy 1 = .ok (.i2l, 1) := by decide +kernel
theorem dX10_heavy_2 : decode cX10_heavy 2 = .ok (.lconst 0, 1) := by decide +kernel
theorem dX10_heavy_3 : decode cX10_heavy 3 = .ok (.lconst 1, 1) := by decide +kernel
theorem dX10_heavy_4 : decode cX10_heavy 4 = .ok (.invokestatic 78, 3) := by decide +kernel
theorem dX10_heavy_7 : decode cX10_heavy 7 = .ok (.ifCond .ne 6, 3) := by decide +kernel
theorem dX10_heavy_10 : decode cX10_heavy 10 = .ok (.bipush (-2), 2) := by decide +kernel
theorem dX10_heavy_12 : decode cX10_heavy 12 = .ok (.ireturn, 1) := by decide +kernel
theorem dX10_heavy_13 : decode cX10_heavy 13 = .ok (.iconst 0, 1) := by decide +kernel
theorem dX10_heavy_14 : decode cX10_heavy 14 = .ok (.istore_n 2, 1) := by decide +kernel
theorem dX10_heavy_15 : decode cX10_heavy 15 = .ok (.iconst 1, 1) := by decide +kernel
theorem dX10_heavy_16 : decode cX10_heavy 16 = .ok (.istore_n 3, 1) := by decide +kernel
theorem dX10_heavy_17 : decode cX10_heavy 17 = .ok (.iload_n 3, 1) := by decide +kernel
theorem dX10_heavy_18 : decode cX10_heavy 18 = .ok (.iconst 1, 1) := by decide +kernel
theorem dX10_heavy_19 : decode cX10_heavy 19 = .ok (.aload_n 0, 1) := by decide +kernel
theorem dX10_heavy_20 : decode cX10_heavy 20 = .ok (.getfield 75, 3) := by decide +kernel
theorem dX10_heavy_23 : decode cX10_heavy 23 = .ok (.ishl, 1) := by decide +kernel
theorem dX10_heavy_24 : decode cX10_heavy 24 = .ok (.if_icmp .ge 36, 3) := by decide +kernel
theorem dX10_heavy_27 : decode cX10_heavy 27 = .ok (.aload_n 0, 1) := by decide +kernel
theorem dX10_heavy_28 : decode cX10_heavy 28 = .ok (.iload_n 3, 1) := by decide +kernel
theorem dX10_heavy_29 : decode cX10_heavy 29 = .ok (.invokevirtual 178, 3) := by decide +kernel
theorem dX10_heavy_32 : decode cX10_heavy 32 = .ok (.aload_n 0, 1) := by decide +kernel
theorem dX10_heavy_33 : decode cX10_heavy 33 = .ok (.iload_n 2, 1) := by decide +kernel
theorem dX10_heavy_34 : decode cX10_heavy 34 = .ok (.invokevirtual 178, 3) := by decide +kernel
theorem dX10_heavy_37 : decode cX10_heavy 37 = .ok (.if_icmp .le 15, 3) := by decide +kernel
theorem dX10_heavy_40 : decode cX10_heavy 40 = .ok (.aload_n 0, 1) := by decide +kernel
theorem dX10_heavy_41 : decode cX10_heavy 41 = .ok (.iload_n 3, 1) := by decide +kernel
theorem dX10_heavy_42 : decode cX10_heavy 42 = .ok (.invokevirtual 170, 3) := by decide +kernel
theorem dX10_heavy_45 : decode cX10_heavy 45 = .ok (.ifCond .eq 7, 3) := by decide +kernel
theorem dX10_heavy_48 : decode cX10_heavy 48 = .ok (.iload_n 3, 1) := by decide +kernel
theorem dX10_heavy_49 : decode cX10_heavy 49 = .ok (.goto 4, 3) := by decide +kernel
theorem dX10_heavy_52 : decode cX10_heavy 52 = .ok (.iload_n 2, 1) := by decide +kernel
theorem dX10_heavy_53 : decode cX10_heavy 53 = .ok (.istore_n 2, 1) := by decide +kernel
theorem dX10_heavy_54 : decode cX10_heavy 54 = .ok (.iinc 3 1, 3) := by decide +kernel
theorem dX10_heavy_57 : decode cX10_heavy 57 = .ok (.goto (-40), 3) := by decide +kernel
theorem dX10_heavy_60 : decode cX10_heavy 60 = .ok (.iload_n 1, 1) := by decide +kernel
theorem dX10_heavy_61 : decode cX10_heavy 61 = .ok (.ifCond .ne 7, 3) := by decide +kernel
theorem dX10_heavy_64 : decode cX10_heavy 64 = .ok (.iload_n 2, 1) := by decide +kernel
theorem dX10_heavy_65 : decode cX10_heavy 65 = .ok (.goto 8, 3) := by decide +kernel
theorem dX10_heavy_68 : decode cX10_heavy 68 = .ok (.aload_n 0, 1) := by decide +kernel
theorem dX10_heavy_69 : decode cX10_heavy 69 = .ok (.iload_n 2, 1) := by decide +kernel
theorem dX10_heavy_70 : decode cX10_heavy 70 = .ok (.invokevirtual 178, 3) := by decide +kernel
theorem dX10_heavy_73 : decode cX10_heavy 73 = .ok (.ireturn, 1) := by decide +kernel
theorem dX10_queue_0 : decode cX10_queue 0 = .ok (.iconst 0, 1) := by decide +kernel
theorem dX10_queue_1 : decode cX10_queue 1 = .ok (.istore_n 2, 1) := by decide +kernel
theorem dX10_queue_2 : decode cX10_queue 2 = .ok (.iload_n 2, 1) := by decide +kernel
theorem dX10_queue_3 : decode cX10_queue 3 = .ok (.aload_n 0, 1) := by decide +kernel
theorem dX10_queue_4 : decode cX10_queue 4 = .ok (.getfield 75, 3) := by decide +kernel
theorem dX10_queue_7 : decode cX10_queue 7 = .ok (.if_icmp .ge 20, 3) := by decide +kernel
theorem dX10_queue_10 : decode cX10_queue 10 = .ok (.aload_n 0, 1) := by decide +kernel
theorem dX10_queue_11 : decode cX10_queue 11 = .ok (.iload_n 2, 1) := by decide +kernel
theorem dX10_queue_12 : decode cX10_queue 12 = .ok (.invokevirtual 111, 3) := by decide +kernel
theorem dX10_queue_15 : decode cX10_queue 15 = .ok (.iload_n 1, 1) := by decide +kernel
theorem dX10_queue_16 : decode cX10_queue 16 = .ok (.if_icmp .ne 5, 3) := by decide +kernel
theorem dX10_queue_19 : decode cX10_queue 19 = .ok (.iload_n 2, 1) := by decide +kernel
theorem dX10_queue_20 : decode cX10_queue 20 = .ok (.ireturn, 1) := by decide +kernel
theorem dX10_queue_21 : decode cX10_queue 21 = .ok (.iinc 2 1, 3) := by decide +kernel
theorem dX10_queue_24 : decode cX10_queue 24 = .ok (.goto (-22), 3) := by decide +kernel
theorem dX10_queue_27 : decode cX10_queue 27 = .ok (.bipush (-12), 2) := by decide +kernel
theorem dX10_queue_29 : decode cX10_queue 29 = .ok (.ireturn, 1) := by decide +kernel
theorem dX10_greedy_0 : decode cX10_greedy 0 = .ok (.iload_n 1, 1) := by decide +kernel
theorem dX10_greedy_1 : decode cX10_greedy 1 = .ok (.i2l, 1) := by decide +kernel
theorem dX10_greedy_2 : decode cX10_greedy 2 = .ok (.lconst 0, 1) := by decide +kernel
theorem dX10_greedy_3 : decode cX10_greedy 3 = .ok (.lconst 1, 1) := by decide +kernel
theorem dX10_greedy_4 : decode cX10_greedy 4 = .ok (.invokestatic 78, 3) := by decide +kernel
theorem dX10_greedy_7 : decode cX10_greedy 7 = .ok (.ifCond .ne 6, 3) := by decide +kernel
theorem dX10_greedy_10 : decode cX10_greedy 10 = .ok (.bipush (-2), 2) := by decide +kernel
theorem dX10_greedy_12 : decode cX10_greedy 12 = .ok (.ireturn, 1) := by decide +kernel
theorem dX10_greedy_13 : decode cX10_greedy 13 = .ok (.iconst 0, 1) := by decide +kernel
theorem dX10_greedy_14 : decode cX10_greedy 14 = .ok (.istore_n 2, 1) := by decide +kernel
theorem dX10_greedy_15 : decode cX10_greedy 15 = .ok (.iconst 0, 1) := by decide +kernel
theorem dX10_greedy_16 : decode cX10_greedy 16 = .ok (.istore_n 3, 1) := by decide +kernel
theorem dX10_greedy_17 : decode cX10_greedy 17 = .ok (.iload_n 3, 1) := by decide +kernel
theorem dX10_greedy_18 : decode cX10_greedy 18 = .ok (.aload_n 0, 1) := by decide +kernel
theorem dX10_greedy_19 : decode cX10_greedy 19 = .ok (.getfield 75, 3) := by decide +kernel
theorem dX10_greedy_22 : decode cX10_greedy 22 = .ok (.if_icmp .ge 36, 3) := by decide +kernel
theorem dX10_greedy_25 : decode cX10_greedy 25 = .ok (.iload_n 2, 1) := by decide +kernel
theorem dX10_greedy_26 : decode cX10_greedy 26 = .ok (.iconst 1, 1) := by decide +kernel
theorem dX10_greedy_27 : decode cX10_greedy 27 = .ok (.aload_n 0, 1) := by decide +kernel
theorem dX10_greedy_28 : decode cX10_greedy 28 = .ok (.iload_n 3, 1) := by decide +kernel
theorem dX10_greedy_29 : decode cX10_greedy 29 = .ok (.invokevirtual 181, 3) := by decide +kernel
theorem dX10_greedy_32 : decode cX10_greedy 32 = .ok (.ishl, 1) := by decide +kernel
theorem dX10_greedy_33 : decode cX10_greedy 33 = .ok (.ior, 1) := by decide +kernel
theorem dX10_greedy_34 : decode cX10_greedy 34 = .ok (.istore 4, 2) := by decide +kernel
theorem dX10_greedy_36 : decode cX10_greedy 36 = .ok (.aload_n 0, 1) := by decide +kernel
theorem dX10_greedy_37 : decode cX10_greedy 37 = .ok (.iload 4, 2) := by decide +kernel
theorem dX10_greedy_39 : decode cX10_greedy 39 = .ok (.invokevirtual 170, 3) := by decide +kernel
theorem dX10_greedy_42 : decode cX10_greedy 42 = .ok (.ifCond .eq 8, 3) := by decide +kernel
theorem dX10_greedy_45 : decode cX10_greedy 45 = .ok (.iload 4, 2) := by decide +kernel
theorem dX10_greedy_47 : decode cX10_greedy 47 = .ok (.goto 4, 3) := by decide +kernel
theorem dX10_greedy_50 : decode cX10_greedy 50 = .ok (.iload_n 2, 1) := by decide +kernel
theorem dX10_greedy_51 : decode cX10_greedy 51 = .ok (.istore_n 2, 1) := by decide +kernel
theorem dX10_greedy_52 : decode cX10_greedy 52 = .ok (.iinc 3 1, 3) := by decide +kernel
theorem dX10_greedy_55 : decode cX10_greedy 55 = .ok (.goto (-38), 3) := by decide +kernel
theorem dX10_greedy_58 : decode cX10_greedy 58 = .ok (.iload_n 1, 1) := by decide +kernel
theorem dX10_greedy_59 : decode cX10_greedy 59 = .ok (.ifCond .ne 7, 3) := by decide +kernel
theorem dX10_greedy_62 : decode cX10_greedy 62 = .ok (.iload_n 2, 1) := by decide +kernel
theorem dX10_greedy_63 : decode cX10_greedy 63 = .ok (.goto 8, 3) := by decide +kernel
theorem dX10_greedy_66 : decode cX10_greedy 66 = .ok (.aload_n 0, 1) := by decide +kernel
theorem dX10_greedy_67 : decode cX10_greedy 67 = .ok (.iload_n 2, 1) := by decide +kernel
theorem dX10_greedy_68 : decode cX10_greedy 68 = .ok (.invokevirtual 178, 3) := by decide +kernel
theorem dX10_greedy_71 : decode cX10_greedy 71 = .ok (.ireturn, 1) := by decide +kernel
theorem dX10_bettered_0 : decode cX10_bettered 0 = .ok (.iconst 0, 1) := by decide +kernel
theorem dX10_bettered_1 : decode cX10_bettered 1 = .ok (.istore_n 2, 1) := by decide +kernel
theorem dX10_bettered_2 : decode cX10_bettered 2 = .ok (.iload_n 2, 1) := by decide +kernel
theorem dX10_bettered_3 : decode cX10_bettered 3 = .ok (.aload_n 0, 1) := by decide +kernel
theorem dX10_bettered_4 : decode cX10_bettered 4 = .ok (.getfield 75, 3) := by decide +kernel
theorem dX10_bettered_7 : decode cX10_bettered 7 = .ok (.if_icmp .ge 35, 3) := by decide +kernel
theorem dX10_bettered_10 : decode cX10_bettered 10 = .ok (.iload_n 1, 1) := by decide +kernel
theorem dX10_bettered_11 : decode cX10_bettered 11 = .ok (.iload_n 2, 1) := by decide +kernel
theorem dX10_bettered_12 : decode cX10_bettered 12 = .ok (.invokestatic 149, 3) := by decide +kernel
theorem dX10_bettered_15 : decode cX10_bettered 15 = .ok (.ifCond .ne 21, 3) := by decide +kernel
theorem dX10_bettered_18 : decode cX10_bettered 18 = .ok (.aload_n 0, 1) := by decide +kernel
theorem dX10_bettered_19 : decode cX10_bettered 19 = .ok (.iload_n 1, 1) := by decide +kernel
theorem dX10_bettered_20 : decode cX10_bettered 20 = .ok (.iconst 1, 1) := by decide +kernel
theorem dX10_bettered_21 : decode cX10_bettered 21 = .ok (.iload_n 2, 1) := by decide +kernel
theorem dX10_bettered_22 : decode cX10_bettered 22 = .ok (.ishl, 1) := by decide +kernel
theorem dX10_bettered_23 : decode cX10_bettered 23 = .ok (.ior, 1) := by decide +kernel
theorem dX10_bettered_24 : decode cX10_bettered 24 = .ok (.invokevirtual 170, 3) := by decide +kernel
theorem dX10_bettered_27 : decode cX10_bettered 27 = .ok (.ifCond .eq 9, 3) := by decide +kernel
theorem dX10_bettered_30 : decode cX10_bettered 30 = .ok (.iload_n 1, 1) := by decide +kernel
theorem dX10_bettered_31 : decode cX10_bettered 31 = .ok (.iconst 1, 1) := by decide +kernel
theorem dX10_bettered_32 : decode cX10_bettered 32 = .ok (.iload_n 2, 1) := by decide +kernel
theorem dX10_bettered_33 : decode cX10_bettered 33 = .ok (.ishl, 1) := by decide +kernel
theorem dX10_bettered_34 : decode cX10_bettered 34 = .ok (.ior, 1) := by decide +kernel
theorem dX10_bettered_35 : decode cX10_bettered 35 = .ok (.ireturn, 1) := by decide +kernel
theorem dX10_bettered_36 : decode cX10_bettered 36 = .ok (.iinc 2 1, 3) := by decide +kernel
theorem dX10_bettered_39 : decode cX10_bettered 39 = .ok (.goto (-37), 3) := by decide +kernel
theorem dX10_bettered_42 : decode cX10_bettered 42 = .ok (.iconst 0, 1) := by decide +kernel
theorem dX10_bettered_43 : decode cX10_bettered 43 = .ok (.istore_n 2, 1) := by decide +kernel
theorem dX10_bettered_44 : decode cX10_bettered 44 = .ok (.iload_n 2, 1) := by decide +kernel
theorem dX10_bettered_45 : decode cX10_bettered 45 = .ok (.aload_n 0, 1) := by decide +kernel
theorem dX10_bettered_46 : decode cX10_bettered 46 = .ok (.getfield 75, 3) := by decide +kernel
theorem dX10_bettered_49 : decode cX10_bettered 49 = .ok (.if_icmp .ge 100, 3) := by decide +kernel
theorem dX10_bettered_52 : decode cX10_bettered 52 = .ok (.iconst 0, 1) := by decide +kernel
theorem dX10_bettered_53 : decode cX10_bettered 53 = .ok (.istore_n 3, 1) := by decide +kernel
theorem dX10_bettered_54 : decode cX10_bettered 54 = .ok (.iload_n 3, 1) := by decide +kernel
theorem dX10_bettered_55 : decode cX10_bettered 55 = .ok (.aload_n 0, 1) := by decide +kernel
theorem dX10_bettered_56 : decode cX10_bettered 56 = .ok (.getfield 75, 3) := by decide +kernel
theorem dX10_bettered_59 : decode cX10_bettered 59 = .ok (.if_icmp .ge 84, 3) := by decide +kernel
theorem dX10_bettered_62 : decode cX10_bettered 62 = .ok (.iload_n 1, 1) := by decide +kernel
theorem dX10_bettered_63 : decode cX10_bettered 63 = .ok (.iload_n 2, 1) := by decide +kernel
theorem dX10_bettered_64 : decode cX10_bettered 64 = .ok (.invokestatic 149, 3) := by decide +kernel
theorem dX10_bettered_67 : decode cX10_bettered 67 = .ok (.ifCond .eq 76, 3) := by decide +kernel
theorem dX10_bettered_70 : decode cX10_bettered 70 = .ok (.iload_n 3, 1) := by decide +kernel
theorem dX10_bettered_71 : decode cX10_bettered 71 = .ok (.iconst 1, 1) := by decide +kernel
theorem dX10_bettered_72 : decode cX10_bettered 72 = .ok (.iadd, 1) := by decide +kernel
theorem dX10_bettered_73 : decode cX10_bettered 73 = .ok (.istore 4, 2) := by decide +kernel
theorem dX10_bettered_75 : decode cX10_bettered 75 = .ok (.iload 4, 2) := by decide +kernel
theorem dX10_bettered_77 : decode cX10_bettered 77 = .ok (.aload_n 0, 1) := by decide +kernel
theorem dX10_bettered_78 : decode cX10_bettered 78 = .ok (.getfield 75, 3) := by decide +kernel
theorem dX10_bettered_81 : decode cX10_bettered 81 = .ok (.if_icmp .ge 56, 3) := by decide +kernel
theorem dX10_bettered_84 : decode cX10_bettered 84 = .ok (.iload_n 1, 1) := by decide +kernel
theorem dX10_bettered_85 : decode cX10_bettered 85 = .ok (.iload_n 3, 1) := by decide +kernel
theorem dX10_bettered_86 : decode cX10_bettered 86 = .ok (.invokestatic 149, 3) := by decide +kernel
theorem dX10_bettered_89 : decode cX10_bettered 89 = .ok (.ifCond .ne 48, 3) := by decide +kernel
theorem dX10_bettered_92 : decode cX10_bettered 92 = .ok (.iload_n 1, 1) := by decide +kernel
theorem dX10_bettered_93 : decode cX10_bettered 93 = .ok (.iconst 1, 1) := by decide +kernel
theorem dX10_bettered_94 : decode cX10_bettered 94 = .ok (.iload_n 2, 1) := by decide +kernel
theorem dX10_bettered_95 : decode cX10_bettered 95 = .ok (.ishl, 1) := by decide +kernel
theorem dX10_bettered_96 : decode cX10_bettered 96 = .ok (.iconst (-1), 1) := by decide +kernel
theorem dX10_bettered_97 : decode cX10_bettered 97 = .ok (.ixor, 1) := by decide +kernel
theorem dX10_bettered_98 : decode cX10_bettered 98 = .ok (.iand, 1) := by decide +kernel
theorem dX10_bettered_99 : decode cX10_bettered 99 = .ok (.iconst 1, 1) := by decide +kernel
theorem dX10_bettered_100 : decode cX10_bettered 100 = .ok (.iload_n 3, 1) := by decide +kernel
theorem dX10_bettered_101 : decode cX10_bettered 101 = .ok (.ishl, 1) := by decide +kernel
theorem dX10_bettered_102 : decode cX10_bettered 102 = .ok (.ior, 1) := by decide +kernel
theorem dX10_bettered_103 : decode cX10_bettered 103 = .ok (.iconst 1, 1) := by decide +kernel
theorem dX10_bettered_104 : decode cX10_bettered 104 = .ok (.iload 4, 2) := by decide +kernel
theorem dX10_bettered_106 : decode cX10_bettered 106 = .ok (.ishl, 1) := by decide +kernel
theorem dX10_bettered_107 : decode cX10_bettered 107 = .ok (.ior, 1) := by decide +kernel
theorem dX10_bettered_108 : decode cX10_bettered 108 = .ok (.istore 5, 2) := by decide +kernel
theorem dX10_bettered_110 : decode cX10_bettered 110 = .ok (.iload_n 1, 1) := by decide +kernel
theorem dX10_bettered_111 : decode cX10_bettered 111 = .ok (.iload 4, 2) := by decide +kernel
theorem dX10_bettered_113 : decode cX10_bettered 113 = .ok (.invokestatic 149, 3) := by decide +kernel
theorem dX10_bettered_116 : decode cX10_bettered 116 = .ok (.ifCond .ne 15, 3) := by decide +kernel
theorem dX10_bettered_119 : decode cX10_bettered 119 = .ok (.aload_n 0, 1) := by decide +kernel
theorem dX10_bettered_120 : decode cX10_bettered 120 = .ok (.iload 5, 2) := by decide +kernel
theorem dX10_bettered_122 : decode cX10_bettered 122 = .ok (.invokevirtual 170, 3) := by decide +kernel
theorem dX10_bettered_125 : decode cX10_bettered 125 = .ok (.ifCond .eq 6, 3) := by decide +kernel
theorem dX10_bettered_128 : decode cX10_bettered 128 = .ok (.iload 5, 2) := by decide +kernel
theorem dX10_bettered_130 : decode cX10_bettered 130 = .ok (.ireturn, 1) := by decide +kernel
theorem dX10_bettered_131 : decode cX10_bettered 131 = .ok (.iinc 4 1, 3) := by decide +kernel
theorem dX10_bettered_134 : decode cX10_bettered 134 = .ok (.goto (-59), 3) := by decide +kernel
theorem dX10_bettered_137 : decode cX10_bettered 137 = .ok (.iinc 3 1, 3) := by decide +kernel
theorem dX10_bettered_140 : decode cX10_bettered 140 = .ok (.goto (-86), 3) := by decide +kernel
theorem dX10_bettered_143 : decode cX10_bettered 143 = .ok (.iinc 2 1, 3) := by decide +kernel
theorem dX10_bettered_146 : decode cX10_bettered 146 = .ok (.goto (-102), 3) := by decide +kernel
theorem dX10_bettered_149 : decode cX10_bettered 149 = .ok (.iload_n 1, 1) := by decide +kernel
theorem dX10_bettered_150 : decode cX10_bettered 150 = .ok (.ireturn, 1) := by decide +kernel
theorem dX10_better_0 : decode cX10_better 0 = .ok (.aload_n 0, 1) := by decide +kernel
theorem dX10_better_1 : decode cX10_better 1 = .ok (.iload_n 1, 1) := by decide +kernel
theorem dX10_better_2 : decode cX10_better 2 = .ok (.invokevirtual 167, 3) := by decide +kernel
theorem dX10_better_5 : decode cX10_better 5 = .ok (.ifCond .ne 6, 3) := by decide +kernel
theorem dX10_better_8 : decode cX10_better 8 = .ok (.bipush (-2), 2) := by decide +kernel
theorem dX10_better_10 : decode cX10_better 10 = .ok (.ireturn, 1) := by decide +kernel
theorem dX10_better_11 : decode cX10_better 11 = .ok (.aload_n 0, 1) := by decide +kernel
theorem dX10_better_12 : decode cX10_better 12 = .ok (.iload_n 1, 1) := by decide +kernel
theorem dX10_better_13 : decode cX10_better 13 = .ok (.invokevirtual 170, 3) := by decide +kernel
theorem dX10_better_16 : decode cX10_better 16 = .ok (.ifCond .ne 6, 3) := by decide +kernel
theorem dX10_better_19 : decode cX10_better 19 = .ok (.bipush (-3), 2) := by decide +kernel
theorem dX10_better_21 : decode cX10_better 21 = .ok (.ireturn, 1) := by decide +kernel
theorem dX10_better_22 : decode cX10_better 22 = .ok (.iconst (-1), 1) := by decide +kernel
theorem dX10_better_23 : decode cX10_better 23 = .ok (.istore_n 2, 1) := by decide +kernel
theorem dX10_better_24 : decode cX10_better 24 = .ok (.iload_n 1, 1) := by decide +kernel
theorem dX10_better_25 : decode cX10_better 25 = .ok (.istore_n 3, 1) := by decide +kernel
theorem dX10_better_26 : decode cX10_better 26 = .ok (.iload_n 2, 1) := by decide +kernel
theorem dX10_better_27 : decode cX10_better 27 = .ok (.iload_n 3, 1) := by decide +kernel
theorem dX10_better_28 : decode cX10_better 28 = .ok (.if_icmp .eq 14, 3) := by decide +kernel
theorem dX10_better_31 : decode cX10_better 31 = .ok (.iload_n 3, 1) := by decide +kernel
theorem dX10_better_32 : decode cX10_better 32 = .ok (.istore_n 2, 1) := by decide +kernel
theorem dX10_better_33 : decode cX10_better 33 = .ok (.aload_n 0, 1) := by decide +kernel
theorem dX10_better_34 : decode cX10_better 34 = .ok (.iload_n 3, 1) := by decide +kernel
theorem dX10_better_35 : decode cX10_better 35 = .ok (.invokevirtual 184, 3) := by decide +kernel
theorem dX10_better_38 : decode cX10_better 38 = .ok (.istore_n 3, 1) := by decide +kernel
theorem dX10_better_39 : decode cX10_better 39 = .ok (.goto (-13), 3) := by decide +kernel
theorem dX10_better_42 : decode cX10_better 42 = .ok (.iload_n 3, 1) := by decide +kernel
theorem dX10_better_43 : decode cX10_better 43 = .ok (.ireturn, 1) := by decide +kernel
theorem dX10_tells_0 : decode cX10_tells 0 = .ok (.iload_n 1, 1) := by decide +kernel
theorem dX10_tells_1 : decode cX10_tells 1 = .ok (.invokestatic 187, 3) := by decide +kernel
theorem dX10_tells_4 : decode cX10_tells 4 = .ok (.ifCond .ne 6, 3) := by decide +kernel
theorem dX10_tells_7 : decode cX10_tells 7 = .ok (.bipush (-2), 2) := by decide +kernel
theorem dX10_tells_9 : decode cX10_tells 9 = .ok (.ireturn, 1) := by decide +kernel
theorem dX10_tells_10 : decode cX10_tells 10 = .ok (.aload_n 0, 1) := by decide +kernel
theorem dX10_tells_11 : decode cX10_tells 11 = .ok (.getfield 60, 3) := by decide +kernel
theorem dX10_tells_14 : decode cX10_tells 14 = .ok (.iload_n 1, 1) := by decide +kernel
theorem dX10_tells_15 : decode cX10_tells 15 = .ok (.iaload, 1) := by decide +kernel
theorem dX10_tells_16 : decode cX10_tells 16 = .ok (.ifCond .ge 6, 3) := by decide +kernel
theorem dX10_tells_19 : decode cX10_tells 19 = .ok (.bipush (-11), 2) := by decide +kernel
theorem dX10_tells_21 : decode cX10_tells 21 = .ok (.ireturn, 1) := by decide +kernel
theorem dX10_tells_22 : decode cX10_tells 22 = .ok (.iconst 0, 1) := by decide +kernel
theorem dX10_tells_23 : decode cX10_tells 23 = .ok (.istore_n 2, 1) := by decide +kernel
theorem dX10_tells_24 : decode cX10_tells 24 = .ok (.iload_n 2, 1) := by decide +kernel
theorem dX10_tells_25 : decode cX10_tells 25 = .ok (.bipush 10, 2) := by decide +kernel
theorem dX10_tells_27 : decode cX10_tells 27 = .ok (.if_icmp .ge 40, 3) := by decide +kernel
theorem dX10_tells_30 : decode cX10_tells 30 = .ok (.aload_n 0, 1) := by decide +kernel
theorem dX10_tells_31 : decode cX10_tells 31 = .ok (.getfield 36, 3) := by decide +kernel
theorem dX10_tells_34 : decode cX10_tells 34 = .ok (.iload_n 2, 1) := by decide +kernel
theorem dX10_tells_35 : decode cX10_tells 35 = .ok (.iload_n 2, 1) := by decide +kernel
theorem dX10_tells_36 : decode cX10_tells 36 = .ok (.aload_n 0, 1) := by decide +kernel
theorem dX10_tells_37 : decode cX10_tells 37 = .ok (.getfield 63, 3) := by decide +kernel
theorem dX10_tells_40 : decode cX10_tells 40 = .ok (.iload_n 1, 1) := by decide +kernel
theorem dX10_tells_41 : decode cX10_tells 41 = .ok (.iaload, 1) := by decide +kernel
theorem dX10_tells_42 : decode cX10_tells 42 = .ok (.if_icmp .ge 17, 3) := by decide +kernel
theorem dX10_tells_45 : decode cX10_tells 45 = .ok (.aload_n 0, 1) := by decide +kernel
theorem dX10_tells_46 : decode cX10_tells 46 = .ok (.getfield 66, 3) := by decide +kernel
theorem dX10_tells_49 : decode cX10_tells 49 = .ok (.bipush 30, 2) := by decide +kernel
theorem dX10_tells_51 : decode cX10_tells 51 = .ok (.iload_n 1, 1) := by decide +kernel
theorem dX10_tells_52 : decode cX10_tells 52 = .ok (.imul, 1) := by decide +kernel
theorem dX10_tells_53 : decode cX10_tells 53 = .ok (.iload_n 2, 1) := by decide +kernel
theorem dX10_tells_54 : decode cX10_tells 54 = .ok (.iadd, 1) := by decide +kernel
theorem dX10_tells_55 : decode cX10_tells 55 = .ok (.laload, 1) := by decide +kernel
theorem dX10_tells_56 : decode cX10_tells 56 = .ok (.goto 4, 3) := by decide +kernel
theorem dX10_tells_59 : decode cX10_tells 59 = .ok (.lconst 0, 1) := by decide +kernel
theorem dX10_tells_60 : decode cX10_tells 60 = .ok (.lastore, 1) := by decide +kernel
theorem dX10_tells_61 : decode cX10_tells 61 = .ok (.iinc 2 1, 3) := by decide +kernel
theorem dX10_tells_64 : decode cX10_tells 64 = .ok (.goto (-40), 3) := by decide +kernel
theorem dX10_tells_67 : decode cX10_tells 67 = .ok (.iconst 0, 1) := by decide +kernel
theorem dX10_tells_68 : decode cX10_tells 68 = .ok (.ireturn, 1) := by decide +kernel
theorem dX10_difference_0 : decode cX10_difference 0 = .ok (.aload_n 0, 1) := by decide +kernel
theorem dX10_difference_1 : decode cX10_difference 1 = .ok (.iload_n 1, 1) := by decide +kernel
theorem dX10_difference_2 : decode cX10_difference 2 = .ok (.iconst 0, 1) := by decide +kernel
theorem dX10_difference_3 : decode cX10_difference 3 = .ok (.iload_n 2, 1) := by decide +kernel
theorem dX10_difference_4 : decode cX10_difference 4 = .ok (.invokevirtual 121, 3) := by decide +kernel
theorem dX10_difference_7 : decode cX10_difference 7 = .ok (.aload_n 0, 1) := by decide +kernel
theorem dX10_difference_8 : decode cX10_difference 8 = .ok (.iload_n 1, 1) := by decide +kernel
theorem dX10_difference_9 : decode cX10_difference 9 = .ok (.iconst 1, 1) := by decide +kernel
theorem dX10_difference_10 : decode cX10_difference 10 = .ok (.iload_n 3, 1) := by decide +kernel
theorem dX10_difference_11 : decode cX10_difference 11 = .ok (.invokevirtual 121, 3) := by decide +kernel
theorem dX10_difference_14 : decode cX10_difference 14 = .ok (.imul, 1) := by decide +kernel
theorem dX10_difference_15 : decode cX10_difference 15 = .ok (.aload_n 0, 1) := by decide +kernel
theorem dX10_difference_16 : decode cX10_difference 16 = .ok (.iload_n 1, 1) := by decide +kernel
theorem dX10_difference_17 : decode cX10_difference 17 = .ok (.iconst 0, 1) := by decide +kernel
theorem dX10_difference_18 : decode cX10_difference 18 = .ok (.iload_n 3, 1) := by decide +kernel
theorem dX10_difference_19 : decode cX10_difference 19 = .ok (.invokevirtual 121, 3) := by decide +kernel
theorem dX10_difference_22 : decode cX10_difference 22 = .ok (.aload_n 0, 1) := by decide +kernel
theorem dX10_difference_23 : decode cX10_difference 23 = .ok (.iload_n 1, 1) := by decide +kernel
theorem dX10_difference_24 : decode cX10_difference 24 = .ok (.iconst 1, 1) := by decide +kernel
theorem dX10_difference_25 : decode cX10_difference 25 = .ok (.iload_n 2, 1) := by decide +kernel
theorem dX10_difference_26 : decode cX10_difference 26 = .ok (.invokevirtual 121, 3) := by decide +kernel
theorem dX10_difference_29 : decode cX10_difference 29 = .ok (.imul, 1) := by decide +kernel
theorem dX10_difference_30 : decode cX10_difference 30 = .ok (.isub, 1) := by decide +kernel
theorem dX10_difference_31 : decode cX10_difference 31 = .ok (.ireturn, 1) := by decide +kernel
theorem dX10_tableAt_0 : decode cX10_tableAt 0 = .ok (.iconst 0, 1) := by decide +kernel
theorem dX10_tableAt_1 : decode cX10_tableAt 1 = .ok (.istore_n 3, 1) := by decide +kernel
theorem dX10_tableAt_2 : decode cX10_tableAt 2 = .ok (.iconst 0, 1) := by decide +kernel
theorem dX10_tableAt_3 : decode cX10_tableAt 3 = .ok (.istore 4, 2) := by decide +kernel
theorem dX10_tableAt_5 : decode cX10_tableAt 5 = .ok (.iload 4, 2) := by decide +kernel
theorem dX10_tableAt_7 : decode cX10_tableAt 7 = .ok (.aload_n 0, 1) := by decide +kernel
theorem dX10_tableAt_8 : decode cX10_tableAt 8 = .ok (.getfield 75, 3) := by decide +kernel
theorem dX10_tableAt_11 : decode cX10_tableAt 11 = .ok (.if_icmp .ge 39, 3) := by decide +kernel
theorem dX10_tableAt_14 : decode cX10_tableAt 14 = .ok (.aload_n 0, 1) := by decide +kernel
theorem dX10_tableAt_15 : decode cX10_tableAt 15 = .ok (.iload_n 3, 1) := by decide +kernel
theorem dX10_tableAt_16 : decode cX10_tableAt 16 = .ok (.i2l, 1) := by decide +kernel
theorem dX10_tableAt_17 : decode cX10_tableAt 17 = .ok (.aload_n 0, 1) := by decide +kernel
theorem dX10_tableAt_18 : decode cX10_tableAt 18 = .ok (.aload_n 0, 1) := by decide +kernel
theorem dX10_tableAt_19 : decode cX10_tableAt 19 = .ok (.getfield 36, 3) := by decide +kernel
theorem dX10_tableAt_22 : decode cX10_tableAt 22 = .ok (.iload 4, 2) := by decide +kernel
theorem dX10_tableAt_24 : decode cX10_tableAt 24 = .ok (.laload, 1) := by decide +kernel
theorem dX10_tableAt_25 : decode cX10_tableAt 25 = .ok (.invokevirtual 82, 3) := by decide +kernel
theorem dX10_tableAt_28 : decode cX10_tableAt 28 = .ok (.i2l, 1) := by decide +kernel
theorem dX10_tableAt_29 : decode cX10_tableAt 29 = .ok (.aload_n 0, 1) := by decide +kernel
theorem dX10_tableAt_30 : decode cX10_tableAt 30 = .ok (.iload 4, 2) := by decide +kernel
theorem dX10_tableAt_32 : decode cX10_tableAt 32 = .ok (.iload_n 1, 1) := by decide +kernel
theorem dX10_tableAt_33 : decode cX10_tableAt 33 = .ok (.iload_n 2, 1) := by decide +kernel
theorem dX10_tableAt_34 : decode cX10_tableAt 34 = .ok (.invokevirtual 190, 3) := by decide +kernel
theorem dX10_tableAt_37 : decode cX10_tableAt 37 = .ok (.i2l, 1) := by decide +kernel
theorem dX10_tableAt_38 : decode cX10_tableAt 38 = .ok (.lmul, 1) := by decide +kernel
theorem dX10_tableAt_39 : decode cX10_tableAt 39 = .ok (.ladd, 1) := by decide +kernel
theorem dX10_tableAt_40 : decode cX10_tableAt 40 = .ok (.invokevirtual 82, 3) := by decide +kernel
theorem dX10_tableAt_43 : decode cX10_tableAt 43 = .ok (.istore_n 3, 1) := by decide +kernel
theorem dX10_tableAt_44 : decode cX10_tableAt 44 = .ok (.iinc 4 1, 3) := by decide +kernel
theorem dX10_tableAt_47 : decode cX10_tableAt 47 = .ok (.goto (-42), 3) := by decide +kernel
theorem dX10_tableAt_50 : decode cX10_tableAt 50 = .ok (.iload_n 3, 1) := by decide +kernel
theorem dX10_tableAt_51 : decode cX10_tableAt 51 = .ok (.ireturn, 1) := by decide +kernel
theorem dX10_table_0 : decode cX10_table 0 = .ok (.iload_n 1, 1) := by decide +kernel
theorem dX10_table_1 : decode cX10_table 1 = .ok (.invokestatic 187, 3) := by decide +kernel
theorem dX10_table_4 : decode cX10_table 4 = .ok (.ifCond .eq 35, 3) := by decide +kernel
theorem dX10_table_7 : decode cX10_table 7 = .ok (.iload_n 2, 1) := by decide +kernel
theorem dX10_table_8 : decode cX10_table 8 = .ok (.i2l, 1) := by decide +kernel
theorem dX10_table_9 : decode cX10_table 9 = .ok (.lconst 0, 1) := by decide +kernel
theorem dX10_table_10 : decode cX10_table 10 = .ok (.aload_n 0, 1) := by decide +kernel
theorem dX10_table_11 : decode cX10_table 11 = .ok (.getfield 13, 3) := by decide +kernel
theorem dX10_table_14 : decode cX10_table 14 = .ok (.iconst 1, 1) := by decide +kernel
theorem dX10_table_15 : decode cX10_table 15 = .ok (.isub, 1) := by decide +kernel
theorem dX10_table_16 : decode cX10_table 16 = .ok (.i2l, 1) := by decide +kernel
theorem dX10_table_17 : decode cX10_table 17 = .ok (.invokestatic 78, 3) := by decide +kernel
theorem dX10_table_20 : decode cX10_table 20 = .ok (.ifCond .eq 19, 3) := by decide +kernel
theorem dX10_table_23 : decode cX10_table 23 = .ok (.iload_n 3, 1) := by decide +kernel
theorem dX10_table_24 : decode cX10_table 24 = .ok (.i2l, 1) := by decide +kernel
theorem dX10_table_25 : decode cX10_table 25 = .ok (.lconst 0, 1) := by decide +kernel
theorem dX10_table_26 : decode cX10_table 26 = .ok (.aload_n 0, 1) := by decide +kernel
theorem dX10_table_27 : decode cX10_table 27 = .ok (.getfield 13, 3) := by decide +kernel
theorem dX10_table_30 : decode cX10_table 30 = .ok (.iconst 1, 1) := by decide +kernel
theorem dX10_table_31 : decode cX10_table 31 = .ok (.isub, 1) := by decide +kernel
theorem dX10_table_32 : decode cX10_table 32 = .ok (.i2l, 1) := by decide +kernel
theorem dX10_table_33 : decode cX10_table 33 = .ok (.invokestatic 78, 3) := by decide +kernel
theorem dX10_table_36 : decode cX10_table 36 = .ok (.ifCond .ne 6, 3) := by decide +kernel
theorem dX10_table_39 : decode cX10_table 39 = .ok (.bipush (-2), 2) := by decide +kernel
theorem dX10_table_41 : decode cX10_table 41 = .ok (.ireturn, 1) := by decide +kernel
theorem dX10_table_42 : decode cX10_table 42 = .ok (.aload_n 0, 1) := by decide +kernel
theorem dX10_table_43 : decode cX10_table 43 = .ok (.iload_n 1, 1) := by decide +kernel
theorem dX10_table_44 : decode cX10_table 44 = .ok (.invokevirtual 193, 3) := by decide +kernel
theorem dX10_table_47 : decode cX10_table 47 = .ok (.istore 4, 2) := by decide +kernel
theorem dX10_table_49 : decode cX10_table 49 = .ok (.iload 4, 2) := by decide +kernel
theorem dX10_table_51 : decode cX10_table 51 = .ok (.ifCond .eq 8, 3) := by decide +kernel
theorem dX10_table_54 : decode cX10_table 54 = .ok (.iload 4, 2) := by decide +kernel
theorem dX10_table_56 : decode cX10_table 56 = .ok (.goto 9, 3) := by decide +kernel
theorem dX10_table_59 : decode cX10_table 59 = .ok (.aload_n 0, 1) := by decide +kernel
theorem dX10_table_60 : decode cX10_table 60 = .ok (.iload_n 2, 1) := by decide +kernel
theorem dX10_table_61 : decode cX10_table 61 = .ok (.iload_n 3, 1) := by decide +kernel
theorem dX10_table_62 : decode cX10_table 62 = .ok (.invokevirtual 196, 3) := by decide +kernel
theorem dX10_table_65 : decode cX10_table 65 = .ok (.ireturn, 1) := by decide +kernel
theorem dX10_halfOf_0 : decode cX10_halfOf 0 = .ok (.aload_n 0, 1) := by decide +kernel
theorem dX10_halfOf_1 : decode cX10_halfOf 1 = .ok (.aload_n 0, 1) := by decide +kernel
theorem dX10_halfOf_2 : decode cX10_halfOf 2 = .ok (.getfield 13, 3) := by decide +kernel
theorem dX10_halfOf_5 : decode cX10_halfOf 5 = .ok (.putfield 138, 3) := by decide +kernel
theorem dX10_halfOf_8 : decode cX10_halfOf 8 = .ok (.iconst 0, 1) := by decide +kernel
theorem dX10_halfOf_9 : decode cX10_halfOf 9 = .ok (.istore_n 1, 1) := by decide +kernel
theorem dX10_halfOf_10 : decode cX10_halfOf 10 = .ok (.iload_n 1, 1) := by decide +kernel
theorem dX10_halfOf_11 : decode cX10_halfOf 11 = .ok (.aload_n 0, 1) := by decide +kernel
theorem dX10_halfOf_12 : decode cX10_halfOf 12 = .ok (.getfield 13, 3) := by decide +kernel
theorem dX10_halfOf_15 : decode cX10_halfOf 15 = .ok (.if_icmp .ge 42, 3) := by decide +kernel
theorem dX10_halfOf_18 : decode cX10_halfOf 18 = .ok (.iconst 0, 1) := by decide +kernel
theorem dX10_halfOf_19 : decode cX10_halfOf 19 = .ok (.istore_n 2, 1) := by decide +kernel
theorem dX10_halfOf_20 : decode cX10_halfOf 20 = .ok (.iload_n 2, 1) := by decide +kernel
theorem dX10_halfOf_21 : decode cX10_halfOf 21 = .ok (.aload_n 0, 1) := by decide +kernel
theorem dX10_halfOf_22 : decode cX10_halfOf 22 = .ok (.getfield 13, 3) := by decide +kernel
theorem dX10_halfOf_25 : decode cX10_halfOf 25 = .ok (.if_icmp .ge 26, 3) := by decide +kernel
theorem dX10_halfOf_28 : decode cX10_halfOf 28 = .ok (.aload_n 0, 1) := by decide +kernel
theorem dX10_halfOf_29 : decode cX10_halfOf 29 = .ok (.getfield 33, 3) := by decide +kernel
theorem dX10_halfOf_32 : decode cX10_halfOf 32 = .ok (.bipush 6, 2) := by decide +kernel
theorem dX10_halfOf_34 : decode cX10_halfOf 34 = .ok (.iload_n 1, 1) := by decide +kernel
theorem dX10_halfOf_35 : decode cX10_halfOf 35 = .ok (.imul, 1) := by decide +kernel
theorem dX10_halfOf_36 : decode cX10_halfOf 36 = .ok (.iload_n 2, 1) := by decide +kernel
theorem dX10_halfOf_37 : decode cX10_halfOf 37 = .ok (.iadd, 1) := by decide +kernel
theorem dX10_halfOf_38 : decode cX10_halfOf 38 = .ok (.aload_n 0, 1) := by decide +kernel
theorem dX10_halfOf_39 : decode cX10_halfOf 39 = .ok (.iload_n 1, 1) := by decide +kernel
theorem dX10_halfOf_40 : decode cX10_halfOf 40 = .ok (.iload_n 2, 1) := by decide +kernel
theorem dX10_halfOf_41 : decode cX10_halfOf 41 = .ok (.invokevirtual 196, 3) := by decide +kernel
theorem dX10_halfOf_44 : decode cX10_halfOf 44 = .ok (.iastore, 1) := by decide +kernel
theorem dX10_halfOf_45 : decode cX10_halfOf 45 = .ok (.iinc 2 1, 3) := by decide +kernel
theorem dX10_halfOf_48 : decode cX10_halfOf 48 = .ok (.goto (-28), 3) := by decide +kernel
theorem dX10_halfOf_51 : decode cX10_halfOf 51 = .ok (.iinc 1 1, 3) := by decide +kernel
theorem dX10_halfOf_54 : decode cX10_halfOf 54 = .ok (.goto (-44), 3) := by decide +kernel
theorem dX10_halfOf_57 : decode cX10_halfOf 57 = .ok (.aload_n 0, 1) := by decide +kernel
theorem dX10_halfOf_58 : decode cX10_halfOf 58 = .ok (.invokevirtual 160, 3) := by decide +kernel
theorem dX10_halfOf_61 : decode cX10_halfOf 61 = .ok (.iconst 2, 1) := by decide +kernel
theorem dX10_halfOf_62 : decode cX10_halfOf 62 = .ok (.idiv, 1) := by decide +kernel
theorem dX10_halfOf_63 : decode cX10_halfOf 63 = .ok (.ireturn, 1) := by decide +kernel
theorem dX10_half_0 : decode cX10_half 0 = .ok (.aload_n 0, 1) := by decide +kernel
theorem dX10_half_1 : decode cX10_half 1 = .ok (.iload_n 1, 1) := by decide +kernel
theorem dX10_half_2 : decode cX10_half 2 = .ok (.invokevirtual 193, 3) := by decide +kernel
theorem dX10_half_5 : decode cX10_half 5 = .ok (.istore_n 2, 1) := by decide +kernel
theorem dX10_half_6 : decode cX10_half 6 = .ok (.iload_n 2, 1) := by decide +kernel
theorem dX10_half_7 : decode cX10_half 7 = .ok (.ifCond .eq 7, 3) := by decide +kernel
theorem dX10_half_10 : decode cX10_half 10 = .ok (.iload_n 2, 1) := by decide +kernel
theorem dX10_half_11 : decode cX10_half 11 = .ok (.goto 7, 3) := by decide +kernel
theorem dX10_half_14 : decode cX10_half 14 = .ok (.aload_n 0, 1) := by decide +kernel
theorem dX10_half_15 : decode cX10_half 15 = .ok (.invokevirtual 199, 3) := by decide +kernel
theorem dX10_half_18 : decode cX10_half 18 = .ok (.ireturn, 1) := by decide +kernel
theorem dX10_times_0 : decode cX10_times 0 = .ok (.lload_n 1, 1) := by decide +kernel
theorem dX10_times_1 : decode cX10_times 1 = .ok (.lload_n 3, 1) := by decide +kernel
theorem dX10_times_2 : decode cX10_times 2 = .ok (.lmul, 1) := by decide +kernel
theorem dX10_times_3 : decode cX10_times 3 = .ok (.lstore 5, 2) := by decide +kernel
theorem dX10_times_5 : decode cX10_times 5 = .ok (.aload_n 0, 1) := by decide +kernel
theorem dX10_times_6 : decode cX10_times 6 = .ok (.dup, 1) := by decide +kernel
theorem dX10_times_7 : decode cX10_times 7 = .ok (.getfield 202, 3) := by decide +kernel
theorem dX10_times_10 : decode cX10_times 10 = .ok (.lload_n 1, 1) := by decide +kernel
theorem dX10_times_11 : decode cX10_times 11 = .ok (.lconst 0, 1) := by decide +kernel
theorem dX10_times_12 : decode cX10_times 12 = .ok (.lcmp, 1) := by decide +kernel
theorem dX10_times_13 : decode cX10_times 13 = .ok (.ifCond .eq 37, 3) := by decide +kernel
theorem dX10_times_16 : decode cX10_times 16 = .ok (.lload 5, 2) := by decide +kernel
theorem dX10_times_18 : decode cX10_times 18 = .ok (.lload_n 1, 1) := by decide +kernel
theorem dX10_times_19 : decode cX10_times 19 = .ok (.ldiv, 1) := by decide +kernel
theorem dX10_times_20 : decode cX10_times 20 = .ok (.lload_n 3, 1) := by decide +kernel
theorem dX10_times_21 : decode cX10_times 21 = .ok (.lcmp, 1) := by decide +kernel
theorem dX10_times_22 : decode cX10_times 22 = .ok (.ifCond .ne 24, 3) := by decide +kernel
theorem dX10_times_25 : decode cX10_times 25 = .ok (.lload_n 1, 1) := by decide +kernel
theorem dX10_times_26 : decode cX10_times 26 = .ok (.ldc2_w 206, 3) := by decide +kernel
theorem dX10_times_29 : decode cX10_times 29 = .ok (.lcmp, 1) := by decide +kernel
theorem dX10_times_30 : decode cX10_times 30 = .ok (.ifCond .ne 20, 3) := by decide +kernel
theorem dX10_times_33 : decode cX10_times 33 = .ok (.lload_n 3, 1) := by decide +kernel
theorem dX10_times_34 : decode cX10_times 34 = .ok (.lconst 0, 1) := by decide +kernel
theorem dX10_times_35 : decode cX10_times 35 = .ok (.lcmp, 1) := by decide +kernel
theorem dX10_times_36 : decode cX10_times 36 = .ok (.ifCond .ge 14, 3) := by decide +kernel
theorem dX10_times_39 : decode cX10_times 39 = .ok (.lload 5, 2) := by decide +kernel
theorem dX10_times_41 : decode cX10_times 41 = .ok (.lload_n 3, 1) := by decide +kernel
theorem dX10_times_42 : decode cX10_times 42 = .ok (.lcmp, 1) := by decide +kernel
theorem dX10_times_43 : decode cX10_times 43 = .ok (.ifCond .ne 7, 3) := by decide +kernel
theorem dX10_times_46 : decode cX10_times 46 = .ok (.iconst 1, 1) := by decide +kernel
theorem dX10_times_47 : decode cX10_times 47 = .ok (.goto 4, 3) := by decide +kernel
theorem dX10_times_50 : decode cX10_times 50 = .ok (.iconst 0, 1) := by decide +kernel
theorem dX10_times_51 : decode cX10_times 51 = .ok (.ior, 1) := by decide +kernel
theorem dX10_times_52 : decode cX10_times 52 = .ok (.putfield 202, 3) := by decide +kernel
theorem dX10_times_55 : decode cX10_times 55 = .ok (.lload 5, 2) := by decide +kernel
theorem dX10_times_57 : decode cX10_times 57 = .ok (.lreturn, 1) := by decide +kernel
theorem dX10_plus_0 : decode cX10_plus 0 = .ok (.lload_n 1, 1) := by decide +kernel
theorem dX10_plus_1 : decode cX10_plus 1 = .ok (.lload_n 3, 1) := by decide +kernel
theorem dX10_plus_2 : decode cX10_plus 2 = .ok (.ladd, 1) := by decide +kernel
theorem dX10_plus_3 : decode cX10_plus 3 = .ok (.lstore 5, 2) := by decide +kernel
theorem dX10_plus_5 : decode cX10_plus 5 = .ok (.aload_n 0, 1) := by decide +kernel
theorem dX10_plus_6 : decode cX10_plus 6 = .ok (.dup, 1) := by decide +kernel
theorem dX10_plus_7 : decode cX10_plus 7 = .ok (.getfield 202, 3) := by decide +kernel
theorem dX10_plus_10 : decode cX10_plus 10 = .ok (.lload_n 1, 1) := by decide +kernel
theorem dX10_plus_11 : decode cX10_plus 11 = .ok (.lload 5, 2) := by decide +kernel
theorem dX10_plus_13 : decode cX10_plus 13 = .ok (.lxor, 1) := by decide +kernel
theorem dX10_plus_14 : decode cX10_plus 14 = .ok (.lconst 0, 1) := by decide +kernel
theorem dX10_plus_15 : decode cX10_plus 15 = .ok (.lcmp, 1) := by decide +kernel
theorem dX10_plus_16 : decode cX10_plus 16 = .ok (.ifCond .ge 16, 3) := by decide +kernel
theorem dX10_plus_19 : decode cX10_plus 19 = .ok (.lload_n 3, 1) := by decide +kernel
theorem dX10_plus_20 : decode cX10_plus 20 = .ok (.lload 5, 2) := by decide +kernel
theorem dX10_plus_22 : decode cX10_plus 22 = .ok (.lxor, 1) := by decide +kernel
theorem dX10_plus_23 : decode cX10_plus 23 = .ok (.lconst 0, 1) := by decide +kernel
theorem dX10_plus_24 : decode cX10_plus 24 = .ok (.lcmp, 1) := by decide +kernel
theorem dX10_plus_25 : decode cX10_plus 25 = .ok (.ifCond .ge 7, 3) := by decide +kernel
theorem dX10_plus_28 : decode cX10_plus 28 = .ok (.iconst 1, 1) := by decide +kernel
theorem dX10_plus_29 : decode cX10_plus 29 = .ok (.goto 4, 3) := by decide +kernel
theorem dX10_plus_32 : decode cX10_plus 32 = .ok (.iconst 0, 1) := by decide +kernel
theorem dX10_plus_33 : decode cX10_plus 33 = .ok (.ior, 1) := by decide +kernel
theorem dX10_plus_34 : decode cX10_plus 34 = .ok (.putfield 202, 3) := by decide +kernel
theorem dX10_plus_37 : decode cX10_plus 37 = .ok (.lload 5, 2) := by decide +kernel
theorem dX10_plus_39 : decode cX10_plus 39 = .ok (.lreturn, 1) := by decide +kernel
theorem dX10_less_0 : decode cX10_less 0 = .ok (.lload_n 1, 1) := by decide +kernel
theorem dX10_less_1 : decode cX10_less 1 = .ok (.lload_n 3, 1) := by decide +kernel
theorem dX10_less_2 : decode cX10_less 2 = .ok (.lsub, 1) := by decide +kernel
theorem dX10_less_3 : decode cX10_less 3 = .ok (.lstore 5, 2) := by decide +kernel
theorem dX10_less_5 : decode cX10_less 5 = .ok (.aload_n 0, 1) := by decide +kernel
theorem dX10_less_6 : decode cX10_less 6 = .ok (.dup, 1) := by decide +kernel
theorem dX10_less_7 : decode cX10_less 7 = .ok (.getfield 202, 3) := by decide +kernel
theorem dX10_less_10 : decode cX10_less 10 = .ok (.lload_n 1, 1) := by decide +kernel
theorem dX10_less_11 : decode cX10_less 11 = .ok (.lload_n 3, 1) := by decide +kernel
theorem dX10_less_12 : decode cX10_less 12 = .ok (.lxor, 1) := by decide +kernel
theorem dX10_less_13 : decode cX10_less 13 = .ok (.lconst 0, 1) := by decide +kernel
theorem dX10_less_14 : decode cX10_less 14 = .ok (.lcmp, 1) := by decide +kernel
theorem dX10_less_15 : decode cX10_less 15 = .ok (.ifCond .ge 16, 3) := by decide +kernel
theorem dX10_less_18 : decode cX10_less 18 = .ok (.lload_n 1, 1) := by decide +kernel
theorem dX10_less_19 : decode cX10_less 19 = .ok (.lload 5, 2) := by decide +kernel
theorem dX10_less_21 : decode cX10_less 21 = .ok (.lxor, 1) := by decide +kernel
theorem dX10_less_22 : decode cX10_less 22 = .ok (.lconst 0, 1) := by decide +kernel
theorem dX10_less_23 : decode cX10_less 23 = .ok (.lcmp, 1) := by decide +kernel
theorem dX10_less_24 : decode cX10_less 24 = .ok (.ifCond .ge 7, 3) := by decide +kernel
theorem dX10_less_27 : decode cX10_less 27 = .ok (.iconst 1, 1) := by decide +kernel
theorem dX10_less_28 : decode cX10_less 28 = .ok (.goto 4, 3) := by decide +kernel
theorem dX10_less_31 : decode cX10_less 31 = .ok (.iconst 0, 1) := by decide +kernel
theorem dX10_less_32 : decode cX10_less 32 = .ok (.ior, 1) := by decide +kernel
theorem dX10_less_33 : decode cX10_less 33 = .ok (.putfield 202, 3) := by decide +kernel
theorem dX10_less_36 : decode cX10_less 36 = .ok (.lload 5, 2) := by decide +kernel
theorem dX10_less_38 : decode cX10_less 38 = .ok (.lreturn, 1) := by decide +kernel
theorem dX10_laysWhole_0 : decode cX10_laysWhole 0 = .ok (.iconst 0, 1) := by decide +kernel
theorem dX10_laysWhole_1 : decode cX10_laysWhole 1 = .ok (.istore_n 1, 1) := by decide +kernel
theorem dX10_laysWhole_2 : decode cX10_laysWhole 2 = .ok (.iload_n 1, 1) := by decide +kernel
theorem dX10_laysWhole_3 : decode cX10_laysWhole 3 = .ok (.aload_n 0, 1) := by decide +kernel
theorem dX10_laysWhole_4 : decode cX10_laysWhole 4 = .ok (.getfield 13, 3) := by decide +kernel
theorem dX10_laysWhole_7 : decode cX10_laysWhole 7 = .ok (.if_icmp .ge 107, 3) := by decide +kernel
theorem dX10_laysWhole_10 : decode cX10_laysWhole 10 = .ok (.iload_n 1, 1) := by decide +kernel
theorem dX10_laysWhole_11 : decode cX10_laysWhole 11 = .ok (.iconst 1, 1) := by decide +kernel
theorem dX10_laysWhole_12 : decode cX10_laysWhole 12 = .ok (.iadd, 1) := by decide +kernel
theorem dX10_laysWhole_13 : decode cX10_laysWhole 13 = .ok (.istore_n 2, 1) := by decide +kernel
theorem dX10_laysWhole_14 : decode cX10_laysWhole 14 = .ok (.iload_n 2, 1) := by decide +kernel
theorem dX10_laysWhole_15 : decode cX10_laysWhole 15 = .ok (.aload_n 0, 1) := by decide +kernel
theorem dX10_laysWhole_16 : decode cX10_laysWhole 16 = .ok (.getfield 13, 3) := by decide +kernel
theorem dX10_laysWhole_19 : decode cX10_laysWhole 19 = .ok (.if_icmp .ge 89, 3) := by decide +kernel
theorem dX10_laysWhole_22 : decode cX10_laysWhole 22 = .ok (.lconst 0, 1) := by decide +kernel
theorem dX10_laysWhole_23 : decode cX10_laysWhole 23 = .ok (.lstore_n 3, 1) := by decide +kernel
theorem dX10_laysWhole_24 : decode cX10_laysWhole 24 = .ok (.iconst 0, 1) := by decide +kernel
theorem dX10_laysWhole_25 : decode cX10_laysWhole 25 = .ok (.istore 5, 2) := by decide +kernel
theorem dX10_laysWhole_27 : decode cX10_laysWhole 27 = .ok (.iload 5, 2) := by decide +kernel
theorem dX10_laysWhole_29 : decode cX10_laysWhole 29 = .ok (.aload_n 0, 1) := by decide +kernel
theorem dX10_laysWhole_30 : decode cX10_laysWhole 30 = .ok (.getfield 75, 3) := by decide +kernel
theorem dX10_laysWhole_33 : decode cX10_laysWhole 33 = .ok (.if_icmp .ge 35, 3) := by decide +kernel
theorem dX10_laysWhole_36 : decode cX10_laysWhole 36 = .ok (.aload_n 0, 1) := by decide +kernel
theorem dX10_laysWhole_37 : decode cX10_laysWhole 37 = .ok (.lload_n 3, 1) := by decide +kernel
theorem dX10_laysWhole_38 : decode cX10_laysWhole 38 = .ok (.aload_n 0, 1) := by decide +kernel
theorem dX10_laysWhole_39 : decode cX10_laysWhole 39 = .ok (.aload_n 0, 1) := by decide +kernel
theorem dX10_laysWhole_40 : decode cX10_laysWhole 40 = .ok (.getfield 36, 3) := by decide +kernel
theorem dX10_laysWhole_43 : decode cX10_laysWhole 43 = .ok (.iload 5, 2) := by decide +kernel
theorem dX10_laysWhole_45 : decode cX10_laysWhole 45 = .ok (.laload, 1) := by decide +kernel
theorem dX10_laysWhole_46 : decode cX10_laysWhole 46 = .ok (.aload_n 0, 1) := by decide +kernel
theorem dX10_laysWhole_47 : decode cX10_laysWhole 47 = .ok (.iload 5, 2) := by decide +kernel
theorem dX10_laysWhole_49 : decode cX10_laysWhole 49 = .ok (.iload_n 1, 1) := by decide +kernel
theorem dX10_laysWhole_50 : decode cX10_laysWhole 50 = .ok (.iload_n 2, 1) := by decide +kernel
theorem dX10_laysWhole_51 : decode cX10_laysWhole 51 = .ok (.invokevirtual 190, 3) := by decide +kernel
theorem dX10_laysWhole_54 : decode cX10_laysWhole 54 = .ok (.i2l, 1) := by decide +kernel
theorem dX10_laysWhole_55 : decode cX10_laysWhole 55 = .ok (.invokevirtual 208, 3) := by decide +kernel
theorem dX10_laysWhole_58 : decode cX10_laysWhole 58 = .ok (.invokevirtual 212, 3) := by decide +kernel
theorem dX10_laysWhole_61 : decode cX10_laysWhole 61 = .ok (.lstore_n 3, 1) := by decide +kernel
theorem dX10_laysWhole_62 : decode cX10_laysWhole 62 = .ok (.iinc 5 1, 3) := by decide +kernel
theorem dX10_laysWhole_65 : decode cX10_laysWhole 65 = .ok (.goto (-38), 3) := by decide +kernel
theorem dX10_laysWhole_68 : decode cX10_laysWhole 68 = .ok (.aload_n 0, 1) := by decide +kernel
theorem dX10_laysWhole_69 : decode cX10_laysWhole 69 = .ok (.dup, 1) := by decide +kernel
theorem dX10_laysWhole_70 : decode cX10_laysWhole 70 = .ok (.getfield 202, 3) := by decide +kernel
theorem dX10_laysWhole_73 : decode cX10_laysWhole 73 = .ok (.lload_n 3, 1) := by decide +kernel
theorem dX10_laysWhole_74 : decode cX10_laysWhole 74 = .ok (.lload_n 3, 1) := by decide +kernel
theorem dX10_laysWhole_75 : decode cX10_laysWhole 75 = .ok (.l2i, 1) := by decide +kernel
theorem dX10_laysWhole_76 : decode cX10_laysWhole 76 = .ok (.i2l, 1) := by decide +kernel
theorem dX10_laysWhole_77 : decode cX10_laysWhole 77 = .ok (.lcmp, 1) := by decide +kernel
theorem dX10_laysWhole_78 : decode cX10_laysWhole 78 = .ok (.ifCond .eq 7, 3) := by decide +kernel
theorem dX10_laysWhole_81 : decode cX10_laysWhole 81 = .ok (.iconst 1, 1) := by decide +kernel
theorem dX10_laysWhole_82 : decode cX10_laysWhole 82 = .ok (.goto 4, 3) := by decide +kernel
theorem dX10_laysWhole_85 : decode cX10_laysWhole 85 = .ok (.iconst 0, 1) := by decide +kernel
theorem dX10_laysWhole_86 : decode cX10_laysWhole 86 = .ok (.ior, 1) := by decide +kernel
theorem dX10_laysWhole_87 : decode cX10_laysWhole 87 = .ok (.putfield 202, 3) := by decide +kernel
theorem dX10_laysWhole_90 : decode cX10_laysWhole 90 = .ok (.aload_n 0, 1) := by decide +kernel
theorem dX10_laysWhole_91 : decode cX10_laysWhole 91 = .ok (.getfield 39, 3) := by decide +kernel
theorem dX10_laysWhole_94 : decode cX10_laysWhole 94 = .ok (.bipush 6, 2) := by decide +kernel
theorem dX10_laysWhole_96 : decode cX10_laysWhole 96 = .ok (.iload_n 1, 1) := by decide +kernel
theorem dX10_laysWhole_97 : decode cX10_laysWhole 97 = .ok (.imul, 1) := by decide +kernel
theorem dX10_laysWhole_98 : decode cX10_laysWhole 98 = .ok (.iload_n 2, 1) := by decide +kernel
theorem dX10_laysWhole_99 : decode cX10_laysWhole 99 = .ok (.iadd, 1) := by decide +kernel
theorem dX10_laysWhole_100 : decode cX10_laysWhole 100 = .ok (.lload_n 3, 1) := by decide +kernel
theorem dX10_laysWhole_101 : decode cX10_laysWhole 101 = .ok (.lastore, 1) := by decide +kernel
theorem dX10_laysWhole_102 : decode cX10_laysWhole 102 = .ok (.iinc 2 1, 3) := by decide +kernel
theorem dX10_laysWhole_105 : decode cX10_laysWhole 105 = .ok (.goto (-91), 3) := by decide +kernel
theorem dX10_laysWhole_108 : decode cX10_laysWhole 108 = .ok (.iinc 1 1, 3) := by decide +kernel
theorem dX10_laysWhole_111 : decode cX10_laysWhole 111 = .ok (.goto (-109), 3) := by decide +kernel
theorem dX10_laysWhole_114 : decode cX10_laysWhole 114 = .ok (.return_, 1) := by decide +kernel
theorem dX10_rootOf_0 : decode cX10_rootOf 0 = .ok (.iconst 0, 1) := by decide +kernel
theorem dX10_rootOf_1 : decode cX10_rootOf 1 = .ok (.istore_n 2, 1) := by decide +kernel
theorem dX10_rootOf_2 : decode cX10_rootOf 2 = .ok (.iload_n 2, 1) := by decide +kernel
theorem dX10_rootOf_3 : decode cX10_rootOf 3 = .ok (.aload_n 0, 1) := by decide +kernel
theorem dX10_rootOf_4 : decode cX10_rootOf 4 = .ok (.getfield 13, 3) := by decide +kernel
theorem dX10_rootOf_7 : decode cX10_rootOf 7 = .ok (.if_icmp .ge 17, 3) := by decide +kernel
theorem dX10_rootOf_10 : decode cX10_rootOf 10 = .ok (.iload_n 1, 1) := by decide +kernel
theorem dX10_rootOf_11 : decode cX10_rootOf 11 = .ok (.iload_n 2, 1) := by decide +kernel
theorem dX10_rootOf_12 : decode cX10_rootOf 12 = .ok (.invokestatic 149, 3) := by decide +kernel
theorem dX10_rootOf_15 : decode cX10_rootOf 15 = .ok (.ifCond .ne 9, 3) := by decide +kernel
theorem dX10_rootOf_18 : decode cX10_rootOf 18 = .ok (.iinc 2 1, 3) := by decide +kernel
theorem dX10_rootOf_21 : decode cX10_rootOf 21 = .ok (.goto (-19), 3) := by decide +kernel
theorem dX10_rootOf_24 : decode cX10_rootOf 24 = .ok (.iload_n 1, 1) := by decide +kernel
theorem dX10_rootOf_25 : decode cX10_rootOf 25 = .ok (.ifCond .ne 7, 3) := by decide +kernel
theorem dX10_rootOf_28 : decode cX10_rootOf 28 = .ok (.lconst 1, 1) := by decide +kernel
theorem dX10_rootOf_29 : decode cX10_rootOf 29 = .ok (.goto 4, 3) := by decide +kernel
theorem dX10_rootOf_32 : decode cX10_rootOf 32 = .ok (.lconst 0, 1) := by decide +kernel
theorem dX10_rootOf_33 : decode cX10_rootOf 33 = .ok (.lstore_n 3, 1) := by decide +kernel
theorem dX10_rootOf_34 : decode cX10_rootOf 34 = .ok (.iconst 1, 1) := by decide +kernel
theorem dX10_rootOf_35 : decode cX10_rootOf 35 = .ok (.istore 5, 2) := by decide +kernel
theorem dX10_rootOf_37 : decode cX10_rootOf 37 = .ok (.iload_n 2, 1) := by decide +kernel
theorem dX10_rootOf_38 : decode cX10_rootOf 38 = .ok (.iconst 1, 1) := by decide +kernel
theorem dX10_rootOf_39 : decode cX10_rootOf 39 = .ok (.iadd, 1) := by decide +kernel
theorem dX10_rootOf_40 : decode cX10_rootOf 40 = .ok (.istore 6, 2) := by decide +kernel
theorem dX10_rootOf_42 : decode cX10_rootOf 42 = .ok (.iload 6, 2) := by decide +kernel
theorem dX10_rootOf_44 : decode cX10_rootOf 44 = .ok (.aload_n 0, 1) := by decide +kernel
theorem dX10_rootOf_45 : decode cX10_rootOf 45 = .ok (.getfield 13, 3) := by decide +kernel
theorem dX10_rootOf_48 : decode cX10_rootOf 48 = .ok (.if_icmp .ge 89, 3) := by decide +kernel
theorem dX10_rootOf_51 : decode cX10_rootOf 51 = .ok (.iload_n 1, 1) := by decide +kernel
theorem dX10_rootOf_52 : decode cX10_rootOf 52 = .ok (.iload 6, 2) := by decide +kernel
theorem dX10_rootOf_54 : decode cX10_rootOf 54 = .ok (.invokestatic 149, 3) := by decide +kernel
theorem dX10_rootOf_57 : decode cX10_rootOf 57 = .ok (.ifCond .eq 74, 3) := by decide +kernel
theorem dX10_rootOf_60 : decode cX10_rootOf 60 = .ok (.aload_n 0, 1) := by decide +kernel
theorem dX10_rootOf_61 : decode cX10_rootOf 61 = .ok (.aload_n 0, 1) := by decide +kernel
theorem dX10_rootOf_62 : decode cX10_rootOf 62 = .ok (.getfield 39, 3) := by decide +kernel
theorem dX10_rootOf_65 : decode cX10_rootOf 65 = .ok (.bipush 6, 2) := by decide +kernel
theorem dX10_rootOf_67 : decode cX10_rootOf 67 = .ok (.iload_n 2, 1) := by decide +kernel
theorem dX10_rootOf_68 : decode cX10_rootOf 68 = .ok (.imul, 1) := by decide +kernel
theorem dX10_rootOf_69 : decode cX10_rootOf 69 = .ok (.iload 6, 2) := by decide +kernel
theorem dX10_rootOf_71 : decode cX10_rootOf 71 = .ok (.iadd, 1) := by decide +kernel
theorem dX10_rootOf_72 : decode cX10_rootOf 72 = .ok (.laload, 1) := by decide +kernel
theorem dX10_rootOf_73 : decode cX10_rootOf 73 = .ok (.aload_n 0, 1) := by decide +kernel
theorem dX10_rootOf_74 : decode cX10_rootOf 74 = .ok (.iload_n 1, 1) := by decide +kernel
theorem dX10_rootOf_75 : decode cX10_rootOf 75 = .ok (.iconst 1, 1) := by decide +kernel
theorem dX10_rootOf_76 : decode cX10_rootOf 76 = .ok (.iload_n 2, 1) := by decide +kernel
theorem dX10_rootOf_77 : decode cX10_rootOf 77 = .ok (.ishl, 1) := by decide +kernel
theorem dX10_rootOf_78 : decode cX10_rootOf 78 = .ok (.iconst (-1), 1) := by decide +kernel
theorem dX10_rootOf_79 : decode cX10_rootOf 79 = .ok (.ixor, 1) := by decide +kernel
theorem dX10_rootOf_80 : decode cX10_rootOf 80 = .ok (.iand, 1) := by decide +kernel
theorem dX10_rootOf_81 : decode cX10_rootOf 81 = .ok (.iconst 1, 1) := by decide +kernel
theorem dX10_rootOf_82 : decode cX10_rootOf 82 = .ok (.iload 6, 2) := by decide +kernel
theorem dX10_rootOf_84 : decode cX10_rootOf 84 = .ok (.ishl, 1) := by decide +kernel
theorem dX10_rootOf_85 : decode cX10_rootOf 85 = .ok (.iconst (-1), 1) := by decide +kernel
theorem dX10_rootOf_86 : decode cX10_rootOf 86 = .ok (.ixor, 1) := by decide +kernel
theorem dX10_rootOf_87 : decode cX10_rootOf 87 = .ok (.iand, 1) := by decide +kernel
theorem dX10_rootOf_88 : decode cX10_rootOf 88 = .ok (.invokevirtual 215, 3) := by decide +kernel
theorem dX10_rootOf_91 : decode cX10_rootOf 91 = .ok (.invokevirtual 208, 3) := by decide +kernel
theorem dX10_rootOf_94 : decode cX10_rootOf 94 = .ok (.lstore 7, 2) := by decide +kernel
theorem dX10_rootOf_96 : decode cX10_rootOf 96 = .ok (.iload 5, 2) := by decide +kernel
theorem dX10_rootOf_98 : decode cX10_rootOf 98 = .ok (.ifCond .eq 13, 3) := by decide +kernel
theorem dX10_rootOf_101 : decode cX10_rootOf 101 = .ok (.aload_n 0, 1) := by decide +kernel
theorem dX10_rootOf_102 : decode cX10_rootOf 102 = .ok (.lload_n 3, 1) := by decide +kernel
theorem dX10_rootOf_103 : decode cX10_rootOf 103 = .ok (.lload 7, 2) := by decide +kernel
theorem dX10_rootOf_105 : decode cX10_rootOf 105 = .ok (.invokevirtual 212, 3) := by decide +kernel
theorem dX10_rootOf_108 : decode cX10_rootOf 108 = .ok (.goto 10, 3) := by decide +kernel
theorem dX10_rootOf_111 : decode cX10_rootOf 111 = .ok (.aload_n 0, 1) := by decide +kernel
theorem dX10_rootOf_112 : decode cX10_rootOf 112 = .ok (.lload_n 3, 1) := by decide +kernel
theorem dX10_rootOf_113 : decode cX10_rootOf 113 = .ok (.lload 7, 2) := by decide +kernel
theorem dX10_rootOf_115 : decode cX10_rootOf 115 = .ok (.invokevirtual 219, 3) := by decide +kernel
theorem dX10_rootOf_118 : decode cX10_rootOf 118 = .ok (.lstore_n 3, 1) := by decide +kernel
theorem dX10_rootOf_119 : decode cX10_rootOf 119 = .ok (.iload 5, 2) := by decide +kernel
theorem dX10_rootOf_121 : decode cX10_rootOf 121 = .ok (.ifCond .ne 7, 3) := by decide +kernel
theorem dX10_rootOf_124 : decode cX10_rootOf 124 = .ok (.iconst 1, 1) := by decide +kernel
theorem dX10_rootOf_125 : decode cX10_rootOf 125 = .ok (.goto 4, 3) := by decide +kernel
theorem dX10_rootOf_128 : decode cX10_rootOf 128 = .ok (.iconst 0, 1) := by decide +kernel
theorem dX10_rootOf_129 : decode cX10_rootOf 129 = .ok (.istore 5, 2) := by decide +kernel
theorem dX10_rootOf_131 : decode cX10_rootOf 131 = .ok (.iinc 6 1, 3) := by decide +kernel
theorem dX10_rootOf_134 : decode cX10_rootOf 134 = .ok (.goto (-92), 3) := by decide +kernel
theorem dX10_rootOf_137 : decode cX10_rootOf 137 = .ok (.lload_n 3, 1) := by decide +kernel
theorem dX10_rootOf_138 : decode cX10_rootOf 138 = .ok (.lreturn, 1) := by decide +kernel
theorem dX10_root_0 : decode cX10_root 0 = .ok (.aload_n 0, 1) := by decide +kernel
theorem dX10_root_1 : decode cX10_root 1 = .ok (.iload_n 1, 1) := by decide +kernel
theorem dX10_root_2 : decode cX10_root 2 = .ok (.invokevirtual 193, 3) := by decide +kernel
theorem dX10_root_5 : decode cX10_root 5 = .ok (.istore_n 2, 1) := by decide +kernel
theorem dX10_root_6 : decode cX10_root 6 = .ok (.iload_n 2, 1) := by decide +kernel
theorem dX10_root_7 : decode cX10_root 7 = .ok (.ifCond .eq 6, 3) := by decide +kernel
theorem dX10_root_10 : decode cX10_root 10 = .ok (.iload_n 2, 1) := by decide +kernel
theorem dX10_root_11 : decode cX10_root 11 = .ok (.i2l, 1) := by decide +kernel
theorem dX10_root_12 : decode cX10_root 12 = .ok (.lreturn, 1) := by decide +kernel
theorem dX10_root_13 : decode cX10_root 13 = .ok (.aload_n 0, 1) := by decide +kernel
theorem dX10_root_14 : decode cX10_root 14 = .ok (.getfield 13, 3) := by decide +kernel
theorem dX10_root_17 : decode cX10_root 17 = .ok (.iconst 2, 1) := by decide +kernel
theorem dX10_root_18 : decode cX10_root 18 = .ok (.irem, 1) := by decide +kernel
theorem dX10_root_19 : decode cX10_root 19 = .ok (.iconst 1, 1) := by decide +kernel
theorem dX10_root_20 : decode cX10_root 20 = .ok (.if_icmp .ne 7, 3) := by decide +kernel
theorem dX10_root_23 : decode cX10_root 23 = .ok (.ldc2_w 222, 3) := by decide +kernel
theorem dX10_root_26 : decode cX10_root 26 = .ok (.lreturn, 1) := by decide +kernel
theorem dX10_root_27 : decode cX10_root 27 = .ok (.aload_n 0, 1) := by decide +kernel
theorem dX10_root_28 : decode cX10_root 28 = .ok (.iconst 0, 1) := by decide +kernel
theorem dX10_root_29 : decode cX10_root 29 = .ok (.putfield 202, 3) := by decide +kernel
theorem dX10_root_32 : decode cX10_root 32 = .ok (.aload_n 0, 1) := by decide +kernel
theorem dX10_root_33 : decode cX10_root 33 = .ok (.invokevirtual 224, 3) := by decide +kernel
theorem dX10_root_36 : decode cX10_root 36 = .ok (.aload_n 0, 1) := by decide +kernel
theorem dX10_root_37 : decode cX10_root 37 = .ok (.getfield 202, 3) := by decide +kernel
theorem dX10_root_40 : decode cX10_root 40 = .ok (.ifCond .eq 7, 3) := by decide +kernel
theorem dX10_root_43 : decode cX10_root 43 = .ok (.lconst 0, 1) := by decide +kernel
theorem dX10_root_44 : decode cX10_root 44 = .ok (.goto 15, 3) := by decide +kernel
theorem dX10_root_47 : decode cX10_root 47 = .ok (.aload_n 0, 1) := by decide +kernel
theorem dX10_root_48 : decode cX10_root 48 = .ok (.iconst 1, 1) := by decide +kernel
theorem dX10_root_49 : decode cX10_root 49 = .ok (.aload_n 0, 1) := by decide +kernel
theorem dX10_root_50 : decode cX10_root 50 = .ok (.getfield 13, 3) := by decide +kernel
theorem dX10_root_53 : decode cX10_root 53 = .ok (.ishl, 1) := by decide +kernel
theorem dX10_root_54 : decode cX10_root 54 = .ok (.iconst 1, 1) := by decide +kernel
theorem dX10_root_55 : decode cX10_root 55 = .ok (.isub, 1) := by decide +kernel
theorem dX10_root_56 : decode cX10_root 56 = .ok (.invokevirtual 215, 3) := by decide +kernel
theorem dX10_root_59 : decode cX10_root 59 = .ok (.lstore_n 3, 1) := by decide +kernel
theorem dX10_root_60 : decode cX10_root 60 = .ok (.aload_n 0, 1) := by decide +kernel
theorem dX10_root_61 : decode cX10_root 61 = .ok (.getfield 202, 3) := by decide +kernel
theorem dX10_root_64 : decode cX10_root 64 = .ok (.ifCond .eq 9, 3) := by decide +kernel
theorem dX10_root_67 : decode cX10_root 67 = .ok (.ldc2_w 227, 3) := by decide +kernel
theorem dX10_root_70 : decode cX10_root 70 = .ok (.goto 4, 3) := by decide +kernel
theorem dX10_root_73 : decode cX10_root 73 = .ok (.lload_n 3, 1) := by decide +kernel
theorem dX10_root_74 : decode cX10_root 74 = .ok (.lreturn, 1) := by decide +kernel
theorem dX10_draws_0 : decode cX10_draws 0 = .ok (.iconst 0, 1) := by decide +kernel
theorem dX10_draws_1 : decode cX10_draws 1 = .ok (.istore_n 1, 1) := by decide +kernel
theorem dX10_draws_2 : decode cX10_draws 2 = .ok (.iload_n 1, 1) := by decide +kernel
theorem dX10_draws_3 : decode cX10_draws 3 = .ok (.aload_n 0, 1) := by decide +kernel
theorem dX10_draws_4 : decode cX10_draws 4 = .ok (.getfield 75, 3) := by decide +kernel
theorem dX10_draws_7 : decode cX10_draws 7 = .ok (.if_icmp .ge 43, 3) := by decide +kernel
theorem dX10_draws_10 : decode cX10_draws 10 = .ok (.aload_n 0, 1) := by decide +kernel
theorem dX10_draws_11 : decode cX10_draws 11 = .ok (.aload_n 0, 1) := by decide +kernel
theorem dX10_draws_12 : decode cX10_draws 12 = .ok (.getfield 229, 3) := by decide +kernel
theorem dX10_draws_15 : decode cX10_draws 15 = .ok (.ldc 232, 2) := by decide +kernel
theorem dX10_draws_17 : decode cX10_draws 17 = .ok (.imul, 1) := by decide +kernel
theorem dX10_draws_18 : decode cX10_draws 18 = .ok (.sipush 12345, 3) := by decide +kernel
theorem dX10_draws_21 : decode cX10_draws 21 = .ok (.iadd, 1) := by decide +kernel
theorem dX10_draws_22 : decode cX10_draws 22 = .ok (.putfield 229, 3) := by decide +kernel
theorem dX10_draws_25 : decode cX10_draws 25 = .ok (.aload_n 0, 1) := by decide +kernel
theorem dX10_draws_26 : decode cX10_draws 26 = .ok (.getfield 36, 3) := by decide +kernel
theorem dX10_draws_29 : decode cX10_draws 29 = .ok (.iload_n 1, 1) := by decide +kernel
theorem dX10_draws_30 : decode cX10_draws 30 = .ok (.aload_n 0, 1) := by decide +kernel
theorem dX10_draws_31 : decode cX10_draws 31 = .ok (.getfield 229, 3) := by decide +kernel
theorem dX10_draws_34 : decode cX10_draws 34 = .ok (.bipush 8, 2) := by decide +kernel
theorem dX10_draws_36 : decode cX10_draws 36 = .ok (.iushr, 1) := by decide +kernel
theorem dX10_draws_37 : decode cX10_draws 37 = .ok (.aload_n 0, 1) := by decide +kernel
theorem dX10_draws_38 : decode cX10_draws 38 = .ok (.getfield 7, 3) := by decide +kernel
theorem dX10_draws_41 : decode cX10_draws 41 = .ok (.irem, 1) := by decide +kernel
theorem dX10_draws_42 : decode cX10_draws 42 = .ok (.i2l, 1) := by decide +kernel
theorem dX10_draws_43 : decode cX10_draws 43 = .ok (.lastore, 1) := by decide +kernel
theorem dX10_draws_44 : decode cX10_draws 44 = .ok (.iinc 1 1, 3) := by decide +kernel
theorem dX10_draws_47 : decode cX10_draws 47 = .ok (.goto (-45), 3) := by decide +kernel
theorem dX10_draws_50 : decode cX10_draws 50 = .ok (.return_, 1) := by decide +kernel
theorem dX10_claim_0 : decode cX10_claim 0 = .ok (.iload_n 2, 1) := by decide +kernel
theorem dX10_claim_1 : decode cX10_claim 1 = .ok (.i2l, 1) := by decide +kernel
theorem dX10_claim_2 : decode cX10_claim 2 = .ok (.lconst 1, 1) := by decide +kernel
theorem dX10_claim_3 : decode cX10_claim 3 = .ok (.ldc2_w 233, 3) := by decide +kernel
theorem dX10_claim_6 : decode cX10_claim 6 = .ok (.invokestatic 78, 3) := by decide +kernel
theorem dX10_claim_9 : decode cX10_claim 9 = .ok (.ifCond .ne 6, 3) := by decide +kernel
theorem dX10_claim_12 : decode cX10_claim 12 = .ok (.bipush (-2), 2) := by decide +kernel
theorem dX10_claim_14 : decode cX10_claim 14 = .ok (.ireturn, 1) := by decide +kernel
theorem dX10_claim_15 : decode cX10_claim 15 = .ok (.aload_n 0, 1) := by decide +kernel
theorem dX10_claim_16 : decode cX10_claim 16 = .ok (.iload_n 1, 1) := by decide +kernel
theorem dX10_claim_17 : decode cX10_claim 17 = .ok (.putfield 229, 3) := by decide +kernel
theorem dX10_claim_20 : decode cX10_claim 20 = .ok (.iconst 0, 1) := by decide +kernel
theorem dX10_claim_21 : decode cX10_claim 21 = .ok (.istore_n 3, 1) := by decide +kernel
theorem dX10_claim_22 : decode cX10_claim 22 = .ok (.iconst 0, 1) := by decide +kernel
theorem dX10_claim_23 : decode cX10_claim 23 = .ok (.istore 4, 2) := by decide +kernel
theorem dX10_claim_25 : decode cX10_claim 25 = .ok (.iload 4, 2) := by decide +kernel
theorem dX10_claim_27 : decode cX10_claim 27 = .ok (.iload_n 2, 1) := by decide +kernel
theorem dX10_claim_28 : decode cX10_claim 28 = .ok (.if_icmp .ge 32, 3) := by decide +kernel
theorem dX10_claim_31 : decode cX10_claim 31 = .ok (.aload_n 0, 1) := by decide +kernel
theorem dX10_claim_32 : decode cX10_claim 32 = .ok (.invokevirtual 235, 3) := by decide +kernel
theorem dX10_claim_35 : decode cX10_claim 35 = .ok (.aload_n 0, 1) := by decide +kernel
theorem dX10_claim_36 : decode cX10_claim 36 = .ok (.invokevirtual 199, 3) := by decide +kernel
theorem dX10_claim_39 : decode cX10_claim 39 = .ok (.istore 5, 2) := by decide +kernel
theorem dX10_claim_41 : decode cX10_claim 41 = .ok (.iload 5, 2) := by decide +kernel
theorem dX10_claim_43 : decode cX10_claim 43 = .ok (.iload_n 3, 1) := by decide +kernel
theorem dX10_claim_44 : decode cX10_claim 44 = .ok (.if_icmp .le 8, 3) := by decide +kernel
theorem dX10_claim_47 : decode cX10_claim 47 = .ok (.iload 5, 2) := by decide +kernel
theorem dX10_claim_49 : decode cX10_claim 49 = .ok (.goto 4, 3) := by decide +kernel
theorem dX10_claim_52 : decode cX10_claim 52 = .ok (.iload_n 3, 1) := by decide +kernel
theorem dX10_claim_53 : decode cX10_claim 53 = .ok (.istore_n 3, 1) := by decide +kernel
theorem dX10_claim_54 : decode cX10_claim 54 = .ok (.iinc 4 1, 3) := by decide +kernel
theorem dX10_claim_57 : decode cX10_claim 57 = .ok (.goto (-32), 3) := by decide +kernel
theorem dX10_claim_60 : decode cX10_claim 60 = .ok (.iload_n 3, 1) := by decide +kernel
theorem dX10_claim_61 : decode cX10_claim 61 = .ok (.ireturn, 1) := by decide +kernel
theorem dX10_sure_0 : decode cX10_sure 0 = .ok (.iload_n 2, 1) := by decide +kernel
theorem dX10_sure_1 : decode cX10_sure 1 = .ok (.i2l, 1) := by decide +kernel
theorem dX10_sure_2 : decode cX10_sure 2 = .ok (.lconst 1, 1) := by decide +kernel
theorem dX10_sure_3 : decode cX10_sure 3 = .ok (.ldc2_w 233, 3) := by decide +kernel
theorem dX10_sure_6 : decode cX10_sure 6 = .ok (.invokestatic 78, 3) := by decide +kernel
theorem dX10_sure_9 : decode cX10_sure 9 = .ok (.ifCond .ne 6, 3) := by decide +kernel
theorem dX10_sure_12 : decode cX10_sure 12 = .ok (.bipush (-2), 2) := by decide +kernel
theorem dX10_sure_14 : decode cX10_sure 14 = .ok (.ireturn, 1) := by decide +kernel
theorem dX10_sure_15 : decode cX10_sure 15 = .ok (.aload_n 0, 1) := by decide +kernel
theorem dX10_sure_16 : decode cX10_sure 16 = .ok (.invokevirtual 173, 3) := by decide +kernel
theorem dX10_sure_19 : decode cX10_sure 19 = .ok (.istore_n 3, 1) := by decide +kernel
theorem dX10_sure_20 : decode cX10_sure 20 = .ok (.aload_n 0, 1) := by decide +kernel
theorem dX10_sure_21 : decode cX10_sure 21 = .ok (.iload_n 1, 1) := by decide +kernel
theorem dX10_sure_22 : decode cX10_sure 22 = .ok (.putfield 229, 3) := by decide +kernel
theorem dX10_sure_25 : decode cX10_sure 25 = .ok (.iconst 0, 1) := by decide +kernel
theorem dX10_sure_26 : decode cX10_sure 26 = .ok (.istore 4, 2) := by decide +kernel
theorem dX10_sure_28 : decode cX10_sure 28 = .ok (.iconst 0, 1) := by decide +kernel
theorem dX10_sure_29 : decode cX10_sure 29 = .ok (.istore 5, 2) := by decide +kernel
theorem dX10_sure_31 : decode cX10_sure 31 = .ok (.iload 5, 2) := by decide +kernel
theorem dX10_sure_33 : decode cX10_sure 33 = .ok (.iload_n 2, 1) := by decide +kernel
theorem dX10_sure_34 : decode cX10_sure 34 = .ok (.if_icmp .ge 31, 3) := by decide +kernel
theorem dX10_sure_37 : decode cX10_sure 37 = .ok (.aload_n 0, 1) := by decide +kernel
theorem dX10_sure_38 : decode cX10_sure 38 = .ok (.invokevirtual 235, 3) := by decide +kernel
theorem dX10_sure_41 : decode cX10_sure 41 = .ok (.iload 4, 2) := by decide +kernel
theorem dX10_sure_43 : decode cX10_sure 43 = .ok (.aload_n 0, 1) := by decide +kernel
theorem dX10_sure_44 : decode cX10_sure 44 = .ok (.invokevirtual 199, 3) := by decide +kernel
theorem dX10_sure_47 : decode cX10_sure 47 = .ok (.iload_n 3, 1) := by decide +kernel
theorem dX10_sure_48 : decode cX10_sure 48 = .ok (.if_icmp .ne 7, 3) := by decide +kernel
theorem dX10_sure_51 : decode cX10_sure 51 = .ok (.iconst 1, 1) := by decide +kernel
theorem dX10_sure_52 : decode cX10_sure 52 = .ok (.goto 4, 3) := by decide +kernel
theorem dX10_sure_55 : decode cX10_sure 55 = .ok (.iconst 0, 1) := by decide +kernel
theorem dX10_sure_56 : decode cX10_sure 56 = .ok (.iadd, 1) := by decide +kernel
theorem dX10_sure_57 : decode cX10_sure 57 = .ok (.istore 4, 2) := by decide +kernel
theorem dX10_sure_59 : decode cX10_sure 59 = .ok (.iinc 5 1, 3) := by decide +kernel
theorem dX10_sure_62 : decode cX10_sure 62 = .ok (.goto (-31), 3) := by decide +kernel
theorem dX10_sure_65 : decode cX10_sure 65 = .ok (.iload 4, 2) := by decide +kernel
theorem dX10_sure_67 : decode cX10_sure 67 = .ok (.ireturn, 1) := by decide +kernel
theorem dX10_classWorth_0 : decode cX10_classWorth 0 = .ok (.aload_n 0, 1) := by decide +kernel
theorem dX10_classWorth_1 : decode cX10_classWorth 1 = .ok (.iload_n 1, 1) := by decide +kernel
theorem dX10_classWorth_2 : decode cX10_classWorth 2 = .ok (.iload_n 2, 1) := by decide +kernel
theorem dX10_classWorth_3 : decode cX10_classWorth 3 = .ok (.invokevirtual 118, 3) := by decide +kernel
theorem dX10_classWorth_6 : decode cX10_classWorth 6 = .ok (.iload_n 2, 1) := by decide +kernel
theorem dX10_classWorth_7 : decode cX10_classWorth 7 = .ok (.invokestatic 164, 3) := by decide +kernel
theorem dX10_classWorth_10 : decode cX10_classWorth 10 = .ok (.isub, 1) := by decide +kernel
theorem dX10_classWorth_11 : decode cX10_classWorth 11 = .ok (.iconst 2, 1) := by decide +kernel
theorem dX10_classWorth_12 : decode cX10_classWorth 12 = .ok (.idiv, 1) := by decide +kernel
theorem dX10_classWorth_13 : decode cX10_classWorth 13 = .ok (.ireturn, 1) := by decide +kernel
theorem dX10_areAxes_0 : decode cX10_areAxes 0 = .ok (.iload_n 1, 1) := by decide +kernel
theorem dX10_areAxes_1 : decode cX10_areAxes 1 = .ok (.i2l, 1) := by decide +kernel
theorem dX10_areAxes_2 : decode cX10_areAxes 2 = .ok (.lconst 0, 1) := by decide +kernel
theorem dX10_areAxes_3 : decode cX10_areAxes 3 = .ok (.iconst 1, 1) := by decide +kernel
theorem dX10_areAxes_4 : decode cX10_areAxes 4 = .ok (.aload_n 0, 1) := by decide +kernel
theorem dX10_areAxes_5 : decode cX10_areAxes 5 = .ok (.getfield 13, 3) := by decide +kernel
theorem dX10_areAxes_8 : decode cX10_areAxes 8 = .ok (.ishl, 1) := by decide +kernel
theorem dX10_areAxes_9 : decode cX10_areAxes 9 = .ok (.iconst 1, 1) := by decide +kernel
theorem dX10_areAxes_10 : decode cX10_areAxes 10 = .ok (.isub, 1) := by decide +kernel
theorem dX10_areAxes_11 : decode cX10_areAxes 11 = .ok (.i2l, 1) := by decide +kernel
theorem dX10_areAxes_12 : decode cX10_areAxes 12 = .ok (.invokestatic 78, 3) := by decide +kernel
theorem dX10_areAxes_15 : decode cX10_areAxes 15 = .ok (.ireturn, 1) := by decide +kernel
theorem dX10_cover_0 : decode cX10_cover 0 = .ok (.iload_n 1, 1) := by decide +kernel
theorem dX10_cover_1 : decode cX10_cover 1 = .ok (.invokestatic 187, 3) := by decide +kernel
theorem dX10_cover_4 : decode cX10_cover 4 = .ok (.ifCond .eq 11, 3) := by decide +kernel
theorem dX10_cover_7 : decode cX10_cover 7 = .ok (.aload_n 0, 1) := by decide +kernel
theorem dX10_cover_8 : decode cX10_cover 8 = .ok (.iload_n 2, 1) := by decide +kernel
theorem dX10_cover_9 : decode cX10_cover 9 = .ok (.invokevirtual 238, 3) := by decide +kernel
theorem dX10_cover_12 : decode cX10_cover 12 = .ok (.ifCond .ne 6, 3) := by decide +kernel
theorem dX10_cover_15 : decode cX10_cover 15 = .ok (.bipush (-2), 2) := by decide +kernel
theorem dX10_cover_17 : decode cX10_cover 17 = .ok (.ireturn, 1) := by decide +kernel
theorem dX10_cover_18 : decode cX10_cover 18 = .ok (.aload_n 0, 1) := by decide +kernel
theorem dX10_cover_19 : decode cX10_cover 19 = .ok (.getfield 60, 3) := by decide +kernel
theorem dX10_cover_22 : decode cX10_cover 22 = .ok (.iload_n 1, 1) := by decide +kernel
theorem dX10_cover_23 : decode cX10_cover 23 = .ok (.iaload, 1) := by decide +kernel
theorem dX10_cover_24 : decode cX10_cover 24 = .ok (.ifCond .ge 6, 3) := by decide +kernel
theorem dX10_cover_27 : decode cX10_cover 27 = .ok (.bipush (-11), 2) := by decide +kernel
theorem dX10_cover_29 : decode cX10_cover 29 = .ok (.ireturn, 1) := by decide +kernel
theorem dX10_cover_30 : decode cX10_cover 30 = .ok (.iload_n 2, 1) := by decide +kernel
theorem dX10_cover_31 : decode cX10_cover 31 = .ok (.invokestatic 164, 3) := by decide +kernel
theorem dX10_cover_34 : decode cX10_cover 34 = .ok (.istore_n 3, 1) := by decide +kernel
theorem dX10_cover_35 : decode cX10_cover 35 = .ok (.iconst 0, 1) := by decide +kernel
theorem dX10_cover_36 : decode cX10_cover 36 = .ok (.istore 4, 2) := by decide +kernel
theorem dX10_cover_38 : decode cX10_cover 38 = .ok (.iconst 0, 1) := by decide +kernel
theorem dX10_cover_39 : decode cX10_cover 39 = .ok (.istore 5, 2) := by decide +kernel
theorem dX10_cover_41 : decode cX10_cover 41 = .ok (.iload 5, 2) := by decide +kernel
theorem dX10_cover_43 : decode cX10_cover 43 = .ok (.aload_n 0, 1) := by decide +kernel
theorem dX10_cover_44 : decode cX10_cover 44 = .ok (.getfield 75, 3) := by decide +kernel
theorem dX10_cover_47 : decode cX10_cover 47 = .ok (.if_icmp .ge 119, 3) := by decide +kernel
theorem dX10_cover_50 : decode cX10_cover 50 = .ok (.iconst 1, 1) := by decide +kernel
theorem dX10_cover_51 : decode cX10_cover 51 = .ok (.iload 5, 2) := by decide +kernel
theorem dX10_cover_53 : decode cX10_cover 53 = .ok (.ishl, 1) := by decide +kernel
theorem dX10_cover_54 : decode cX10_cover 54 = .ok (.istore 6, 2) := by decide +kernel
theorem dX10_cover_56 : decode cX10_cover 56 = .ok (.iload 5, 2) := by decide +kernel
theorem dX10_cover_58 : decode cX10_cover 58 = .ok (.iconst 1, 1) := by decide +kernel
theorem dX10_cover_59 : decode cX10_cover 59 = .ok (.iadd, 1) := by decide +kernel
theorem dX10_cover_60 : decode cX10_cover 60 = .ok (.istore 7, 2) := by decide +kernel
theorem dX10_cover_62 : decode cX10_cover 62 = .ok (.iload 7, 2) := by decide +kernel
theorem dX10_cover_64 : decode cX10_cover 64 = .ok (.aload_n 0, 1) := by decide +kernel
theorem dX10_cover_65 : decode cX10_cover 65 = .ok (.getfield 75, 3) := by decide +kernel
theorem dX10_cover_68 : decode cX10_cover 68 = .ok (.if_icmp .ge 61, 3) := by decide +kernel
theorem dX10_cover_71 : decode cX10_cover 71 = .ok (.iload 7, 2) := by decide +kernel
theorem dX10_cover_73 : decode cX10_cover 73 = .ok (.aload_n 0, 1) := by decide +kernel
theorem dX10_cover_74 : decode cX10_cover 74 = .ok (.getfield 63, 3) := by decide +kernel
theorem dX10_cover_77 : decode cX10_cover 77 = .ok (.iload_n 1, 1) := by decide +kernel
theorem dX10_cover_78 : decode cX10_cover 78 = .ok (.iaload, 1) := by decide +kernel
theorem dX10_cover_79 : decode cX10_cover 79 = .ok (.if_icmp .ge 50, 3) := by decide +kernel
theorem dX10_cover_82 : decode cX10_cover 82 = .ok (.iload 6, 2) := by decide +kernel
theorem dX10_cover_84 : decode cX10_cover 84 = .ok (.aload_n 0, 1) := by decide +kernel
theorem dX10_cover_85 : decode cX10_cover 85 = .ok (.getfield 66, 3) := by decide +kernel
theorem dX10_cover_88 : decode cX10_cover 88 = .ok (.bipush 30, 2) := by decide +kernel
theorem dX10_cover_90 : decode cX10_cover 90 = .ok (.iload_n 1, 1) := by decide +kernel
theorem dX10_cover_91 : decode cX10_cover 91 = .ok (.imul, 1) := by decide +kernel
theorem dX10_cover_92 : decode cX10_cover 92 = .ok (.iload 7, 2) := by decide +kernel
theorem dX10_cover_94 : decode cX10_cover 94 = .ok (.iadd, 1) := by decide +kernel
theorem dX10_cover_95 : decode cX10_cover 95 = .ok (.laload, 1) := by decide +kernel
theorem dX10_cover_96 : decode cX10_cover 96 = .ok (.aload_n 0, 1) := by decide +kernel
theorem dX10_cover_97 : decode cX10_cover 97 = .ok (.getfield 66, 3) := by decide +kernel
theorem dX10_cover_100 : decode cX10_cover 100 = .ok (.bipush 30, 2) := by decide +kernel
theorem dX10_cover_102 : decode cX10_cover 102 = .ok (.iload_n 1, 1) := by decide +kernel
theorem dX10_cover_103 : decode cX10_cover 103 = .ok (.imul, 1) := by decide +kernel
theorem dX10_cover_104 : decode cX10_cover 104 = .ok (.iload 5, 2) := by decide +kernel
theorem dX10_cover_106 : decode cX10_cover 106 = .ok (.iadd, 1) := by decide +kernel
theorem dX10_cover_107 : decode cX10_cover 107 = .ok (.laload, 1) := by decide +kernel
theorem dX10_cover_108 : decode cX10_cover 108 = .ok (.lcmp, 1) := by decide +kernel
theorem dX10_cover_109 : decode cX10_cover 109 = .ok (.ifCond .ne 10, 3) := by decide +kernel
theorem dX10_cover_112 : decode cX10_cover 112 = .ok (.iconst 1, 1) := by decide +kernel
theorem dX10_cover_113 : decode cX10_cover 113 = .ok (.iload 7, 2) := by decide +kernel
theorem dX10_cover_115 : decode cX10_cover 115 = .ok (.ishl, 1) := by decide +kernel
theorem dX10_cover_116 : decode cX10_cover 116 = .ok (.goto 4, 3) := by decide +kernel
theorem dX10_cover_119 : decode cX10_cover 119 = .ok (.iconst 0, 1) := by decide +kernel
theorem dX10_cover_120 : decode cX10_cover 120 = .ok (.ior, 1) := by decide +kernel
theorem dX10_cover_121 : decode cX10_cover 121 = .ok (.istore 6, 2) := by decide +kernel
theorem dX10_cover_123 : decode cX10_cover 123 = .ok (.iinc 7 1, 3) := by decide +kernel
theorem dX10_cover_126 : decode cX10_cover 126 = .ok (.goto (-64), 3) := by decide +kernel
theorem dX10_cover_129 : decode cX10_cover 129 = .ok (.iload_n 3, 1) := by decide +kernel
theorem dX10_cover_130 : decode cX10_cover 130 = .ok (.iload 4, 2) := by decide +kernel
theorem dX10_cover_132 : decode cX10_cover 132 = .ok (.iload 5, 2) := by decide +kernel
theorem dX10_cover_134 : decode cX10_cover 134 = .ok (.invokestatic 149, 3) := by decide +kernel
theorem dX10_cover_137 : decode cX10_cover 137 = .ok (.ifCond .eq 7, 3) := by decide +kernel
theorem dX10_cover_140 : decode cX10_cover 140 = .ok (.iconst 0, 1) := by decide +kernel
theorem dX10_cover_141 : decode cX10_cover 141 = .ok (.goto 10, 3) := by decide +kernel
theorem dX10_cover_144 : decode cX10_cover 144 = .ok (.aload_n 0, 1) := by decide +kernel
theorem dX10_cover_145 : decode cX10_cover 145 = .ok (.iload 6, 2) := by decide +kernel
theorem dX10_cover_147 : decode cX10_cover 147 = .ok (.iload_n 2, 1) := by decide +kernel
theorem dX10_cover_148 : decode cX10_cover 148 = .ok (.invokevirtual 241, 3) := by decide +kernel
theorem dX10_cover_151 : decode cX10_cover 151 = .ok (.iadd, 1) := by decide +kernel
theorem dX10_cover_152 : decode cX10_cover 152 = .ok (.istore_n 3, 1) := by decide +kernel
theorem dX10_cover_153 : decode cX10_cover 153 = .ok (.iload 4, 2) := by decide +kernel
theorem dX10_cover_155 : decode cX10_cover 155 = .ok (.iload 6, 2) := by decide +kernel
theorem dX10_cover_157 : decode cX10_cover 157 = .ok (.ior, 1) := by decide +kernel
theorem dX10_cover_158 : decode cX10_cover 158 = .ok (.istore 4, 2) := by decide +kernel
theorem dX10_cover_160 : decode cX10_cover 160 = .ok (.iinc 5 1, 3) := by decide +kernel
theorem dX10_cover_163 : decode cX10_cover 163 = .ok (.goto (-122), 3) := by decide +kernel
theorem dX10_cover_166 : decode cX10_cover 166 = .ok (.iload_n 3, 1) := by decide +kernel
theorem dX10_cover_167 : decode cX10_cover 167 = .ok (.ireturn, 1) := by decide +kernel
theorem dX10_cheap_0 : decode cX10_cheap 0 = .ok (.iload_n 1, 1) := by decide +kernel
theorem dX10_cheap_1 : decode cX10_cheap 1 = .ok (.i2l, 1) := by decide +kernel
theorem dX10_cheap_2 : decode cX10_cheap 2 = .ok (.lconst 0, 1) := by decide +kernel
theorem dX10_cheap_3 : decode cX10_cheap 3 = .ok (.lconst 1, 1) := by decide +kernel
theorem dX10_cheap_4 : decode cX10_cheap 4 = .ok (.invokestatic 78, 3) := by decide +kernel
theorem dX10_cheap_7 : decode cX10_cheap 7 = .ok (.ifCond .eq 13, 3) := by decide +kernel
theorem dX10_cheap_10 : decode cX10_cheap 10 = .ok (.iload_n 2, 1) := by decide +kernel
theorem dX10_cheap_11 : decode cX10_cheap 11 = .ok (.i2l, 1) := by decide +kernel
theorem dX10_cheap_12 : decode cX10_cheap 12 = .ok (.lconst 0, 1) := by decide +kernel
theorem dX10_cheap_13 : decode cX10_cheap 13 = .ok (.lconst 1, 1) := by decide +kernel
theorem dX10_cheap_14 : decode cX10_cheap 14 = .ok (.invokestatic 78, 3) := by decide +kernel
theorem dX10_cheap_17 : decode cX10_cheap 17 = .ok (.ifCond .ne 6, 3) := by decide +kernel
theorem dX10_cheap_20 : decode cX10_cheap 20 = .ok (.bipush (-2), 2) := by decide +kernel
theorem dX10_cheap_22 : decode cX10_cheap 22 = .ok (.ireturn, 1) := by decide +kernel
theorem dX10_cheap_23 : decode cX10_cheap 23 = .ok (.iconst (-1), 1) := by decide +kernel
theorem dX10_cheap_24 : decode cX10_cheap 24 = .ok (.istore_n 3, 1) := by decide +kernel
theorem dX10_cheap_25 : decode cX10_cheap 25 = .ok (.iconst 0, 1) := by decide +kernel
theorem dX10_cheap_26 : decode cX10_cheap 26 = .ok (.istore 4, 2) := by decide +kernel
theorem dX10_cheap_28 : decode cX10_cheap 28 = .ok (.iconst 0, 1) := by decide +kernel
theorem dX10_cheap_29 : decode cX10_cheap 29 = .ok (.istore 5, 2) := by decide +kernel
theorem dX10_cheap_31 : decode cX10_cheap 31 = .ok (.aload_n 0, 1) := by decide +kernel
theorem dX10_cheap_32 : decode cX10_cheap 32 = .ok (.iload 5, 2) := by decide +kernel
theorem dX10_cheap_34 : decode cX10_cheap 34 = .ok (.invokevirtual 238, 3) := by decide +kernel
theorem dX10_cheap_37 : decode cX10_cheap 37 = .ok (.ifCond .eq 96, 3) := by decide +kernel
theorem dX10_cheap_40 : decode cX10_cheap 40 = .ok (.iload 5, 2) := by decide +kernel
theorem dX10_cheap_42 : decode cX10_cheap 42 = .ok (.invokestatic 164, 3) := by decide +kernel
theorem dX10_cheap_45 : decode cX10_cheap 45 = .ok (.istore 6, 2) := by decide +kernel
theorem dX10_cheap_47 : decode cX10_cheap 47 = .ok (.iload_n 1, 1) := by decide +kernel
theorem dX10_cheap_48 : decode cX10_cheap 48 = .ok (.ifCond .ne 22, 3) := by decide +kernel
theorem dX10_cheap_51 : decode cX10_cheap 51 = .ok (.iload 6, 2) := by decide +kernel
theorem dX10_cheap_53 : decode cX10_cheap 53 = .ok (.aload_n 0, 1) := by decide +kernel
theorem dX10_cheap_54 : decode cX10_cheap 54 = .ok (.iconst 1, 1) := by decide +kernel
theorem dX10_cheap_55 : decode cX10_cheap 55 = .ok (.aload_n 0, 1) := by decide +kernel
theorem dX10_cheap_56 : decode cX10_cheap 56 = .ok (.getfield 75, 3) := by decide +kernel
theorem dX10_cheap_59 : decode cX10_cheap 59 = .ok (.ishl, 1) := by decide +kernel
theorem dX10_cheap_60 : decode cX10_cheap 60 = .ok (.iconst 1, 1) := by decide +kernel
theorem dX10_cheap_61 : decode cX10_cheap 61 = .ok (.isub, 1) := by decide +kernel
theorem dX10_cheap_62 : decode cX10_cheap 62 = .ok (.iload 5, 2) := by decide +kernel
theorem dX10_cheap_64 : decode cX10_cheap 64 = .ok (.invokevirtual 241, 3) := by decide +kernel
theorem dX10_cheap_67 : decode cX10_cheap 67 = .ok (.iadd, 1) := by decide +kernel
theorem dX10_cheap_68 : decode cX10_cheap 68 = .ok (.istore 6, 2) := by decide +kernel
theorem dX10_cheap_70 : decode cX10_cheap 70 = .ok (.iconst 0, 1) := by decide +kernel
theorem dX10_cheap_71 : decode cX10_cheap 71 = .ok (.istore 7, 2) := by decide +kernel
theorem dX10_cheap_73 : decode cX10_cheap 73 = .ok (.iload 7, 2) := by decide +kernel
theorem dX10_cheap_75 : decode cX10_cheap 75 = .ok (.aload_n 0, 1) := by decide +kernel
theorem dX10_cheap_76 : decode cX10_cheap 76 = .ok (.getfield 75, 3) := by decide +kernel
theorem dX10_cheap_79 : decode cX10_cheap 79 = .ok (.if_icmp .ge 29, 3) := by decide +kernel
theorem dX10_cheap_82 : decode cX10_cheap 82 = .ok (.iload_n 1, 1) := by decide +kernel
theorem dX10_cheap_83 : decode cX10_cheap 83 = .ok (.iconst 1, 1) := by decide +kernel
theorem dX10_cheap_84 : decode cX10_cheap 84 = .ok (.if_icmp .ne 24, 3) := by decide +kernel
theorem dX10_cheap_87 : decode cX10_cheap 87 = .ok (.iload 6, 2) := by decide +kernel
theorem dX10_cheap_89 : decode cX10_cheap 89 = .ok (.aload_n 0, 1) := by decide +kernel
theorem dX10_cheap_90 : decode cX10_cheap 90 = .ok (.iconst 1, 1) := by decide +kernel
theorem dX10_cheap_91 : decode cX10_cheap 91 = .ok (.iload 7, 2) := by decide +kernel
theorem dX10_cheap_93 : decode cX10_cheap 93 = .ok (.ishl, 1) := by decide +kernel
theorem dX10_cheap_94 : decode cX10_cheap 94 = .ok (.iload 5, 2) := by decide +kernel
theorem dX10_cheap_96 : decode cX10_cheap 96 = .ok (.invokevirtual 241, 3) := by decide +kernel
theorem dX10_cheap_99 : decode cX10_cheap 99 = .ok (.iadd, 1) := by decide +kernel
theorem dX10_cheap_100 : decode cX10_cheap 100 = .ok (.istore 6, 2) := by decide +kernel
theorem dX10_cheap_102 : decode cX10_cheap 102 = .ok (.iinc 7 1, 3) := by decide +kernel
theorem dX10_cheap_105 : decode cX10_cheap 105 = .ok (.goto (-32), 3) := by decide +kernel
theorem dX10_cheap_108 : decode cX10_cheap 108 = .ok (.iload_n 3, 1) := by decide +kernel
theorem dX10_cheap_109 : decode cX10_cheap 109 = .ok (.iconst (-1), 1) := by decide +kernel
theorem dX10_cheap_110 : decode cX10_cheap 110 = .ok (.if_icmp .eq 10, 3) := by decide +kernel
theorem dX10_cheap_113 : decode cX10_cheap 113 = .ok (.iload 6, 2) := by decide +kernel
theorem dX10_cheap_115 : decode cX10_cheap 115 = .ok (.iload 4, 2) := by decide +kernel
theorem dX10_cheap_117 : decode cX10_cheap 117 = .ok (.if_icmp .ge 10, 3) := by decide +kernel
theorem dX10_cheap_120 : decode cX10_cheap 120 = .ok (.iload 5, 2) := by decide +kernel
theorem dX10_cheap_122 : decode cX10_cheap 122 = .ok (.istore_n 3, 1) := by decide +kernel
theorem dX10_cheap_123 : decode cX10_cheap 123 = .ok (.iload 6, 2) := by decide +kernel
theorem dX10_cheap_125 : decode cX10_cheap 125 = .ok (.istore 4, 2) := by decide +kernel
theorem dX10_cheap_127 : decode cX10_cheap 127 = .ok (.iinc 5 1, 3) := by decide +kernel
theorem dX10_cheap_130 : decode cX10_cheap 130 = .ok (.goto (-99), 3) := by decide +kernel
theorem dX10_cheap_133 : decode cX10_cheap 133 = .ok (.iload_n 2, 1) := by decide +kernel
theorem dX10_cheap_134 : decode cX10_cheap 134 = .ok (.ifCond .ne 8, 3) := by decide +kernel
theorem dX10_cheap_137 : decode cX10_cheap 137 = .ok (.iload 4, 2) := by decide +kernel
theorem dX10_cheap_139 : decode cX10_cheap 139 = .ok (.goto 4, 3) := by decide +kernel
theorem dX10_cheap_142 : decode cX10_cheap 142 = .ok (.iload_n 3, 1) := by decide +kernel
theorem dX10_cheap_143 : decode cX10_cheap 143 = .ok (.ireturn, 1) := by decide +kernel
theorem dX10_rayBy_0 : decode cX10_rayBy 0 = .ok (.iconst 0, 1) := by decide +kernel
theorem dX10_rayBy_1 : decode cX10_rayBy 1 = .ok (.istore_n 3, 1) := by decide +kernel
theorem dX10_rayBy_2 : decode cX10_rayBy 2 = .ok (.lconst 0, 1) := by decide +kernel
theorem dX10_rayBy_3 : decode cX10_rayBy 3 = .ok (.lstore 4, 2) := by decide +kernel
theorem dX10_rayBy_5 : decode cX10_rayBy 5 = .ok (.iconst 0, 1) := by decide +kernel
theorem dX10_rayBy_6 : decode cX10_rayBy 6 = .ok (.istore 6, 2) := by decide +kernel
theorem dX10_rayBy_8 : decode cX10_rayBy 8 = .ok (.iload 6, 2) := by decide +kernel
theorem dX10_rayBy_10 : decode cX10_rayBy 10 = .ok (.aload_n 0, 1) := by decide +kernel
theorem dX10_rayBy_11 : decode cX10_rayBy 11 = .ok (.getfield 13, 3) := by decide +kernel
theorem dX10_rayBy_14 : decode cX10_rayBy 14 = .ok (.if_icmp .ge 57, 3) := by decide +kernel
theorem dX10_rayBy_17 : decode cX10_rayBy 17 = .ok (.aload_n 0, 1) := by decide +kernel
theorem dX10_rayBy_18 : decode cX10_rayBy 18 = .ok (.iload_n 1, 1) := by decide +kernel
theorem dX10_rayBy_19 : decode cX10_rayBy 19 = .ok (.iload_n 2, 1) := by decide +kernel
theorem dX10_rayBy_20 : decode cX10_rayBy 20 = .ok (.iload 6, 2) := by decide +kernel
theorem dX10_rayBy_22 : decode cX10_rayBy 22 = .ok (.invokevirtual 121, 3) := by decide +kernel
theorem dX10_rayBy_25 : decode cX10_rayBy 25 = .ok (.istore 7, 2) := by decide +kernel
theorem dX10_rayBy_27 : decode cX10_rayBy 27 = .ok (.iload_n 3, 1) := by decide +kernel
theorem dX10_rayBy_28 : decode cX10_rayBy 28 = .ok (.ifCond .ne 8, 3) := by decide +kernel
theorem dX10_rayBy_31 : decode cX10_rayBy 31 = .ok (.iload 7, 2) := by decide +kernel
theorem dX10_rayBy_33 : decode cX10_rayBy 33 = .ok (.goto 4, 3) := by decide +kernel
theorem dX10_rayBy_36 : decode cX10_rayBy 36 = .ok (.iload_n 3, 1) := by decide +kernel
theorem dX10_rayBy_37 : decode cX10_rayBy 37 = .ok (.istore_n 3, 1) := by decide +kernel
theorem dX10_rayBy_38 : decode cX10_rayBy 38 = .ok (.lload 4, 2) := by decide +kernel
theorem dX10_rayBy_40 : decode cX10_rayBy 40 = .ok (.aload_n 0, 1) := by decide +kernel
theorem dX10_rayBy_41 : decode cX10_rayBy 41 = .ok (.getfield 7, 3) := by decide +kernel
theorem dX10_rayBy_44 : decode cX10_rayBy 44 = .ok (.i2l, 1) := by decide +kernel
theorem dX10_rayBy_45 : decode cX10_rayBy 45 = .ok (.lmul, 1) := by decide +kernel
theorem dX10_rayBy_46 : decode cX10_rayBy 46 = .ok (.iload_n 3, 1) := by decide +kernel
theorem dX10_rayBy_47 : decode cX10_rayBy 47 = .ok (.ifCond .ne 7, 3) := by decide +kernel
theorem dX10_rayBy_50 : decode cX10_rayBy 50 = .ok (.iconst 0, 1) := by decide +kernel
theorem dX10_rayBy_51 : decode cX10_rayBy 51 = .ok (.goto 10, 3) := by decide +kernel
theorem dX10_rayBy_54 : decode cX10_rayBy 54 = .ok (.aload_n 0, 1) := by decide +kernel
theorem dX10_rayBy_55 : decode cX10_rayBy 55 = .ok (.iload 7, 2) := by decide +kernel
theorem dX10_rayBy_57 : decode cX10_rayBy 57 = .ok (.iload_n 3, 1) := by decide +kernel
theorem dX10_rayBy_58 : decode cX10_rayBy 58 = .ok (.invokevirtual 96, 3) := by decide +kernel
theorem dX10_rayBy_61 : decode cX10_rayBy 61 = .ok (.i2l, 1) := by decide +kernel
theorem dX10_rayBy_62 : decode cX10_rayBy 62 = .ok (.ladd, 1) := by decide +kernel
theorem dX10_rayBy_63 : decode cX10_rayBy 63 = .ok (.lstore 4, 2) := by decide +kernel
theorem dX10_rayBy_65 : decode cX10_rayBy 65 = .ok (.iinc 6 1, 3) := by decide +kernel
theorem dX10_rayBy_68 : decode cX10_rayBy 68 = .ok (.goto (-60), 3) := by decide +kernel
theorem dX10_rayBy_71 : decode cX10_rayBy 71 = .ok (.iload_n 3, 1) := by decide +kernel
theorem dX10_rayBy_72 : decode cX10_rayBy 72 = .ok (.ifCond .ne 9, 3) := by decide +kernel
theorem dX10_rayBy_75 : decode cX10_rayBy 75 = .ok (.ldc2_w 206, 3) := by decide +kernel
theorem dX10_rayBy_78 : decode cX10_rayBy 78 = .ok (.goto 5, 3) := by decide +kernel
theorem dX10_rayBy_81 : decode cX10_rayBy 81 = .ok (.lload 4, 2) := by decide +kernel
theorem dX10_rayBy_83 : decode cX10_rayBy 83 = .ok (.lreturn, 1) := by decide +kernel
theorem dX10_findsRays_0 : decode cX10_findsRays 0 = .ok (.aload_n 0, 1) := by decide +kernel
theorem dX10_findsRays_1 : decode cX10_findsRays 1 = .ok (.iconst 0, 1) := by decide +kernel
theorem dX10_findsRays_2 : decode cX10_findsRays 2 = .ok (.putfield 244, 3) := by decide +kernel
theorem dX10_findsRays_5 : decode cX10_findsRays 5 = .ok (.iconst 0, 1) := by decide +kernel
theorem dX10_findsRays_6 : decode cX10_findsRays 6 = .ok (.istore_n 1, 1) := by decide +kernel
theorem dX10_findsRays_7 : decode cX10_findsRays 7 = .ok (.iload_n 1, 1) := by decide +kernel
theorem dX10_findsRays_8 : decode cX10_findsRays 8 = .ok (.iconst 2, 1) := by decide +kernel
theorem dX10_findsRays_9 : decode cX10_findsRays 9 = .ok (.aload_n 0, 1) := by decide +kernel
theorem dX10_findsRays_10 : decode cX10_findsRays 10 = .ok (.getfield 75, 3) := by decide +kernel
theorem dX10_findsRays_13 : decode cX10_findsRays 13 = .ok (.imul, 1) := by decide +kernel
theorem dX10_findsRays_14 : decode cX10_findsRays 14 = .ok (.if_icmp .ge 133, 3) := by decide +kernel
theorem dX10_findsRays_17 : decode cX10_findsRays 17 = .ok (.aload_n 0, 1) := by decide +kernel
theorem dX10_findsRays_18 : decode cX10_findsRays 18 = .ok (.iload_n 1, 1) := by decide +kernel
theorem dX10_findsRays_19 : decode cX10_findsRays 19 = .ok (.iconst 2, 1) := by decide +kernel
theorem dX10_findsRays_20 : decode cX10_findsRays 20 = .ok (.idiv, 1) := by decide +kernel
theorem dX10_findsRays_21 : decode cX10_findsRays 21 = .ok (.iload_n 1, 1) := by decide +kernel
theorem dX10_findsRays_22 : decode cX10_findsRays 22 = .ok (.iconst 2, 1) := by decide +kernel
theorem dX10_findsRays_23 : decode cX10_findsRays 23 = .ok (.irem, 1) := by decide +kernel
theorem dX10_findsRays_24 : decode cX10_findsRays 24 = .ok (.invokevirtual 247, 3) := by decide +kernel
theorem dX10_findsRays_27 : decode cX10_findsRays 27 = .ok (.lstore_n 2, 1) := by decide +kernel
end
section
theorem dX10_findsRays_28 : decode cX10_findsRays 28 = .ok (.iconst 0, 1) := by decide +kernel
theorem dX10_findsRays_29 : decode cX10_findsRays 29 = .ok (.istore 4, 2) := by decide +kernel
theorem dX10_findsRays_31 : decode cX10_findsRays 31 = .ok (.iload 4, 2) := by decide +kernel
theorem dX10_findsRays_33 : decode cX10_findsRays 33 = .ok (.aload_n 0, 1) := by decide +kernel
theorem dX10_findsRays_34 : decode cX10_findsRays 34 = .ok (.getfield 244, 3) := by decide +kernel
theorem dX10_findsRays_37 : decode cX10_findsRays 37 = .ok (.if_icmp .ge 21, 3) := by decide +kernel
theorem dX10_findsRays_40 : decode cX10_findsRays 40 = .ok (.aload_n 0, 1) := by decide +kernel
theorem dX10_findsRays_41 : decode cX10_findsRays 41 = .ok (.getfield 42, 3) := by decide +kernel
theorem dX10_findsRays_44 : decode cX10_findsRays 44 = .ok (.iload 4, 2) := by decide +kernel
theorem dX10_findsRays_46 : decode cX10_findsRays 46 = .ok (.laload, 1) := by decide +kernel
theorem dX10_findsRays_47 : decode cX10_findsRays 47 = .ok (.lload_n 2, 1) := by decide +kernel
theorem dX10_findsRays_48 : decode cX10_findsRays 48 = .ok (.lcmp, 1) := by decide +kernel
theorem dX10_findsRays_49 : decode cX10_findsRays 49 = .ok (.ifCond .ge 9, 3) := by decide +kernel
theorem dX10_findsRays_52 : decode cX10_findsRays 52 = .ok (.iinc 4 1, 3) := by decide +kernel
theorem dX10_findsRays_55 : decode cX10_findsRays 55 = .ok (.goto (-24), 3) := by decide +kernel
theorem dX10_findsRays_58 : decode cX10_findsRays 58 = .ok (.lload_n 2, 1) := by decide +kernel
theorem dX10_findsRays_59 : decode cX10_findsRays 59 = .ok (.lconst 0, 1) := by decide +kernel
theorem dX10_findsRays_60 : decode cX10_findsRays 60 = .ok (.lcmp, 1) := by decide +kernel
theorem dX10_findsRays_61 : decode cX10_findsRays 61 = .ok (.ifCond .lt 80, 3) := by decide +kernel
theorem dX10_findsRays_64 : decode cX10_findsRays 64 = .ok (.iload 4, 2) := by decide +kernel
theorem dX10_findsRays_66 : decode cX10_findsRays 66 = .ok (.aload_n 0, 1) := by decide +kernel
theorem dX10_findsRays_67 : decode cX10_findsRays 67 = .ok (.getfield 244, 3) := by decide +kernel
theorem dX10_findsRays_70 : decode cX10_findsRays 70 = .ok (.if_icmp .ge 18, 3) := by decide +kernel
theorem dX10_findsRays_73 : decode cX10_findsRays 73 = .ok (.aload_n 0, 1) := by decide +kernel
theorem dX10_findsRays_74 : decode cX10_findsRays 74 = .ok (.getfield 42, 3) := by decide +kernel
theorem dX10_findsRays_77 : decode cX10_findsRays 77 = .ok (.iload 4, 2) := by decide +kernel
theorem dX10_findsRays_79 : decode cX10_findsRays 79 = .ok (.laload, 1) := by decide +kernel
theorem dX10_findsRays_80 : decode cX10_findsRays 80 = .ok (.lload_n 2, 1) := by decide +kernel
theorem dX10_findsRays_81 : decode cX10_findsRays 81 = .ok (.lcmp, 1) := by decide +kernel
theorem dX10_findsRays_82 : decode cX10_findsRays 82 = .ok (.ifCond .ne 6, 3) := by decide +kernel
theorem dX10_findsRays_85 : decode cX10_findsRays 85 = .ok (.goto 56, 3) := by decide +kernel
theorem dX10_findsRays_88 : decode cX10_findsRays 88 = .ok (.aload_n 0, 1) := by decide +kernel
theorem dX10_findsRays_89 : decode cX10_findsRays 89 = .ok (.getfield 244, 3) := by decide +kernel
theorem dX10_findsRays_92 : decode cX10_findsRays 92 = .ok (.istore 5, 2) := by decide +kernel
theorem dX10_findsRays_94 : decode cX10_findsRays 94 = .ok (.iload 5, 2) := by decide +kernel
theorem dX10_findsRays_96 : decode cX10_findsRays 96 = .ok (.iload 4, 2) := by decide +kernel
theorem dX10_findsRays_98 : decode cX10_findsRays 98 = .ok (.if_icmp .le 25, 3) := by decide +kernel
theorem dX10_findsRays_101 : decode cX10_findsRays 101 = .ok (.aload_n 0, 1) := by decide +kernel
theorem dX10_findsRays_102 : decode cX10_findsRays 102 = .ok (.getfield 42, 3) := by decide +kernel
theorem dX10_findsRays_105 : decode cX10_findsRays 105 = .ok (.iload 5, 2) := by decide +kernel
theorem dX10_findsRays_107 : decode cX10_findsRays 107 = .ok (.aload_n 0, 1) := by decide +kernel
theorem dX10_findsRays_108 : decode cX10_findsRays 108 = .ok (.getfield 42, 3) := by decide +kernel
theorem dX10_findsRays_111 : decode cX10_findsRays 111 = .ok (.iload 5, 2) := by decide +kernel
theorem dX10_findsRays_113 : decode cX10_findsRays 113 = .ok (.iconst 1, 1) := by decide +kernel
theorem dX10_findsRays_114 : decode cX10_findsRays 114 = .ok (.isub, 1) := by decide +kernel
theorem dX10_findsRays_115 : decode cX10_findsRays 115 = .ok (.laload, 1) := by decide +kernel
theorem dX10_findsRays_116 : decode cX10_findsRays 116 = .ok (.lastore, 1) := by decide +kernel
theorem dX10_findsRays_117 : decode cX10_findsRays 117 = .ok (.iinc 5 (-1), 3) := by decide +kernel
theorem dX10_findsRays_120 : decode cX10_findsRays 120 = .ok (.goto (-26), 3) := by decide +kernel
theorem dX10_findsRays_123 : decode cX10_findsRays 123 = .ok (.aload_n 0, 1) := by decide +kernel
theorem dX10_findsRays_124 : decode cX10_findsRays 124 = .ok (.getfield 42, 3) := by decide +kernel
theorem dX10_findsRays_127 : decode cX10_findsRays 127 = .ok (.iload 4, 2) := by decide +kernel
theorem dX10_findsRays_129 : decode cX10_findsRays 129 = .ok (.lload_n 2, 1) := by decide +kernel
theorem dX10_findsRays_130 : decode cX10_findsRays 130 = .ok (.lastore, 1) := by decide +kernel
theorem dX10_findsRays_131 : decode cX10_findsRays 131 = .ok (.aload_n 0, 1) := by decide +kernel
theorem dX10_findsRays_132 : decode cX10_findsRays 132 = .ok (.dup, 1) := by decide +kernel
theorem dX10_findsRays_133 : decode cX10_findsRays 133 = .ok (.getfield 244, 3) := by decide +kernel
theorem dX10_findsRays_136 : decode cX10_findsRays 136 = .ok (.iconst 1, 1) := by decide +kernel
theorem dX10_findsRays_137 : decode cX10_findsRays 137 = .ok (.iadd, 1) := by decide +kernel
theorem dX10_findsRays_138 : decode cX10_findsRays 138 = .ok (.putfield 244, 3) := by decide +kernel
theorem dX10_findsRays_141 : decode cX10_findsRays 141 = .ok (.iinc 1 1, 3) := by decide +kernel
theorem dX10_findsRays_144 : decode cX10_findsRays 144 = .ok (.goto (-137), 3) := by decide +kernel
theorem dX10_findsRays_147 : decode cX10_findsRays 147 = .ok (.return_, 1) := by decide +kernel
theorem dX10_rays_0 : decode cX10_rays 0 = .ok (.aload_n 0, 1) := by decide +kernel
theorem dX10_rays_1 : decode cX10_rays 1 = .ok (.invokevirtual 251, 3) := by decide +kernel
theorem dX10_rays_4 : decode cX10_rays 4 = .ok (.aload_n 0, 1) := by decide +kernel
theorem dX10_rays_5 : decode cX10_rays 5 = .ok (.getfield 244, 3) := by decide +kernel
theorem dX10_rays_8 : decode cX10_rays 8 = .ok (.ireturn, 1) := by decide +kernel
theorem dX10_ray_0 : decode cX10_ray 0 = .ok (.aload_n 0, 1) := by decide +kernel
theorem dX10_ray_1 : decode cX10_ray 1 = .ok (.invokevirtual 251, 3) := by decide +kernel
theorem dX10_ray_4 : decode cX10_ray 4 = .ok (.iload_n 1, 1) := by decide +kernel
theorem dX10_ray_5 : decode cX10_ray 5 = .ok (.i2l, 1) := by decide +kernel
theorem dX10_ray_6 : decode cX10_ray 6 = .ok (.lconst 0, 1) := by decide +kernel
theorem dX10_ray_7 : decode cX10_ray 7 = .ok (.aload_n 0, 1) := by decide +kernel
theorem dX10_ray_8 : decode cX10_ray 8 = .ok (.getfield 244, 3) := by decide +kernel
theorem dX10_ray_11 : decode cX10_ray 11 = .ok (.iconst 1, 1) := by decide +kernel
theorem dX10_ray_12 : decode cX10_ray 12 = .ok (.isub, 1) := by decide +kernel
theorem dX10_ray_13 : decode cX10_ray 13 = .ok (.i2l, 1) := by decide +kernel
theorem dX10_ray_14 : decode cX10_ray 14 = .ok (.invokestatic 78, 3) := by decide +kernel
theorem dX10_ray_17 : decode cX10_ray 17 = .ok (.ifCond .eq 12, 3) := by decide +kernel
theorem dX10_ray_20 : decode cX10_ray 20 = .ok (.aload_n 0, 1) := by decide +kernel
theorem dX10_ray_21 : decode cX10_ray 21 = .ok (.getfield 42, 3) := by decide +kernel
theorem dX10_ray_24 : decode cX10_ray 24 = .ok (.iload_n 1, 1) := by decide +kernel
theorem dX10_ray_25 : decode cX10_ray 25 = .ok (.laload, 1) := by decide +kernel
theorem dX10_ray_26 : decode cX10_ray 26 = .ok (.goto 6, 3) := by decide +kernel
theorem dX10_ray_29 : decode cX10_ray 29 = .ok (.ldc2_w 136, 3) := by decide +kernel
theorem dX10_ray_32 : decode cX10_ray 32 = .ok (.lreturn, 1) := by decide +kernel
theorem dX10_rayOf_0 : decode cX10_rayOf 0 = .ok (.aload_n 0, 1) := by decide +kernel
theorem dX10_rayOf_1 : decode cX10_rayOf 1 = .ok (.iload_n 1, 1) := by decide +kernel
theorem dX10_rayOf_2 : decode cX10_rayOf 2 = .ok (.invokevirtual 104, 3) := by decide +kernel
theorem dX10_rayOf_5 : decode cX10_rayOf 5 = .ok (.ifCond .eq 13, 3) := by decide +kernel
theorem dX10_rayOf_8 : decode cX10_rayOf 8 = .ok (.iload_n 2, 1) := by decide +kernel
theorem dX10_rayOf_9 : decode cX10_rayOf 9 = .ok (.i2l, 1) := by decide +kernel
theorem dX10_rayOf_10 : decode cX10_rayOf 10 = .ok (.lconst 0, 1) := by decide +kernel
theorem dX10_rayOf_11 : decode cX10_rayOf 11 = .ok (.lconst 1, 1) := by decide +kernel
theorem dX10_rayOf_12 : decode cX10_rayOf 12 = .ok (.invokestatic 78, 3) := by decide +kernel
theorem dX10_rayOf_15 : decode cX10_rayOf 15 = .ok (.ifCond .ne 6, 3) := by decide +kernel
theorem dX10_rayOf_18 : decode cX10_rayOf 18 = .ok (.bipush (-2), 2) := by decide +kernel
theorem dX10_rayOf_20 : decode cX10_rayOf 20 = .ok (.ireturn, 1) := by decide +kernel
theorem dX10_rayOf_21 : decode cX10_rayOf 21 = .ok (.aload_n 0, 1) := by decide +kernel
theorem dX10_rayOf_22 : decode cX10_rayOf 22 = .ok (.invokevirtual 251, 3) := by decide +kernel
theorem dX10_rayOf_25 : decode cX10_rayOf 25 = .ok (.aload_n 0, 1) := by decide +kernel
theorem dX10_rayOf_26 : decode cX10_rayOf 26 = .ok (.iload_n 1, 1) := by decide +kernel
theorem dX10_rayOf_27 : decode cX10_rayOf 27 = .ok (.iload_n 2, 1) := by decide +kernel
theorem dX10_rayOf_28 : decode cX10_rayOf 28 = .ok (.invokevirtual 247, 3) := by decide +kernel
theorem dX10_rayOf_31 : decode cX10_rayOf 31 = .ok (.lstore_n 3, 1) := by decide +kernel
theorem dX10_rayOf_32 : decode cX10_rayOf 32 = .ok (.iconst 0, 1) := by decide +kernel
theorem dX10_rayOf_33 : decode cX10_rayOf 33 = .ok (.istore 5, 2) := by decide +kernel
theorem dX10_rayOf_35 : decode cX10_rayOf 35 = .ok (.iload 5, 2) := by decide +kernel
theorem dX10_rayOf_37 : decode cX10_rayOf 37 = .ok (.aload_n 0, 1) := by decide +kernel
theorem dX10_rayOf_38 : decode cX10_rayOf 38 = .ok (.getfield 244, 3) := by decide +kernel
theorem dX10_rayOf_41 : decode cX10_rayOf 41 = .ok (.if_icmp .ge 24, 3) := by decide +kernel
theorem dX10_rayOf_44 : decode cX10_rayOf 44 = .ok (.aload_n 0, 1) := by decide +kernel
theorem dX10_rayOf_45 : decode cX10_rayOf 45 = .ok (.getfield 42, 3) := by decide +kernel
theorem dX10_rayOf_48 : decode cX10_rayOf 48 = .ok (.iload 5, 2) := by decide +kernel
theorem dX10_rayOf_50 : decode cX10_rayOf 50 = .ok (.laload, 1) := by decide +kernel
theorem dX10_rayOf_51 : decode cX10_rayOf 51 = .ok (.lload_n 3, 1) := by decide +kernel
theorem dX10_rayOf_52 : decode cX10_rayOf 52 = .ok (.lcmp, 1) := by decide +kernel
theorem dX10_rayOf_53 : decode cX10_rayOf 53 = .ok (.ifCond .ne 6, 3) := by decide +kernel
theorem dX10_rayOf_56 : decode cX10_rayOf 56 = .ok (.iload 5, 2) := by decide +kernel
theorem dX10_rayOf_58 : decode cX10_rayOf 58 = .ok (.ireturn, 1) := by decide +kernel
theorem dX10_rayOf_59 : decode cX10_rayOf 59 = .ok (.iinc 5 1, 3) := by decide +kernel
theorem dX10_rayOf_62 : decode cX10_rayOf 62 = .ok (.goto (-27), 3) := by decide +kernel
theorem dX10_rayOf_65 : decode cX10_rayOf 65 = .ok (.iconst (-1), 1) := by decide +kernel
theorem dX10_rayOf_66 : decode cX10_rayOf 66 = .ok (.ireturn, 1) := by decide +kernel
theorem dX10_isPoint_0 : decode cX10_isPoint 0 = .ok (.iload_n 0, 1) := by decide +kernel
theorem dX10_isPoint_1 : decode cX10_isPoint 1 = .ok (.i2l, 1) := by decide +kernel
theorem dX10_isPoint_2 : decode cX10_isPoint 2 = .ok (.lconst 0, 1) := by decide +kernel
theorem dX10_isPoint_3 : decode cX10_isPoint 3 = .ok (.ldc2_w 254, 3) := by decide +kernel
theorem dX10_isPoint_6 : decode cX10_isPoint 6 = .ok (.invokestatic 78, 3) := by decide +kernel
theorem dX10_isPoint_9 : decode cX10_isPoint 9 = .ok (.ireturn, 1) := by decide +kernel
theorem dX10_link_0 : decode cX10_link 0 = .ok (.iload_n 1, 1) := by decide +kernel
theorem dX10_link_1 : decode cX10_link 1 = .ok (.invokestatic 256, 3) := by decide +kernel
theorem dX10_link_4 : decode cX10_link 4 = .ok (.ifCond .eq 25, 3) := by decide +kernel
theorem dX10_link_7 : decode cX10_link 7 = .ok (.iload_n 2, 1) := by decide +kernel
theorem dX10_link_8 : decode cX10_link 8 = .ok (.invokestatic 256, 3) := by decide +kernel
theorem dX10_link_11 : decode cX10_link 11 = .ok (.ifCond .eq 18, 3) := by decide +kernel
theorem dX10_link_14 : decode cX10_link 14 = .ok (.iload_n 1, 1) := by decide +kernel
theorem dX10_link_15 : decode cX10_link 15 = .ok (.iload_n 2, 1) := by decide +kernel
theorem dX10_link_16 : decode cX10_link 16 = .ok (.if_icmp .eq 13, 3) := by decide +kernel
theorem dX10_link_19 : decode cX10_link 19 = .ok (.iload_n 3, 1) := by decide +kernel
theorem dX10_link_20 : decode cX10_link 20 = .ok (.i2l, 1) := by decide +kernel
theorem dX10_link_21 : decode cX10_link 21 = .ok (.lconst 0, 1) := by decide +kernel
theorem dX10_link_22 : decode cX10_link 22 = .ok (.lconst 1, 1) := by decide +kernel
theorem dX10_link_23 : decode cX10_link 23 = .ok (.invokestatic 78, 3) := by decide +kernel
theorem dX10_link_26 : decode cX10_link 26 = .ok (.ifCond .ne 6, 3) := by decide +kernel
theorem dX10_link_29 : decode cX10_link 29 = .ok (.bipush (-2), 2) := by decide +kernel
theorem dX10_link_31 : decode cX10_link 31 = .ok (.ireturn, 1) := by decide +kernel
theorem dX10_link_32 : decode cX10_link 32 = .ok (.aload_n 0, 1) := by decide +kernel
theorem dX10_link_33 : decode cX10_link 33 = .ok (.getfield 30, 3) := by decide +kernel
theorem dX10_link_36 : decode cX10_link 36 = .ok (.iload_n 1, 1) := by decide +kernel
theorem dX10_link_37 : decode cX10_link 37 = .ok (.iaload, 1) := by decide +kernel
theorem dX10_link_38 : decode cX10_link 38 = .ok (.iload_n 2, 1) := by decide +kernel
theorem dX10_link_39 : decode cX10_link 39 = .ok (.ishr, 1) := by decide +kernel
theorem dX10_link_40 : decode cX10_link 40 = .ok (.iconst 1, 1) := by decide +kernel
theorem dX10_link_41 : decode cX10_link 41 = .ok (.iand, 1) := by decide +kernel
theorem dX10_link_42 : decode cX10_link 42 = .ok (.istore 4, 2) := by decide +kernel
theorem dX10_link_44 : decode cX10_link 44 = .ok (.iload_n 3, 1) := by decide +kernel
theorem dX10_link_45 : decode cX10_link 45 = .ok (.iconst 1, 1) := by decide +kernel
theorem dX10_link_46 : decode cX10_link 46 = .ok (.if_icmp .ne 37, 3) := by decide +kernel
theorem dX10_link_49 : decode cX10_link 49 = .ok (.iload 4, 2) := by decide +kernel
theorem dX10_link_51 : decode cX10_link 51 = .ok (.ifCond .ne 32, 3) := by decide +kernel
theorem dX10_link_54 : decode cX10_link 54 = .ok (.aload_n 0, 1) := by decide +kernel
theorem dX10_link_55 : decode cX10_link 55 = .ok (.getfield 30, 3) := by decide +kernel
theorem dX10_link_58 : decode cX10_link 58 = .ok (.iload_n 1, 1) := by decide +kernel
theorem dX10_link_59 : decode cX10_link 59 = .ok (.iaload, 1) := by decide +kernel
theorem dX10_link_60 : decode cX10_link 60 = .ok (.invokestatic 164, 3) := by decide +kernel
theorem dX10_link_63 : decode cX10_link 63 = .ok (.iconst 3, 1) := by decide +kernel
theorem dX10_link_64 : decode cX10_link 64 = .ok (.if_icmp .eq 16, 3) := by decide +kernel
theorem dX10_link_67 : decode cX10_link 67 = .ok (.aload_n 0, 1) := by decide +kernel
theorem dX10_link_68 : decode cX10_link 68 = .ok (.getfield 30, 3) := by decide +kernel
theorem dX10_link_71 : decode cX10_link 71 = .ok (.iload_n 2, 1) := by decide +kernel
theorem dX10_link_72 : decode cX10_link 72 = .ok (.iaload, 1) := by decide +kernel
theorem dX10_link_73 : decode cX10_link 73 = .ok (.invokestatic 164, 3) := by decide +kernel
theorem dX10_link_76 : decode cX10_link 76 = .ok (.iconst 3, 1) := by decide +kernel
theorem dX10_link_77 : decode cX10_link 77 = .ok (.if_icmp .ne 6, 3) := by decide +kernel
theorem dX10_link_80 : decode cX10_link 80 = .ok (.bipush (-3), 2) := by decide +kernel
theorem dX10_link_82 : decode cX10_link 82 = .ok (.ireturn, 1) := by decide +kernel
theorem dX10_link_83 : decode cX10_link 83 = .ok (.iload_n 3, 1) := by decide +kernel
theorem dX10_link_84 : decode cX10_link 84 = .ok (.iload 4, 2) := by decide +kernel
theorem dX10_link_86 : decode cX10_link 86 = .ok (.if_icmp .eq 27, 3) := by decide +kernel
theorem dX10_link_89 : decode cX10_link 89 = .ok (.aload_n 0, 1) := by decide +kernel
theorem dX10_link_90 : decode cX10_link 90 = .ok (.getfield 30, 3) := by decide +kernel
theorem dX10_link_93 : decode cX10_link 93 = .ok (.iload_n 1, 1) := by decide +kernel
theorem dX10_link_94 : decode cX10_link 94 = .ok (.dup2, 1) := by decide +kernel
theorem dX10_link_95 : decode cX10_link 95 = .ok (.iaload, 1) := by decide +kernel
theorem dX10_link_96 : decode cX10_link 96 = .ok (.iconst 1, 1) := by decide +kernel
theorem dX10_link_97 : decode cX10_link 97 = .ok (.iload_n 2, 1) := by decide +kernel
theorem dX10_link_98 : decode cX10_link 98 = .ok (.ishl, 1) := by decide +kernel
theorem dX10_link_99 : decode cX10_link 99 = .ok (.ixor, 1) := by decide +kernel
theorem dX10_link_100 : decode cX10_link 100 = .ok (.iastore, 1) := by decide +kernel
theorem dX10_link_101 : decode cX10_link 101 = .ok (.aload_n 0, 1) := by decide +kernel
theorem dX10_link_102 : decode cX10_link 102 = .ok (.getfield 30, 3) := by decide +kernel
theorem dX10_link_105 : decode cX10_link 105 = .ok (.iload_n 2, 1) := by decide +kernel
theorem dX10_link_106 : decode cX10_link 106 = .ok (.dup2, 1) := by decide +kernel
theorem dX10_link_107 : decode cX10_link 107 = .ok (.iaload, 1) := by decide +kernel
theorem dX10_link_108 : decode cX10_link 108 = .ok (.iconst 1, 1) := by decide +kernel
theorem dX10_link_109 : decode cX10_link 109 = .ok (.iload_n 1, 1) := by decide +kernel
theorem dX10_link_110 : decode cX10_link 110 = .ok (.ishl, 1) := by decide +kernel
theorem dX10_link_111 : decode cX10_link 111 = .ok (.ixor, 1) := by decide +kernel
theorem dX10_link_112 : decode cX10_link 112 = .ok (.iastore, 1) := by decide +kernel
theorem dX10_link_113 : decode cX10_link 113 = .ok (.iload 4, 2) := by decide +kernel
theorem dX10_link_115 : decode cX10_link 115 = .ok (.ireturn, 1) := by decide +kernel
theorem dX10_isBroken_0 : decode cX10_isBroken 0 = .ok (.sipush 255, 3) := by decide +kernel
theorem dX10_isBroken_3 : decode cX10_isBroken 3 = .ok (.iload_n 1, 1) := by decide +kernel
theorem dX10_isBroken_4 : decode cX10_isBroken 4 = .ok (.iconst (-1), 1) := by decide +kernel
theorem dX10_isBroken_5 : decode cX10_isBroken 5 = .ok (.ixor, 1) := by decide +kernel
theorem dX10_isBroken_6 : decode cX10_isBroken 6 = .ok (.iand, 1) := by decide +kernel
theorem dX10_isBroken_7 : decode cX10_isBroken 7 = .ok (.istore_n 2, 1) := by decide +kernel
theorem dX10_isBroken_8 : decode cX10_isBroken 8 = .ok (.iconst (-1), 1) := by decide +kernel
theorem dX10_isBroken_9 : decode cX10_isBroken 9 = .ok (.istore_n 3, 1) := by decide +kernel
theorem dX10_isBroken_10 : decode cX10_isBroken 10 = .ok (.iload_n 3, 1) := by decide +kernel
theorem dX10_isBroken_11 : decode cX10_isBroken 11 = .ok (.iload_n 2, 1) := by decide +kernel
theorem dX10_isBroken_12 : decode cX10_isBroken 12 = .ok (.if_icmp .eq 53, 3) := by decide +kernel
theorem dX10_isBroken_15 : decode cX10_isBroken 15 = .ok (.iload_n 2, 1) := by decide +kernel
theorem dX10_isBroken_16 : decode cX10_isBroken 16 = .ok (.istore_n 3, 1) := by decide +kernel
theorem dX10_isBroken_17 : decode cX10_isBroken 17 = .ok (.iconst 0, 1) := by decide +kernel
theorem dX10_isBroken_18 : decode cX10_isBroken 18 = .ok (.istore 4, 2) := by decide +kernel
theorem dX10_isBroken_20 : decode cX10_isBroken 20 = .ok (.iload 4, 2) := by decide +kernel
theorem dX10_isBroken_22 : decode cX10_isBroken 22 = .ok (.bipush 8, 2) := by decide +kernel
theorem dX10_isBroken_24 : decode cX10_isBroken 24 = .ok (.if_icmp .ge 38, 3) := by decide +kernel
theorem dX10_isBroken_27 : decode cX10_isBroken 27 = .ok (.iload_n 2, 1) := by decide +kernel
theorem dX10_isBroken_28 : decode cX10_isBroken 28 = .ok (.aload_n 0, 1) := by decide +kernel
theorem dX10_isBroken_29 : decode cX10_isBroken 29 = .ok (.getfield 30, 3) := by decide +kernel
theorem dX10_isBroken_32 : decode cX10_isBroken 32 = .ok (.iload 4, 2) := by decide +kernel
theorem dX10_isBroken_34 : decode cX10_isBroken 34 = .ok (.iaload, 1) := by decide +kernel
theorem dX10_isBroken_35 : decode cX10_isBroken 35 = .ok (.iload_n 2, 1) := by decide +kernel
theorem dX10_isBroken_36 : decode cX10_isBroken 36 = .ok (.iand, 1) := by decide +kernel
theorem dX10_isBroken_37 : decode cX10_isBroken 37 = .ok (.invokestatic 164, 3) := by decide +kernel
theorem dX10_isBroken_40 : decode cX10_isBroken 40 = .ok (.iconst 2, 1) := by decide +kernel
theorem dX10_isBroken_41 : decode cX10_isBroken 41 = .ok (.if_icmp .ge 12, 3) := by decide +kernel
theorem dX10_isBroken_44 : decode cX10_isBroken 44 = .ok (.iconst 1, 1) := by decide +kernel
theorem dX10_isBroken_45 : decode cX10_isBroken 45 = .ok (.iload 4, 2) := by decide +kernel
theorem dX10_isBroken_47 : decode cX10_isBroken 47 = .ok (.ishl, 1) := by decide +kernel
theorem dX10_isBroken_48 : decode cX10_isBroken 48 = .ok (.iconst (-1), 1) := by decide +kernel
theorem dX10_isBroken_49 : decode cX10_isBroken 49 = .ok (.ixor, 1) := by decide +kernel
theorem dX10_isBroken_50 : decode cX10_isBroken 50 = .ok (.goto 4, 3) := by decide +kernel
theorem dX10_isBroken_53 : decode cX10_isBroken 53 = .ok (.iconst (-1), 1) := by decide +kernel
theorem dX10_isBroken_54 : decode cX10_isBroken 54 = .ok (.iand, 1) := by decide +kernel
theorem dX10_isBroken_55 : decode cX10_isBroken 55 = .ok (.istore_n 2, 1) := by decide +kernel
theorem dX10_isBroken_56 : decode cX10_isBroken 56 = .ok (.iinc 4 1, 3) := by decide +kernel
theorem dX10_isBroken_59 : decode cX10_isBroken 59 = .ok (.goto (-39), 3) := by decide +kernel
theorem dX10_isBroken_62 : decode cX10_isBroken 62 = .ok (.goto (-52), 3) := by decide +kernel
theorem dX10_isBroken_65 : decode cX10_isBroken 65 = .ok (.iload_n 2, 1) := by decide +kernel
theorem dX10_isBroken_66 : decode cX10_isBroken 66 = .ok (.ifCond .ne 7, 3) := by decide +kernel
theorem dX10_isBroken_69 : decode cX10_isBroken 69 = .ok (.iconst 1, 1) := by decide +kernel
theorem dX10_isBroken_70 : decode cX10_isBroken 70 = .ok (.goto 4, 3) := by decide +kernel
theorem dX10_isBroken_73 : decode cX10_isBroken 73 = .ok (.iconst 0, 1) := by decide +kernel
theorem dX10_isBroken_74 : decode cX10_isBroken 74 = .ok (.ireturn, 1) := by decide +kernel
theorem dX10_breaks_0 : decode cX10_breaks 0 = .ok (.iload_n 1, 1) := by decide +kernel
theorem dX10_breaks_1 : decode cX10_breaks 1 = .ok (.i2l, 1) := by decide +kernel
theorem dX10_breaks_2 : decode cX10_breaks 2 = .ok (.lconst 0, 1) := by decide +kernel
theorem dX10_breaks_3 : decode cX10_breaks 3 = .ok (.ldc2_w 125, 3) := by decide +kernel
theorem dX10_breaks_6 : decode cX10_breaks 6 = .ok (.invokestatic 78, 3) := by decide +kernel
theorem dX10_breaks_9 : decode cX10_breaks 9 = .ok (.ifCond .ne 8, 3) := by decide +kernel
theorem dX10_breaks_12 : decode cX10_breaks 12 = .ok (.bipush (-2), 2) := by decide +kernel
theorem dX10_breaks_14 : decode cX10_breaks 14 = .ok (.goto 16, 3) := by decide +kernel
theorem dX10_breaks_17 : decode cX10_breaks 17 = .ok (.aload_n 0, 1) := by decide +kernel
theorem dX10_breaks_18 : decode cX10_breaks 18 = .ok (.iload_n 1, 1) := by decide +kernel
theorem dX10_breaks_19 : decode cX10_breaks 19 = .ok (.invokevirtual 259, 3) := by decide +kernel
theorem dX10_breaks_22 : decode cX10_breaks 22 = .ok (.ifCond .eq 7, 3) := by decide +kernel
theorem dX10_breaks_25 : decode cX10_breaks 25 = .ok (.iconst 1, 1) := by decide +kernel
theorem dX10_breaks_26 : decode cX10_breaks 26 = .ok (.goto 4, 3) := by decide +kernel
theorem dX10_breaks_29 : decode cX10_breaks 29 = .ok (.iconst 0, 1) := by decide +kernel
theorem dX10_breaks_30 : decode cX10_breaks 30 = .ok (.ireturn, 1) := by decide +kernel
theorem dX10_feedback_0 : decode cX10_feedback 0 = .ok (.iload_n 1, 1) := by decide +kernel
theorem dX10_feedback_1 : decode cX10_feedback 1 = .ok (.i2l, 1) := by decide +kernel
theorem dX10_feedback_2 : decode cX10_feedback 2 = .ok (.lconst 0, 1) := by decide +kernel
theorem dX10_feedback_3 : decode cX10_feedback 3 = .ok (.ldc2_w 86, 3) := by decide +kernel
theorem dX10_feedback_6 : decode cX10_feedback 6 = .ok (.invokestatic 78, 3) := by decide +kernel
theorem dX10_feedback_9 : decode cX10_feedback 9 = .ok (.ifCond .ne 6, 3) := by decide +kernel
theorem dX10_feedback_12 : decode cX10_feedback 12 = .ok (.bipush (-2), 2) := by decide +kernel
theorem dX10_feedback_14 : decode cX10_feedback 14 = .ok (.ireturn, 1) := by decide +kernel
theorem dX10_feedback_15 : decode cX10_feedback 15 = .ok (.bipush 99, 2) := by decide +kernel
theorem dX10_feedback_17 : decode cX10_feedback 17 = .ok (.istore_n 2, 1) := by decide +kernel
theorem dX10_feedback_18 : decode cX10_feedback 18 = .ok (.iconst 0, 1) := by decide +kernel
theorem dX10_feedback_19 : decode cX10_feedback 19 = .ok (.istore_n 3, 1) := by decide +kernel
theorem dX10_feedback_20 : decode cX10_feedback 20 = .ok (.iconst 0, 1) := by decide +kernel
theorem dX10_feedback_21 : decode cX10_feedback 21 = .ok (.istore 4, 2) := by decide +kernel
theorem dX10_feedback_23 : decode cX10_feedback 23 = .ok (.iconst 0, 1) := by decide +kernel
theorem dX10_feedback_24 : decode cX10_feedback 24 = .ok (.istore 5, 2) := by decide +kernel
theorem dX10_feedback_26 : decode cX10_feedback 26 = .ok (.iload 5, 2) := by decide +kernel
theorem dX10_feedback_28 : decode cX10_feedback 28 = .ok (.sipush 256, 3) := by decide +kernel
theorem dX10_feedback_31 : decode cX10_feedback 31 = .ok (.if_icmp .ge 68, 3) := by decide +kernel
theorem dX10_feedback_34 : decode cX10_feedback 34 = .ok (.aload_n 0, 1) := by decide +kernel
theorem dX10_feedback_35 : decode cX10_feedback 35 = .ok (.iload 5, 2) := by decide +kernel
theorem dX10_feedback_37 : decode cX10_feedback 37 = .ok (.invokevirtual 259, 3) := by decide +kernel
theorem dX10_feedback_40 : decode cX10_feedback 40 = .ok (.ifCond .eq 53, 3) := by decide +kernel
theorem dX10_feedback_43 : decode cX10_feedback 43 = .ok (.iload 5, 2) := by decide +kernel
theorem dX10_feedback_45 : decode cX10_feedback 45 = .ok (.invokestatic 164, 3) := by decide +kernel
theorem dX10_feedback_48 : decode cX10_feedback 48 = .ok (.iload_n 2, 1) := by decide +kernel
theorem dX10_feedback_49 : decode cX10_feedback 49 = .ok (.if_icmp .gt 44, 3) := by decide +kernel
theorem dX10_feedback_52 : decode cX10_feedback 52 = .ok (.iload 5, 2) := by decide +kernel
theorem dX10_feedback_54 : decode cX10_feedback 54 = .ok (.invokestatic 164, 3) := by decide +kernel
theorem dX10_feedback_57 : decode cX10_feedback 57 = .ok (.iload_n 2, 1) := by decide +kernel
theorem dX10_feedback_58 : decode cX10_feedback 58 = .ok (.if_icmp .ge 7, 3) := by decide +kernel
theorem dX10_feedback_61 : decode cX10_feedback 61 = .ok (.iconst 1, 1) := by decide +kernel
theorem dX10_feedback_62 : decode cX10_feedback 62 = .ok (.goto 7, 3) := by decide +kernel
theorem dX10_feedback_65 : decode cX10_feedback 65 = .ok (.iload 4, 2) := by decide +kernel
theorem dX10_feedback_67 : decode cX10_feedback 67 = .ok (.iconst 1, 1) := by decide +kernel
theorem dX10_feedback_68 : decode cX10_feedback 68 = .ok (.iadd, 1) := by decide +kernel
theorem dX10_feedback_69 : decode cX10_feedback 69 = .ok (.istore 4, 2) := by decide +kernel
theorem dX10_feedback_71 : decode cX10_feedback 71 = .ok (.iload 5, 2) := by decide +kernel
theorem dX10_feedback_73 : decode cX10_feedback 73 = .ok (.invokestatic 164, 3) := by decide +kernel
theorem dX10_feedback_76 : decode cX10_feedback 76 = .ok (.iload_n 2, 1) := by decide +kernel
theorem dX10_feedback_77 : decode cX10_feedback 77 = .ok (.if_icmp .ge 8, 3) := by decide +kernel
theorem dX10_feedback_80 : decode cX10_feedback 80 = .ok (.iload 5, 2) := by decide +kernel
theorem dX10_feedback_82 : decode cX10_feedback 82 = .ok (.goto 4, 3) := by decide +kernel
theorem dX10_feedback_85 : decode cX10_feedback 85 = .ok (.iload_n 3, 1) := by decide +kernel
theorem dX10_feedback_86 : decode cX10_feedback 86 = .ok (.istore_n 3, 1) := by decide +kernel
theorem dX10_feedback_87 : decode cX10_feedback 87 = .ok (.iload 5, 2) := by decide +kernel
theorem dX10_feedback_89 : decode cX10_feedback 89 = .ok (.invokestatic 164, 3) := by decide +kernel
theorem dX10_feedback_92 : decode cX10_feedback 92 = .ok (.istore_n 2, 1) := by decide +kernel
theorem dX10_feedback_93 : decode cX10_feedback 93 = .ok (.iinc 5 1, 3) := by decide +kernel
theorem dX10_feedback_96 : decode cX10_feedback 96 = .ok (.goto (-70), 3) := by decide +kernel
theorem dX10_feedback_99 : decode cX10_feedback 99 = .ok (.iload_n 1, 1) := by decide +kernel
theorem dX10_feedback_100 : decode cX10_feedback 100 = .ok (.ifCond .ne 7, 3) := by decide +kernel
theorem dX10_feedback_103 : decode cX10_feedback 103 = .ok (.iload_n 2, 1) := by decide +kernel
theorem dX10_feedback_104 : decode cX10_feedback 104 = .ok (.goto 14, 3) := by decide +kernel
theorem dX10_feedback_107 : decode cX10_feedback 107 = .ok (.iload_n 1, 1) := by decide +kernel
theorem dX10_feedback_108 : decode cX10_feedback 108 = .ok (.iconst 1, 1) := by decide +kernel
theorem dX10_feedback_109 : decode cX10_feedback 109 = .ok (.if_icmp .ne 7, 3) := by decide +kernel
theorem dX10_feedback_112 : decode cX10_feedback 112 = .ok (.iload_n 3, 1) := by decide +kernel
theorem dX10_feedback_113 : decode cX10_feedback 113 = .ok (.goto 5, 3) := by decide +kernel
theorem dX10_feedback_116 : decode cX10_feedback 116 = .ok (.iload 4, 2) := by decide +kernel
theorem dX10_feedback_118 : decode cX10_feedback 118 = .ok (.ireturn, 1) := by decide +kernel
theorem dX10_isHand_0 : decode cX10_isHand 0 = .ok (.iload_n 0, 1) := by decide +kernel
theorem dX10_isHand_1 : decode cX10_isHand 1 = .ok (.i2l, 1) := by decide +kernel
theorem dX10_isHand_2 : decode cX10_isHand 2 = .ok (.lconst 0, 1) := by decide +kernel
theorem dX10_isHand_3 : decode cX10_isHand 3 = .ok (.ldc2_w 176, 3) := by decide +kernel
theorem dX10_isHand_6 : decode cX10_isHand 6 = .ok (.invokestatic 78, 3) := by decide +kernel
theorem dX10_isHand_9 : decode cX10_isHand 9 = .ok (.ireturn, 1) := by decide +kernel
theorem dX10_hold_0 : decode cX10_hold 0 = .ok (.aload_n 0, 1) := by decide +kernel
theorem dX10_hold_1 : decode cX10_hold 1 = .ok (.invokevirtual 251, 3) := by decide +kernel
theorem dX10_hold_4 : decode cX10_hold 4 = .ok (.iload_n 1, 1) := by decide +kernel
theorem dX10_hold_5 : decode cX10_hold 5 = .ok (.invokestatic 262, 3) := by decide +kernel
theorem dX10_hold_8 : decode cX10_hold 8 = .ok (.ifCond .eq 49, 3) := by decide +kernel
theorem dX10_hold_11 : decode cX10_hold 11 = .ok (.iload_n 2, 1) := by decide +kernel
theorem dX10_hold_12 : decode cX10_hold 12 = .ok (.i2l, 1) := by decide +kernel
theorem dX10_hold_13 : decode cX10_hold 13 = .ok (.lconst 0, 1) := by decide +kernel
theorem dX10_hold_14 : decode cX10_hold 14 = .ok (.ldc2_w 86, 3) := by decide +kernel
theorem dX10_hold_17 : decode cX10_hold 17 = .ok (.invokestatic 78, 3) := by decide +kernel
theorem dX10_hold_20 : decode cX10_hold 20 = .ok (.ifCond .eq 37, 3) := by decide +kernel
theorem dX10_hold_23 : decode cX10_hold 23 = .ok (.iload_n 2, 1) := by decide +kernel
theorem dX10_hold_24 : decode cX10_hold 24 = .ok (.iconst 1, 1) := by decide +kernel
theorem dX10_hold_25 : decode cX10_hold 25 = .ok (.if_icmp .ne 11, 3) := by decide +kernel
theorem dX10_hold_28 : decode cX10_hold 28 = .ok (.aload_n 0, 1) := by decide +kernel
theorem dX10_hold_29 : decode cX10_hold 29 = .ok (.iload_n 3, 1) := by decide +kernel
theorem dX10_hold_30 : decode cX10_hold 30 = .ok (.invokevirtual 104, 3) := by decide +kernel
theorem dX10_hold_33 : decode cX10_hold 33 = .ok (.ifCond .eq 24, 3) := by decide +kernel
theorem dX10_hold_36 : decode cX10_hold 36 = .ok (.iload_n 2, 1) := by decide +kernel
theorem dX10_hold_37 : decode cX10_hold 37 = .ok (.iconst 2, 1) := by decide +kernel
theorem dX10_hold_38 : decode cX10_hold 38 = .ok (.if_icmp .ne 22, 3) := by decide +kernel
theorem dX10_hold_41 : decode cX10_hold 41 = .ok (.iload_n 3, 1) := by decide +kernel
theorem dX10_hold_42 : decode cX10_hold 42 = .ok (.i2l, 1) := by decide +kernel
theorem dX10_hold_43 : decode cX10_hold 43 = .ok (.lconst 0, 1) := by decide +kernel
theorem dX10_hold_44 : decode cX10_hold 44 = .ok (.aload_n 0, 1) := by decide +kernel
theorem dX10_hold_45 : decode cX10_hold 45 = .ok (.getfield 244, 3) := by decide +kernel
theorem dX10_hold_48 : decode cX10_hold 48 = .ok (.iconst 1, 1) := by decide +kernel
theorem dX10_hold_49 : decode cX10_hold 49 = .ok (.isub, 1) := by decide +kernel
theorem dX10_hold_50 : decode cX10_hold 50 = .ok (.i2l, 1) := by decide +kernel
theorem dX10_hold_51 : decode cX10_hold 51 = .ok (.invokestatic 78, 3) := by decide +kernel
theorem dX10_hold_54 : decode cX10_hold 54 = .ok (.ifCond .ne 6, 3) := by decide +kernel
theorem dX10_hold_57 : decode cX10_hold 57 = .ok (.bipush (-2), 2) := by decide +kernel
theorem dX10_hold_59 : decode cX10_hold 59 = .ok (.ireturn, 1) := by decide +kernel
theorem dX10_hold_60 : decode cX10_hold 60 = .ok (.aload_n 0, 1) := by decide +kernel
theorem dX10_hold_61 : decode cX10_hold 61 = .ok (.getfield 45, 3) := by decide +kernel
theorem dX10_hold_64 : decode cX10_hold 64 = .ok (.iload_n 1, 1) := by decide +kernel
theorem dX10_hold_65 : decode cX10_hold 65 = .ok (.iaload, 1) := by decide +kernel
theorem dX10_hold_66 : decode cX10_hold 66 = .ok (.istore 4, 2) := by decide +kernel
theorem dX10_hold_68 : decode cX10_hold 68 = .ok (.aload_n 0, 1) := by decide +kernel
theorem dX10_hold_69 : decode cX10_hold 69 = .ok (.getfield 45, 3) := by decide +kernel
theorem dX10_hold_72 : decode cX10_hold 72 = .ok (.iload_n 1, 1) := by decide +kernel
theorem dX10_hold_73 : decode cX10_hold 73 = .ok (.iload_n 2, 1) := by decide +kernel
theorem dX10_hold_74 : decode cX10_hold 74 = .ok (.iastore, 1) := by decide +kernel
theorem dX10_hold_75 : decode cX10_hold 75 = .ok (.iload_n 2, 1) := by decide +kernel
theorem dX10_hold_76 : decode cX10_hold 76 = .ok (.iconst 1, 1) := by decide +kernel
theorem dX10_hold_77 : decode cX10_hold 77 = .ok (.if_icmp .ne 27, 3) := by decide +kernel
theorem dX10_hold_80 : decode cX10_hold 80 = .ok (.aload_n 0, 1) := by decide +kernel
theorem dX10_hold_81 : decode cX10_hold 81 = .ok (.getfield 48, 3) := by decide +kernel
theorem dX10_hold_84 : decode cX10_hold 84 = .ok (.iload_n 1, 1) := by decide +kernel
theorem dX10_hold_85 : decode cX10_hold 85 = .ok (.aload_n 0, 1) := by decide +kernel
theorem dX10_hold_86 : decode cX10_hold 86 = .ok (.getfield 16, 3) := by decide +kernel
theorem dX10_hold_89 : decode cX10_hold 89 = .ok (.iload_n 3, 1) := by decide +kernel
theorem dX10_hold_90 : decode cX10_hold 90 = .ok (.iaload, 1) := by decide +kernel
theorem dX10_hold_91 : decode cX10_hold 91 = .ok (.iastore, 1) := by decide +kernel
theorem dX10_hold_92 : decode cX10_hold 92 = .ok (.aload_n 0, 1) := by decide +kernel
theorem dX10_hold_93 : decode cX10_hold 93 = .ok (.getfield 51, 3) := by decide +kernel
theorem dX10_hold_96 : decode cX10_hold 96 = .ok (.iload_n 1, 1) := by decide +kernel
theorem dX10_hold_97 : decode cX10_hold 97 = .ok (.aload_n 0, 1) := by decide +kernel
theorem dX10_hold_98 : decode cX10_hold 98 = .ok (.getfield 20, 3) := by decide +kernel
theorem dX10_hold_101 : decode cX10_hold 101 = .ok (.iload_n 3, 1) := by decide +kernel
theorem dX10_hold_102 : decode cX10_hold 102 = .ok (.iaload, 1) := by decide +kernel
theorem dX10_hold_103 : decode cX10_hold 103 = .ok (.iastore, 1) := by decide +kernel
theorem dX10_hold_104 : decode cX10_hold 104 = .ok (.iload_n 2, 1) := by decide +kernel
theorem dX10_hold_105 : decode cX10_hold 105 = .ok (.iconst 2, 1) := by decide +kernel
theorem dX10_hold_106 : decode cX10_hold 106 = .ok (.if_icmp .ne 71, 3) := by decide +kernel
theorem dX10_hold_109 : decode cX10_hold 109 = .ok (.aload_n 0, 1) := by decide +kernel
theorem dX10_hold_110 : decode cX10_hold 110 = .ok (.getfield 42, 3) := by decide +kernel
theorem dX10_hold_113 : decode cX10_hold 113 = .ok (.iload_n 3, 1) := by decide +kernel
theorem dX10_hold_114 : decode cX10_hold 114 = .ok (.laload, 1) := by decide +kernel
theorem dX10_hold_115 : decode cX10_hold 115 = .ok (.lstore 5, 2) := by decide +kernel
theorem dX10_hold_117 : decode cX10_hold 117 = .ok (.aload_n 0, 1) := by decide +kernel
theorem dX10_hold_118 : decode cX10_hold 118 = .ok (.getfield 54, 3) := by decide +kernel
theorem dX10_hold_121 : decode cX10_hold 121 = .ok (.iload_n 1, 1) := by decide +kernel
theorem dX10_hold_122 : decode cX10_hold 122 = .ok (.aload_n 0, 1) := by decide +kernel
theorem dX10_hold_123 : decode cX10_hold 123 = .ok (.getfield 13, 3) := by decide +kernel
theorem dX10_hold_126 : decode cX10_hold 126 = .ok (.iastore, 1) := by decide +kernel
theorem dX10_hold_127 : decode cX10_hold 127 = .ok (.aload_n 0, 1) := by decide +kernel
theorem dX10_hold_128 : decode cX10_hold 128 = .ok (.getfield 13, 3) := by decide +kernel
theorem dX10_hold_131 : decode cX10_hold 131 = .ok (.iconst 1, 1) := by decide +kernel
theorem dX10_hold_132 : decode cX10_hold 132 = .ok (.isub, 1) := by decide +kernel
theorem dX10_hold_133 : decode cX10_hold 133 = .ok (.istore 7, 2) := by decide +kernel
theorem dX10_hold_135 : decode cX10_hold 135 = .ok (.iload 7, 2) := by decide +kernel
theorem dX10_hold_137 : decode cX10_hold 137 = .ok (.ifCond .lt 40, 3) := by decide +kernel
theorem dX10_hold_140 : decode cX10_hold 140 = .ok (.aload_n 0, 1) := by decide +kernel
theorem dX10_hold_141 : decode cX10_hold 141 = .ok (.getfield 57, 3) := by decide +kernel
theorem dX10_hold_144 : decode cX10_hold 144 = .ok (.bipush 6, 2) := by decide +kernel
theorem dX10_hold_146 : decode cX10_hold 146 = .ok (.iload_n 1, 1) := by decide +kernel
theorem dX10_hold_147 : decode cX10_hold 147 = .ok (.imul, 1) := by decide +kernel
theorem dX10_hold_148 : decode cX10_hold 148 = .ok (.iload 7, 2) := by decide +kernel
theorem dX10_hold_150 : decode cX10_hold 150 = .ok (.iadd, 1) := by decide +kernel
theorem dX10_hold_151 : decode cX10_hold 151 = .ok (.lload 5, 2) := by decide +kernel
theorem dX10_hold_153 : decode cX10_hold 153 = .ok (.aload_n 0, 1) := by decide +kernel
theorem dX10_hold_154 : decode cX10_hold 154 = .ok (.getfield 7, 3) := by decide +kernel
theorem dX10_hold_157 : decode cX10_hold 157 = .ok (.i2l, 1) := by decide +kernel
theorem dX10_hold_158 : decode cX10_hold 158 = .ok (.lrem, 1) := by decide +kernel
theorem dX10_hold_159 : decode cX10_hold 159 = .ok (.l2i, 1) := by decide +kernel
theorem dX10_hold_160 : decode cX10_hold 160 = .ok (.iastore, 1) := by decide +kernel
theorem dX10_hold_161 : decode cX10_hold 161 = .ok (.lload 5, 2) := by decide +kernel
theorem dX10_hold_163 : decode cX10_hold 163 = .ok (.aload_n 0, 1) := by decide +kernel
theorem dX10_hold_164 : decode cX10_hold 164 = .ok (.getfield 7, 3) := by decide +kernel
theorem dX10_hold_167 : decode cX10_hold 167 = .ok (.i2l, 1) := by decide +kernel
theorem dX10_hold_168 : decode cX10_hold 168 = .ok (.ldiv, 1) := by decide +kernel
theorem dX10_hold_169 : decode cX10_hold 169 = .ok (.lstore 5, 2) := by decide +kernel
theorem dX10_hold_171 : decode cX10_hold 171 = .ok (.iinc 7 (-1), 3) := by decide +kernel
theorem dX10_hold_174 : decode cX10_hold 174 = .ok (.goto (-39), 3) := by decide +kernel
theorem dX10_hold_177 : decode cX10_hold 177 = .ok (.iload 4, 2) := by decide +kernel
theorem dX10_hold_179 : decode cX10_hold 179 = .ok (.ireturn, 1) := by decide +kernel
theorem dX10_lacks_0 : decode cX10_lacks 0 = .ok (.aload_n 0, 1) := by decide +kernel
theorem dX10_lacks_1 : decode cX10_lacks 1 = .ok (.getfield 45, 3) := by decide +kernel
theorem dX10_lacks_4 : decode cX10_lacks 4 = .ok (.iload_n 1, 1) := by decide +kernel
theorem dX10_lacks_5 : decode cX10_lacks 5 = .ok (.iaload, 1) := by decide +kernel
theorem dX10_lacks_6 : decode cX10_lacks 6 = .ok (.ifCond .ne 8, 3) := by decide +kernel
theorem dX10_lacks_9 : decode cX10_lacks 9 = .ok (.bipush (-11), 2) := by decide +kernel
theorem dX10_lacks_11 : decode cX10_lacks 11 = .ok (.goto 19, 3) := by decide +kernel
theorem dX10_lacks_14 : decode cX10_lacks 14 = .ok (.aload_n 0, 1) := by decide +kernel
theorem dX10_lacks_15 : decode cX10_lacks 15 = .ok (.getfield 45, 3) := by decide +kernel
theorem dX10_lacks_18 : decode cX10_lacks 18 = .ok (.iload_n 1, 1) := by decide +kernel
theorem dX10_lacks_19 : decode cX10_lacks 19 = .ok (.iaload, 1) := by decide +kernel
theorem dX10_lacks_20 : decode cX10_lacks 20 = .ok (.iload_n 2, 1) := by decide +kernel
theorem dX10_lacks_21 : decode cX10_lacks 21 = .ok (.if_icmp .eq 8, 3) := by decide +kernel
theorem dX10_lacks_24 : decode cX10_lacks 24 = .ok (.bipush (-13), 2) := by decide +kernel
theorem dX10_lacks_26 : decode cX10_lacks 26 = .ok (.goto 4, 3) := by decide +kernel
theorem dX10_lacks_29 : decode cX10_lacks 29 = .ok (.iconst 0, 1) := by decide +kernel
theorem dX10_lacks_30 : decode cX10_lacks 30 = .ok (.ireturn, 1) := by decide +kernel
theorem dX10_isUnder_0 : decode cX10_isUnder 0 = .ok (.iload_n 1, 1) := by decide +kernel
theorem dX10_isUnder_1 : decode cX10_isUnder 1 = .ok (.ifCond .eq 28, 3) := by decide +kernel
theorem dX10_isUnder_4 : decode cX10_isUnder 4 = .ok (.iload_n 0, 1) := by decide +kernel
theorem dX10_isUnder_5 : decode cX10_isUnder 5 = .ok (.iload_n 1, 1) := by decide +kernel
theorem dX10_isUnder_6 : decode cX10_isUnder 6 = .ok (.if_icmp .eq 23, 3) := by decide +kernel
theorem dX10_isUnder_9 : decode cX10_isUnder 9 = .ok (.iload_n 1, 1) := by decide +kernel
theorem dX10_isUnder_10 : decode cX10_isUnder 10 = .ok (.iconst 1, 1) := by decide +kernel
theorem dX10_isUnder_11 : decode cX10_isUnder 11 = .ok (.if_icmp .ne 8, 3) := by decide +kernel
theorem dX10_isUnder_14 : decode cX10_isUnder 14 = .ok (.iload_n 0, 1) := by decide +kernel
theorem dX10_isUnder_15 : decode cX10_isUnder 15 = .ok (.iconst 3, 1) := by decide +kernel
theorem dX10_isUnder_16 : decode cX10_isUnder 16 = .ok (.if_icmp .eq 13, 3) := by decide +kernel
theorem dX10_isUnder_19 : decode cX10_isUnder 19 = .ok (.iload_n 1, 1) := by decide +kernel
theorem dX10_isUnder_20 : decode cX10_isUnder 20 = .ok (.iconst 2, 1) := by decide +kernel
theorem dX10_isUnder_21 : decode cX10_isUnder 21 = .ok (.if_icmp .ne 12, 3) := by decide +kernel
theorem dX10_isUnder_24 : decode cX10_isUnder 24 = .ok (.iload_n 0, 1) := by decide +kernel
theorem dX10_isUnder_25 : decode cX10_isUnder 25 = .ok (.iconst 4, 1) := by decide +kernel
theorem dX10_isUnder_26 : decode cX10_isUnder 26 = .ok (.if_icmp .ne 7, 3) := by decide +kernel
theorem dX10_isUnder_29 : decode cX10_isUnder 29 = .ok (.iconst 1, 1) := by decide +kernel
theorem dX10_isUnder_30 : decode cX10_isUnder 30 = .ok (.goto 4, 3) := by decide +kernel
theorem dX10_isUnder_33 : decode cX10_isUnder 33 = .ok (.iconst 0, 1) := by decide +kernel
theorem dX10_isUnder_34 : decode cX10_isUnder 34 = .ok (.ireturn, 1) := by decide +kernel
theorem dX10_asPair_0 : decode cX10_asPair 0 = .ok (.iload_n 1, 1) := by decide +kernel
theorem dX10_asPair_1 : decode cX10_asPair 1 = .ok (.invokestatic 262, 3) := by decide +kernel
theorem dX10_asPair_4 : decode cX10_asPair 4 = .ok (.ifCond .eq 15, 3) := by decide +kernel
theorem dX10_asPair_7 : decode cX10_asPair 7 = .ok (.iload_n 2, 1) := by decide +kernel
theorem dX10_asPair_8 : decode cX10_asPair 8 = .ok (.i2l, 1) := by decide +kernel
theorem dX10_asPair_9 : decode cX10_asPair 9 = .ok (.lconst 0, 1) := by decide +kernel
theorem dX10_asPair_10 : decode cX10_asPair 10 = .ok (.ldc2_w 100, 3) := by decide +kernel
theorem dX10_asPair_13 : decode cX10_asPair 13 = .ok (.invokestatic 78, 3) := by decide +kernel
theorem dX10_asPair_16 : decode cX10_asPair 16 = .ok (.ifCond .ne 6, 3) := by decide +kernel
theorem dX10_asPair_19 : decode cX10_asPair 19 = .ok (.bipush (-2), 2) := by decide +kernel
theorem dX10_asPair_21 : decode cX10_asPair 21 = .ok (.ireturn, 1) := by decide +kernel
theorem dX10_asPair_22 : decode cX10_asPair 22 = .ok (.aload_n 0, 1) := by decide +kernel
theorem dX10_asPair_23 : decode cX10_asPair 23 = .ok (.iload_n 1, 1) := by decide +kernel
theorem dX10_asPair_24 : decode cX10_asPair 24 = .ok (.iconst 1, 1) := by decide +kernel
theorem dX10_asPair_25 : decode cX10_asPair 25 = .ok (.invokevirtual 265, 3) := by decide +kernel
theorem dX10_asPair_28 : decode cX10_asPair 28 = .ok (.istore_n 3, 1) := by decide +kernel
theorem dX10_asPair_29 : decode cX10_asPair 29 = .ok (.iload_n 3, 1) := by decide +kernel
theorem dX10_asPair_30 : decode cX10_asPair 30 = .ok (.ifCond .eq 7, 3) := by decide +kernel
theorem dX10_asPair_33 : decode cX10_asPair 33 = .ok (.iload_n 3, 1) := by decide +kernel
theorem dX10_asPair_34 : decode cX10_asPair 34 = .ok (.goto 27, 3) := by decide +kernel
theorem dX10_asPair_37 : decode cX10_asPair 37 = .ok (.aload_n 0, 1) := by decide +kernel
theorem dX10_asPair_38 : decode cX10_asPair 38 = .ok (.getfield 48, 3) := by decide +kernel
theorem dX10_asPair_41 : decode cX10_asPair 41 = .ok (.iload_n 1, 1) := by decide +kernel
theorem dX10_asPair_42 : decode cX10_asPair 42 = .ok (.iaload, 1) := by decide +kernel
theorem dX10_asPair_43 : decode cX10_asPair 43 = .ok (.iload_n 2, 1) := by decide +kernel
theorem dX10_asPair_44 : decode cX10_asPair 44 = .ok (.invokestatic 268, 3) := by decide +kernel
theorem dX10_asPair_47 : decode cX10_asPair 47 = .ok (.ifCond .eq 12, 3) := by decide +kernel
theorem dX10_asPair_50 : decode cX10_asPair 50 = .ok (.aload_n 0, 1) := by decide +kernel
theorem dX10_asPair_51 : decode cX10_asPair 51 = .ok (.getfield 51, 3) := by decide +kernel
theorem dX10_asPair_54 : decode cX10_asPair 54 = .ok (.iload_n 1, 1) := by decide +kernel
theorem dX10_asPair_55 : decode cX10_asPair 55 = .ok (.iaload, 1) := by decide +kernel
theorem dX10_asPair_56 : decode cX10_asPair 56 = .ok (.goto 5, 3) := by decide +kernel
theorem dX10_asPair_59 : decode cX10_asPair 59 = .ok (.bipush (-13), 2) := by decide +kernel
theorem dX10_asPair_61 : decode cX10_asPair 61 = .ok (.ireturn, 1) := by decide +kernel
theorem dX10_asRay_0 : decode cX10_asRay 0 = .ok (.iload_n 1, 1) := by decide +kernel
theorem dX10_asRay_1 : decode cX10_asRay 1 = .ok (.invokestatic 262, 3) := by decide +kernel
theorem dX10_asRay_4 : decode cX10_asRay 4 = .ok (.ifCond .ne 6, 3) := by decide +kernel
theorem dX10_asRay_7 : decode cX10_asRay 7 = .ok (.bipush (-2), 2) := by decide +kernel
theorem dX10_asRay_9 : decode cX10_asRay 9 = .ok (.ireturn, 1) := by decide +kernel
theorem dX10_asRay_10 : decode cX10_asRay 10 = .ok (.aload_n 0, 1) := by decide +kernel
theorem dX10_asRay_11 : decode cX10_asRay 11 = .ok (.iload_n 1, 1) := by decide +kernel
theorem dX10_asRay_12 : decode cX10_asRay 12 = .ok (.iconst 2, 1) := by decide +kernel
theorem dX10_asRay_13 : decode cX10_asRay 13 = .ok (.invokevirtual 265, 3) := by decide +kernel
theorem dX10_asRay_16 : decode cX10_asRay 16 = .ok (.istore_n 3, 1) := by decide +kernel
theorem dX10_asRay_17 : decode cX10_asRay 17 = .ok (.iload_n 3, 1) := by decide +kernel
theorem dX10_asRay_18 : decode cX10_asRay 18 = .ok (.ifCond .eq 7, 3) := by decide +kernel
theorem dX10_asRay_21 : decode cX10_asRay 21 = .ok (.iload_n 3, 1) := by decide +kernel
theorem dX10_asRay_22 : decode cX10_asRay 22 = .ok (.goto 37, 3) := by decide +kernel
theorem dX10_asRay_25 : decode cX10_asRay 25 = .ok (.iload_n 2, 1) := by decide +kernel
theorem dX10_asRay_26 : decode cX10_asRay 26 = .ok (.i2l, 1) := by decide +kernel
theorem dX10_asRay_27 : decode cX10_asRay 27 = .ok (.lconst 0, 1) := by decide +kernel
theorem dX10_asRay_28 : decode cX10_asRay 28 = .ok (.aload_n 0, 1) := by decide +kernel
theorem dX10_asRay_29 : decode cX10_asRay 29 = .ok (.getfield 54, 3) := by decide +kernel
theorem dX10_asRay_32 : decode cX10_asRay 32 = .ok (.iload_n 1, 1) := by decide +kernel
theorem dX10_asRay_33 : decode cX10_asRay 33 = .ok (.iaload, 1) := by decide +kernel
theorem dX10_asRay_34 : decode cX10_asRay 34 = .ok (.iconst 1, 1) := by decide +kernel
theorem dX10_asRay_35 : decode cX10_asRay 35 = .ok (.isub, 1) := by decide +kernel
theorem dX10_asRay_36 : decode cX10_asRay 36 = .ok (.i2l, 1) := by decide +kernel
theorem dX10_asRay_37 : decode cX10_asRay 37 = .ok (.invokestatic 78, 3) := by decide +kernel
theorem dX10_asRay_40 : decode cX10_asRay 40 = .ok (.ifCond .eq 17, 3) := by decide +kernel
theorem dX10_asRay_43 : decode cX10_asRay 43 = .ok (.aload_n 0, 1) := by decide +kernel
theorem dX10_asRay_44 : decode cX10_asRay 44 = .ok (.getfield 57, 3) := by decide +kernel
theorem dX10_asRay_47 : decode cX10_asRay 47 = .ok (.bipush 6, 2) := by decide +kernel
theorem dX10_asRay_49 : decode cX10_asRay 49 = .ok (.iload_n 1, 1) := by decide +kernel
theorem dX10_asRay_50 : decode cX10_asRay 50 = .ok (.imul, 1) := by decide +kernel
theorem dX10_asRay_51 : decode cX10_asRay 51 = .ok (.iload_n 2, 1) := by decide +kernel
theorem dX10_asRay_52 : decode cX10_asRay 52 = .ok (.iadd, 1) := by decide +kernel
theorem dX10_asRay_53 : decode cX10_asRay 53 = .ok (.iaload, 1) := by decide +kernel
theorem dX10_asRay_54 : decode cX10_asRay 54 = .ok (.goto 5, 3) := by decide +kernel
theorem dX10_asRay_57 : decode cX10_asRay 57 = .ok (.bipush (-12), 2) := by decide +kernel
theorem dX10_asRay_59 : decode cX10_asRay 59 = .ok (.ireturn, 1) := by decide +kernel
theorem dX10_compare_0 : decode cX10_compare 0 = .ok (.iload_n 1, 1) := by decide +kernel
theorem dX10_compare_1 : decode cX10_compare 1 = .ok (.invokestatic 262, 3) := by decide +kernel
theorem dX10_compare_4 : decode cX10_compare 4 = .ok (.ifCond .eq 10, 3) := by decide +kernel
theorem dX10_compare_7 : decode cX10_compare 7 = .ok (.iload_n 2, 1) := by decide +kernel
theorem dX10_compare_8 : decode cX10_compare 8 = .ok (.invokestatic 262, 3) := by decide +kernel
theorem dX10_compare_11 : decode cX10_compare 11 = .ok (.ifCond .ne 6, 3) := by decide +kernel
theorem dX10_compare_14 : decode cX10_compare 14 = .ok (.bipush (-2), 2) := by decide +kernel
theorem dX10_compare_16 : decode cX10_compare 16 = .ok (.ireturn, 1) := by decide +kernel
theorem dX10_compare_17 : decode cX10_compare 17 = .ok (.aload_n 0, 1) := by decide +kernel
theorem dX10_compare_18 : decode cX10_compare 18 = .ok (.getfield 45, 3) := by decide +kernel
theorem dX10_compare_21 : decode cX10_compare 21 = .ok (.iload_n 1, 1) := by decide +kernel
theorem dX10_compare_22 : decode cX10_compare 22 = .ok (.iaload, 1) := by decide +kernel
theorem dX10_compare_23 : decode cX10_compare 23 = .ok (.ifCond .eq 12, 3) := by decide +kernel
theorem dX10_compare_26 : decode cX10_compare 26 = .ok (.aload_n 0, 1) := by decide +kernel
theorem dX10_compare_27 : decode cX10_compare 27 = .ok (.getfield 45, 3) := by decide +kernel
theorem dX10_compare_30 : decode cX10_compare 30 = .ok (.iload_n 2, 1) := by decide +kernel
theorem dX10_compare_31 : decode cX10_compare 31 = .ok (.iaload, 1) := by decide +kernel
theorem dX10_compare_32 : decode cX10_compare 32 = .ok (.ifCond .ne 6, 3) := by decide +kernel
theorem dX10_compare_35 : decode cX10_compare 35 = .ok (.bipush (-11), 2) := by decide +kernel
theorem dX10_compare_37 : decode cX10_compare 37 = .ok (.ireturn, 1) := by decide +kernel
theorem dX10_compare_38 : decode cX10_compare 38 = .ok (.aload_n 0, 1) := by decide +kernel
theorem dX10_compare_39 : decode cX10_compare 39 = .ok (.getfield 45, 3) := by decide +kernel
theorem dX10_compare_42 : decode cX10_compare 42 = .ok (.iload_n 1, 1) := by decide +kernel
theorem dX10_compare_43 : decode cX10_compare 43 = .ok (.iaload, 1) := by decide +kernel
theorem dX10_compare_44 : decode cX10_compare 44 = .ok (.iconst 2, 1) := by decide +kernel
theorem dX10_compare_45 : decode cX10_compare 45 = .ok (.if_icmp .ne 13, 3) := by decide +kernel
theorem dX10_compare_48 : decode cX10_compare 48 = .ok (.aload_n 0, 1) := by decide +kernel
theorem dX10_compare_49 : decode cX10_compare 49 = .ok (.getfield 45, 3) := by decide +kernel
theorem dX10_compare_52 : decode cX10_compare 52 = .ok (.iload_n 2, 1) := by decide +kernel
theorem dX10_compare_53 : decode cX10_compare 53 = .ok (.iaload, 1) := by decide +kernel
theorem dX10_compare_54 : decode cX10_compare 54 = .ok (.iconst 2, 1) := by decide +kernel
theorem dX10_compare_55 : decode cX10_compare 55 = .ok (.if_icmp .eq 6, 3) := by decide +kernel
theorem dX10_compare_58 : decode cX10_compare 58 = .ok (.bipush (-13), 2) := by decide +kernel
theorem dX10_compare_60 : decode cX10_compare 60 = .ok (.ireturn, 1) := by decide +kernel
theorem dX10_compare_61 : decode cX10_compare 61 = .ok (.iconst 0, 1) := by decide +kernel
theorem dX10_compare_62 : decode cX10_compare 62 = .ok (.istore_n 3, 1) := by decide +kernel
theorem dX10_compare_63 : decode cX10_compare 63 = .ok (.iload_n 3, 1) := by decide +kernel
theorem dX10_compare_64 : decode cX10_compare 64 = .ok (.bipush 6, 2) := by decide +kernel
theorem dX10_compare_66 : decode cX10_compare 66 = .ok (.if_icmp .ge 83, 3) := by decide +kernel
theorem dX10_compare_69 : decode cX10_compare 69 = .ok (.iload_n 3, 1) := by decide +kernel
theorem dX10_compare_70 : decode cX10_compare 70 = .ok (.aload_n 0, 1) := by decide +kernel
theorem dX10_compare_71 : decode cX10_compare 71 = .ok (.getfield 54, 3) := by decide +kernel
theorem dX10_compare_74 : decode cX10_compare 74 = .ok (.iload_n 1, 1) := by decide +kernel
theorem dX10_compare_75 : decode cX10_compare 75 = .ok (.iaload, 1) := by decide +kernel
theorem dX10_compare_76 : decode cX10_compare 76 = .ok (.if_icmp .ge 17, 3) := by decide +kernel
theorem dX10_compare_79 : decode cX10_compare 79 = .ok (.aload_n 0, 1) := by decide +kernel
theorem dX10_compare_80 : decode cX10_compare 80 = .ok (.getfield 57, 3) := by decide +kernel
theorem dX10_compare_83 : decode cX10_compare 83 = .ok (.bipush 6, 2) := by decide +kernel
theorem dX10_compare_85 : decode cX10_compare 85 = .ok (.iload_n 1, 1) := by decide +kernel
theorem dX10_compare_86 : decode cX10_compare 86 = .ok (.imul, 1) := by decide +kernel
theorem dX10_compare_87 : decode cX10_compare 87 = .ok (.iload_n 3, 1) := by decide +kernel
theorem dX10_compare_88 : decode cX10_compare 88 = .ok (.iadd, 1) := by decide +kernel
theorem dX10_compare_89 : decode cX10_compare 89 = .ok (.iaload, 1) := by decide +kernel
theorem dX10_compare_90 : decode cX10_compare 90 = .ok (.goto 4, 3) := by decide +kernel
theorem dX10_compare_93 : decode cX10_compare 93 = .ok (.iconst (-1), 1) := by decide +kernel
theorem dX10_compare_94 : decode cX10_compare 94 = .ok (.istore 4, 2) := by decide +kernel
theorem dX10_compare_96 : decode cX10_compare 96 = .ok (.iload_n 3, 1) := by decide +kernel
theorem dX10_compare_97 : decode cX10_compare 97 = .ok (.aload_n 0, 1) := by decide +kernel
theorem dX10_compare_98 : decode cX10_compare 98 = .ok (.getfield 54, 3) := by decide +kernel
theorem dX10_compare_101 : decode cX10_compare 101 = .ok (.iload_n 2, 1) := by decide +kernel
theorem dX10_compare_102 : decode cX10_compare 102 = .ok (.iaload, 1) := by decide +kernel
theorem dX10_compare_103 : decode cX10_compare 103 = .ok (.if_icmp .ge 17, 3) := by decide +kernel
theorem dX10_compare_106 : decode cX10_compare 106 = .ok (.aload_n 0, 1) := by decide +kernel
theorem dX10_compare_107 : decode cX10_compare 107 = .ok (.getfield 57, 3) := by decide +kernel
theorem dX10_compare_110 : decode cX10_compare 110 = .ok (.bipush 6, 2) := by decide +kernel
theorem dX10_compare_112 : decode cX10_compare 112 = .ok (.iload_n 2, 1) := by decide +kernel
theorem dX10_compare_113 : decode cX10_compare 113 = .ok (.imul, 1) := by decide +kernel
theorem dX10_compare_114 : decode cX10_compare 114 = .ok (.iload_n 3, 1) := by decide +kernel
theorem dX10_compare_115 : decode cX10_compare 115 = .ok (.iadd, 1) := by decide +kernel
theorem dX10_compare_116 : decode cX10_compare 116 = .ok (.iaload, 1) := by decide +kernel
theorem dX10_compare_117 : decode cX10_compare 117 = .ok (.goto 4, 3) := by decide +kernel
theorem dX10_compare_120 : decode cX10_compare 120 = .ok (.iconst (-1), 1) := by decide +kernel
theorem dX10_compare_121 : decode cX10_compare 121 = .ok (.istore 5, 2) := by decide +kernel
theorem dX10_compare_123 : decode cX10_compare 123 = .ok (.iload 4, 2) := by decide +kernel
theorem dX10_compare_125 : decode cX10_compare 125 = .ok (.iload 5, 2) := by decide +kernel
theorem dX10_compare_127 : decode cX10_compare 127 = .ok (.if_icmp .eq 16, 3) := by decide +kernel
theorem dX10_compare_130 : decode cX10_compare 130 = .ok (.iload 4, 2) := by decide +kernel
theorem dX10_compare_132 : decode cX10_compare 132 = .ok (.iload 5, 2) := by decide +kernel
theorem dX10_compare_134 : decode cX10_compare 134 = .ok (.if_icmp .ge 7, 3) := by decide +kernel
theorem dX10_compare_137 : decode cX10_compare 137 = .ok (.iconst (-1), 1) := by decide +kernel
theorem dX10_compare_138 : decode cX10_compare 138 = .ok (.goto 4, 3) := by decide +kernel
theorem dX10_compare_141 : decode cX10_compare 141 = .ok (.iconst 1, 1) := by decide +kernel
theorem dX10_compare_142 : decode cX10_compare 142 = .ok (.ireturn, 1) := by decide +kernel
theorem dX10_compare_143 : decode cX10_compare 143 = .ok (.iinc 3 1, 3) := by decide +kernel
theorem dX10_compare_146 : decode cX10_compare 146 = .ok (.goto (-83), 3) := by decide +kernel
theorem dX10_compare_149 : decode cX10_compare 149 = .ok (.iconst 0, 1) := by decide +kernel
theorem dX10_compare_150 : decode cX10_compare 150 = .ok (.ireturn, 1) := by decide +kernel
theorem dX10_isSheet_0 : decode cX10_isSheet 0 = .ok (.iload_n 0, 1) := by decide +kernel
theorem dX10_isSheet_1 : decode cX10_isSheet 1 = .ok (.i2l, 1) := by decide +kernel
theorem dX10_isSheet_2 : decode cX10_isSheet 2 = .ok (.lconst 0, 1) := by decide +kernel
theorem dX10_isSheet_3 : decode cX10_isSheet 3 = .ok (.ldc2_w 176, 3) := by decide +kernel
theorem dX10_isSheet_6 : decode cX10_isSheet 6 = .ok (.invokestatic 78, 3) := by decide +kernel
theorem dX10_isSheet_9 : decode cX10_isSheet 9 = .ok (.ireturn, 1) := by decide +kernel
theorem dX10_sheet_0 : decode cX10_sheet 0 = .ok (.iload_n 1, 1) := by decide +kernel
theorem dX10_sheet_1 : decode cX10_sheet 1 = .ok (.invokestatic 187, 3) := by decide +kernel
theorem dX10_sheet_4 : decode cX10_sheet 4 = .ok (.ifCond .eq 25, 3) := by decide +kernel
theorem dX10_sheet_7 : decode cX10_sheet 7 = .ok (.iload_n 2, 1) := by decide +kernel
theorem dX10_sheet_8 : decode cX10_sheet 8 = .ok (.i2l, 1) := by decide +kernel
theorem dX10_sheet_9 : decode cX10_sheet 9 = .ok (.ldc2_w 206, 3) := by decide +kernel
theorem dX10_sheet_12 : decode cX10_sheet 12 = .ok (.lconst 1, 1) := by decide +kernel
theorem dX10_sheet_13 : decode cX10_sheet 13 = .ok (.invokestatic 78, 3) := by decide +kernel
theorem dX10_sheet_16 : decode cX10_sheet 16 = .ok (.ifCond .eq 13, 3) := by decide +kernel
theorem dX10_sheet_19 : decode cX10_sheet 19 = .ok (.iload_n 2, 1) := by decide +kernel
theorem dX10_sheet_20 : decode cX10_sheet 20 = .ok (.ifCond .lt 12, 3) := by decide +kernel
theorem dX10_sheet_23 : decode cX10_sheet 23 = .ok (.iload_n 3, 1) := by decide +kernel
theorem dX10_sheet_24 : decode cX10_sheet 24 = .ok (.bipush 30, 2) := by decide +kernel
theorem dX10_sheet_26 : decode cX10_sheet 26 = .ok (.if_icmp .le 6, 3) := by decide +kernel
theorem dX10_sheet_29 : decode cX10_sheet 29 = .ok (.bipush (-2), 2) := by decide +kernel
theorem dX10_sheet_31 : decode cX10_sheet 31 = .ok (.ireturn, 1) := by decide +kernel
theorem dX10_sheet_32 : decode cX10_sheet 32 = .ok (.iload_n 2, 1) := by decide +kernel
theorem dX10_sheet_33 : decode cX10_sheet 33 = .ok (.ifCond .lt 10, 3) := by decide +kernel
theorem dX10_sheet_36 : decode cX10_sheet 36 = .ok (.iload_n 3, 1) := by decide +kernel
theorem dX10_sheet_37 : decode cX10_sheet 37 = .ok (.ifCond .ge 6, 3) := by decide +kernel
theorem dX10_sheet_40 : decode cX10_sheet 40 = .ok (.bipush (-14), 2) := by decide +kernel
theorem dX10_sheet_42 : decode cX10_sheet 42 = .ok (.ireturn, 1) := by decide +kernel
theorem dX10_sheet_43 : decode cX10_sheet 43 = .ok (.aload_n 0, 1) := by decide +kernel
theorem dX10_sheet_44 : decode cX10_sheet 44 = .ok (.getfield 60, 3) := by decide +kernel
theorem dX10_sheet_47 : decode cX10_sheet 47 = .ok (.iload_n 1, 1) := by decide +kernel
theorem dX10_sheet_48 : decode cX10_sheet 48 = .ok (.iload_n 2, 1) := by decide +kernel
theorem dX10_sheet_49 : decode cX10_sheet 49 = .ok (.iastore, 1) := by decide +kernel
theorem dX10_sheet_50 : decode cX10_sheet 50 = .ok (.aload_n 0, 1) := by decide +kernel
theorem dX10_sheet_51 : decode cX10_sheet 51 = .ok (.getfield 63, 3) := by decide +kernel
theorem dX10_sheet_54 : decode cX10_sheet 54 = .ok (.iload_n 1, 1) := by decide +kernel
theorem dX10_sheet_55 : decode cX10_sheet 55 = .ok (.iload_n 2, 1) := by decide +kernel
theorem dX10_sheet_56 : decode cX10_sheet 56 = .ok (.ifCond .ge 7, 3) := by decide +kernel
theorem dX10_sheet_59 : decode cX10_sheet 59 = .ok (.iconst 0, 1) := by decide +kernel
theorem dX10_sheet_60 : decode cX10_sheet 60 = .ok (.goto 4, 3) := by decide +kernel
theorem dX10_sheet_63 : decode cX10_sheet 63 = .ok (.iload_n 3, 1) := by decide +kernel
theorem dX10_sheet_64 : decode cX10_sheet 64 = .ok (.iastore, 1) := by decide +kernel
theorem dX10_sheet_65 : decode cX10_sheet 65 = .ok (.iconst 0, 1) := by decide +kernel
theorem dX10_sheet_66 : decode cX10_sheet 66 = .ok (.istore 4, 2) := by decide +kernel
theorem dX10_sheet_68 : decode cX10_sheet 68 = .ok (.iload 4, 2) := by decide +kernel
theorem dX10_sheet_70 : decode cX10_sheet 70 = .ok (.bipush 30, 2) := by decide +kernel
theorem dX10_sheet_72 : decode cX10_sheet 72 = .ok (.if_icmp .ge 22, 3) := by decide +kernel
theorem dX10_sheet_75 : decode cX10_sheet 75 = .ok (.aload_n 0, 1) := by decide +kernel
theorem dX10_sheet_76 : decode cX10_sheet 76 = .ok (.getfield 66, 3) := by decide +kernel
theorem dX10_sheet_79 : decode cX10_sheet 79 = .ok (.bipush 30, 2) := by decide +kernel
theorem dX10_sheet_81 : decode cX10_sheet 81 = .ok (.iload_n 1, 1) := by decide +kernel
theorem dX10_sheet_82 : decode cX10_sheet 82 = .ok (.imul, 1) := by decide +kernel
theorem dX10_sheet_83 : decode cX10_sheet 83 = .ok (.iload 4, 2) := by decide +kernel
theorem dX10_sheet_85 : decode cX10_sheet 85 = .ok (.iadd, 1) := by decide +kernel
theorem dX10_sheet_86 : decode cX10_sheet 86 = .ok (.lconst 0, 1) := by decide +kernel
theorem dX10_sheet_87 : decode cX10_sheet 87 = .ok (.lastore, 1) := by decide +kernel
theorem dX10_sheet_88 : decode cX10_sheet 88 = .ok (.iinc 4 1, 3) := by decide +kernel
theorem dX10_sheet_91 : decode cX10_sheet 91 = .ok (.goto (-23), 3) := by decide +kernel
theorem dX10_sheet_94 : decode cX10_sheet 94 = .ok (.iconst 1, 1) := by decide +kernel
theorem dX10_sheet_95 : decode cX10_sheet 95 = .ok (.ireturn, 1) := by decide +kernel
theorem dX10_wrong_0 : decode cX10_wrong 0 = .ok (.iload_n 1, 1) := by decide +kernel
theorem dX10_wrong_1 : decode cX10_wrong 1 = .ok (.invokestatic 187, 3) := by decide +kernel
theorem dX10_wrong_4 : decode cX10_wrong 4 = .ok (.ifCond .ne 8, 3) := by decide +kernel
theorem dX10_wrong_7 : decode cX10_wrong 7 = .ok (.bipush (-2), 2) := by decide +kernel
theorem dX10_wrong_9 : decode cX10_wrong 9 = .ok (.goto 41, 3) := by decide +kernel
theorem dX10_wrong_12 : decode cX10_wrong 12 = .ok (.aload_n 0, 1) := by decide +kernel
theorem dX10_wrong_13 : decode cX10_wrong 13 = .ok (.getfield 60, 3) := by decide +kernel
theorem dX10_wrong_16 : decode cX10_wrong 16 = .ok (.iload_n 1, 1) := by decide +kernel
theorem dX10_wrong_17 : decode cX10_wrong 17 = .ok (.iaload, 1) := by decide +kernel
theorem dX10_wrong_18 : decode cX10_wrong 18 = .ok (.ifCond .ge 8, 3) := by decide +kernel
theorem dX10_wrong_21 : decode cX10_wrong 21 = .ok (.bipush (-11), 2) := by decide +kernel
theorem dX10_wrong_23 : decode cX10_wrong 23 = .ok (.goto 27, 3) := by decide +kernel
theorem dX10_wrong_26 : decode cX10_wrong 26 = .ok (.iload_n 2, 1) := by decide +kernel
theorem dX10_wrong_27 : decode cX10_wrong 27 = .ok (.i2l, 1) := by decide +kernel
theorem dX10_wrong_28 : decode cX10_wrong 28 = .ok (.lconst 0, 1) := by decide +kernel
theorem dX10_wrong_29 : decode cX10_wrong 29 = .ok (.aload_n 0, 1) := by decide +kernel
theorem dX10_wrong_30 : decode cX10_wrong 30 = .ok (.getfield 63, 3) := by decide +kernel
theorem dX10_wrong_33 : decode cX10_wrong 33 = .ok (.iload_n 1, 1) := by decide +kernel
theorem dX10_wrong_34 : decode cX10_wrong 34 = .ok (.iaload, 1) := by decide +kernel
theorem dX10_wrong_35 : decode cX10_wrong 35 = .ok (.iconst 1, 1) := by decide +kernel
theorem dX10_wrong_36 : decode cX10_wrong 36 = .ok (.isub, 1) := by decide +kernel
theorem dX10_wrong_37 : decode cX10_wrong 37 = .ok (.i2l, 1) := by decide +kernel
theorem dX10_wrong_38 : decode cX10_wrong 38 = .ok (.invokestatic 78, 3) := by decide +kernel
theorem dX10_wrong_41 : decode cX10_wrong 41 = .ok (.ifCond .eq 7, 3) := by decide +kernel
theorem dX10_wrong_44 : decode cX10_wrong 44 = .ok (.iconst 0, 1) := by decide +kernel
theorem dX10_wrong_45 : decode cX10_wrong 45 = .ok (.goto 5, 3) := by decide +kernel
theorem dX10_wrong_48 : decode cX10_wrong 48 = .ok (.bipush (-12), 2) := by decide +kernel
theorem dX10_wrong_50 : decode cX10_wrong 50 = .ok (.ireturn, 1) := by decide +kernel
theorem dX10_cell_0 : decode cX10_cell 0 = .ok (.aload_n 0, 1) := by decide +kernel
theorem dX10_cell_1 : decode cX10_cell 1 = .ok (.iload_n 1, 1) := by decide +kernel
theorem dX10_cell_2 : decode cX10_cell 2 = .ok (.iload_n 2, 1) := by decide +kernel
theorem dX10_cell_3 : decode cX10_cell 3 = .ok (.invokevirtual 271, 3) := by decide +kernel
theorem dX10_cell_6 : decode cX10_cell 6 = .ok (.istore 5, 2) := by decide +kernel
theorem dX10_cell_8 : decode cX10_cell 8 = .ok (.iload 5, 2) := by decide +kernel
theorem dX10_cell_10 : decode cX10_cell 10 = .ok (.ifCond .eq 6, 3) := by decide +kernel
theorem dX10_cell_13 : decode cX10_cell 13 = .ok (.iload 5, 2) := by decide +kernel
theorem dX10_cell_15 : decode cX10_cell 15 = .ok (.ireturn, 1) := by decide +kernel
theorem dX10_cell_16 : decode cX10_cell 16 = .ok (.aload_n 0, 1) := by decide +kernel
theorem dX10_cell_17 : decode cX10_cell 17 = .ok (.getfield 60, 3) := by decide +kernel
theorem dX10_cell_20 : decode cX10_cell 20 = .ok (.iload_n 1, 1) := by decide +kernel
theorem dX10_cell_21 : decode cX10_cell 21 = .ok (.iaload, 1) := by decide +kernel
theorem dX10_cell_22 : decode cX10_cell 22 = .ok (.ifCond .ne 14, 3) := by decide +kernel
theorem dX10_cell_25 : decode cX10_cell 25 = .ok (.lload_n 3, 1) := by decide +kernel
theorem dX10_cell_26 : decode cX10_cell 26 = .ok (.lload_n 3, 1) := by decide +kernel
theorem dX10_cell_27 : decode cX10_cell 27 = .ok (.l2i, 1) := by decide +kernel
theorem dX10_cell_28 : decode cX10_cell 28 = .ok (.i2l, 1) := by decide +kernel
theorem dX10_cell_29 : decode cX10_cell 29 = .ok (.lcmp, 1) := by decide +kernel
theorem dX10_cell_30 : decode cX10_cell 30 = .ok (.ifCond .eq 6, 3) := by decide +kernel
theorem dX10_cell_33 : decode cX10_cell 33 = .ok (.bipush (-5), 2) := by decide +kernel
theorem dX10_cell_35 : decode cX10_cell 35 = .ok (.ireturn, 1) := by decide +kernel
theorem dX10_cell_36 : decode cX10_cell 36 = .ok (.aload_n 0, 1) := by decide +kernel
theorem dX10_cell_37 : decode cX10_cell 37 = .ok (.getfield 66, 3) := by decide +kernel
theorem dX10_cell_40 : decode cX10_cell 40 = .ok (.bipush 30, 2) := by decide +kernel
theorem dX10_cell_42 : decode cX10_cell 42 = .ok (.iload_n 1, 1) := by decide +kernel
theorem dX10_cell_43 : decode cX10_cell 43 = .ok (.imul, 1) := by decide +kernel
theorem dX10_cell_44 : decode cX10_cell 44 = .ok (.iload_n 2, 1) := by decide +kernel
theorem dX10_cell_45 : decode cX10_cell 45 = .ok (.iadd, 1) := by decide +kernel
theorem dX10_cell_46 : decode cX10_cell 46 = .ok (.lload_n 3, 1) := by decide +kernel
theorem dX10_cell_47 : decode cX10_cell 47 = .ok (.lastore, 1) := by decide +kernel
theorem dX10_cell_48 : decode cX10_cell 48 = .ok (.iconst 1, 1) := by decide +kernel
theorem dX10_cell_49 : decode cX10_cell 49 = .ok (.ireturn, 1) := by decide +kernel
theorem dX10_read_0 : decode cX10_read 0 = .ok (.aload_n 0, 1) := by decide +kernel
theorem dX10_read_1 : decode cX10_read 1 = .ok (.iload_n 1, 1) := by decide +kernel
theorem dX10_read_2 : decode cX10_read 2 = .ok (.iload_n 2, 1) := by decide +kernel
theorem dX10_read_3 : decode cX10_read 3 = .ok (.invokevirtual 271, 3) := by decide +kernel
theorem dX10_read_6 : decode cX10_read 6 = .ok (.istore_n 3, 1) := by decide +kernel
theorem dX10_read_7 : decode cX10_read 7 = .ok (.iload_n 3, 1) := by decide +kernel
theorem dX10_read_8 : decode cX10_read 8 = .ok (.ifCond .eq 8, 3) := by decide +kernel
theorem dX10_read_11 : decode cX10_read 11 = .ok (.iload_n 3, 1) := by decide +kernel
theorem dX10_read_12 : decode cX10_read 12 = .ok (.i2l, 1) := by decide +kernel
theorem dX10_read_13 : decode cX10_read 13 = .ok (.goto 14, 3) := by decide +kernel
theorem dX10_read_16 : decode cX10_read 16 = .ok (.aload_n 0, 1) := by decide +kernel
theorem dX10_read_17 : decode cX10_read 17 = .ok (.getfield 66, 3) := by decide +kernel
theorem dX10_read_20 : decode cX10_read 20 = .ok (.bipush 30, 2) := by decide +kernel
theorem dX10_read_22 : decode cX10_read 22 = .ok (.iload_n 1, 1) := by decide +kernel
theorem dX10_read_23 : decode cX10_read 23 = .ok (.imul, 1) := by decide +kernel
theorem dX10_read_24 : decode cX10_read 24 = .ok (.iload_n 2, 1) := by decide +kernel
theorem dX10_read_25 : decode cX10_read 25 = .ok (.iadd, 1) := by decide +kernel
theorem dX10_read_26 : decode cX10_read 26 = .ok (.laload, 1) := by decide +kernel
theorem dX10_read_27 : decode cX10_read 27 = .ok (.lreturn, 1) := by decide +kernel
theorem dX10_load_0 : decode cX10_load 0 = .ok (.iload_n 1, 1) := by decide +kernel
theorem dX10_load_1 : decode cX10_load 1 = .ok (.invokestatic 187, 3) := by decide +kernel
theorem dX10_load_4 : decode cX10_load 4 = .ok (.ifCond .eq 11, 3) := by decide +kernel
theorem dX10_load_7 : decode cX10_load 7 = .ok (.aload_n 0, 1) := by decide +kernel
theorem dX10_load_8 : decode cX10_load 8 = .ok (.iload_n 2, 1) := by decide +kernel
theorem dX10_load_9 : decode cX10_load 9 = .ok (.invokevirtual 104, 3) := by decide +kernel
theorem dX10_load_12 : decode cX10_load 12 = .ok (.ifCond .ne 6, 3) := by decide +kernel
theorem dX10_load_15 : decode cX10_load 15 = .ok (.bipush (-2), 2) := by decide +kernel
theorem dX10_load_17 : decode cX10_load 17 = .ok (.ireturn, 1) := by decide +kernel
theorem dX10_load_18 : decode cX10_load 18 = .ok (.aload_n 0, 1) := by decide +kernel
theorem dX10_load_19 : decode cX10_load 19 = .ok (.getfield 60, 3) := by decide +kernel
theorem dX10_load_22 : decode cX10_load 22 = .ok (.iload_n 1, 1) := by decide +kernel
theorem dX10_load_23 : decode cX10_load 23 = .ok (.iaload, 1) := by decide +kernel
theorem dX10_load_24 : decode cX10_load 24 = .ok (.ifCond .ge 6, 3) := by decide +kernel
theorem dX10_load_27 : decode cX10_load 27 = .ok (.bipush (-11), 2) := by decide +kernel
theorem dX10_load_29 : decode cX10_load 29 = .ok (.ireturn, 1) := by decide +kernel
theorem dX10_load_30 : decode cX10_load 30 = .ok (.iload_n 3, 1) := by decide +kernel
theorem dX10_load_31 : decode cX10_load 31 = .ok (.i2l, 1) := by decide +kernel
theorem dX10_load_32 : decode cX10_load 32 = .ok (.lconst 0, 1) := by decide +kernel
theorem dX10_load_33 : decode cX10_load 33 = .ok (.aload_n 0, 1) := by decide +kernel
theorem dX10_load_34 : decode cX10_load 34 = .ok (.getfield 63, 3) := by decide +kernel
theorem dX10_load_37 : decode cX10_load 37 = .ok (.iload_n 1, 1) := by decide +kernel
theorem dX10_load_38 : decode cX10_load 38 = .ok (.iaload, 1) := by decide +kernel
theorem dX10_load_39 : decode cX10_load 39 = .ok (.bipush 12, 2) := by decide +kernel
theorem dX10_load_41 : decode cX10_load 41 = .ok (.isub, 1) := by decide +kernel
theorem dX10_load_42 : decode cX10_load 42 = .ok (.i2l, 1) := by decide +kernel
theorem dX10_load_43 : decode cX10_load 43 = .ok (.invokestatic 78, 3) := by decide +kernel
theorem dX10_load_46 : decode cX10_load 46 = .ok (.ifCond .ne 6, 3) := by decide +kernel
theorem dX10_load_49 : decode cX10_load 49 = .ok (.bipush (-12), 2) := by decide +kernel
theorem dX10_load_51 : decode cX10_load 51 = .ok (.ireturn, 1) := by decide +kernel
theorem dX10_load_52 : decode cX10_load 52 = .ok (.iconst 0, 1) := by decide +kernel
theorem dX10_load_53 : decode cX10_load 53 = .ok (.istore 4, 2) := by decide +kernel
theorem dX10_load_55 : decode cX10_load 55 = .ok (.iload 4, 2) := by decide +kernel
theorem dX10_load_57 : decode cX10_load 57 = .ok (.bipush 12, 2) := by decide +kernel
theorem dX10_load_59 : decode cX10_load 59 = .ok (.if_icmp .ge 40, 3) := by decide +kernel
theorem dX10_load_62 : decode cX10_load 62 = .ok (.aload_n 0, 1) := by decide +kernel
theorem dX10_load_63 : decode cX10_load 63 = .ok (.getfield 27, 3) := by decide +kernel
theorem dX10_load_66 : decode cX10_load 66 = .ok (.bipush 12, 2) := by decide +kernel
theorem dX10_load_68 : decode cX10_load 68 = .ok (.iload_n 2, 1) := by decide +kernel
theorem dX10_load_69 : decode cX10_load 69 = .ok (.imul, 1) := by decide +kernel
theorem dX10_load_70 : decode cX10_load 70 = .ok (.iload 4, 2) := by decide +kernel
theorem dX10_load_72 : decode cX10_load 72 = .ok (.iadd, 1) := by decide +kernel
theorem dX10_load_73 : decode cX10_load 73 = .ok (.aload_n 0, 1) := by decide +kernel
theorem dX10_load_74 : decode cX10_load 74 = .ok (.getfield 66, 3) := by decide +kernel
theorem dX10_load_77 : decode cX10_load 77 = .ok (.bipush 30, 2) := by decide +kernel
theorem dX10_load_79 : decode cX10_load 79 = .ok (.iload_n 1, 1) := by decide +kernel
theorem dX10_load_80 : decode cX10_load 80 = .ok (.imul, 1) := by decide +kernel
theorem dX10_load_81 : decode cX10_load 81 = .ok (.iload_n 3, 1) := by decide +kernel
theorem dX10_load_82 : decode cX10_load 82 = .ok (.iadd, 1) := by decide +kernel
theorem dX10_load_83 : decode cX10_load 83 = .ok (.iload 4, 2) := by decide +kernel
theorem dX10_load_85 : decode cX10_load 85 = .ok (.iadd, 1) := by decide +kernel
theorem dX10_load_86 : decode cX10_load 86 = .ok (.laload, 1) := by decide +kernel
theorem dX10_load_87 : decode cX10_load 87 = .ok (.ldc2_w 274, 3) := by decide +kernel
theorem dX10_load_90 : decode cX10_load 90 = .ok (.lrem, 1) := by decide +kernel
theorem dX10_load_91 : decode cX10_load 91 = .ok (.l2i, 1) := by decide +kernel
theorem dX10_load_92 : decode cX10_load 92 = .ok (.iastore, 1) := by decide +kernel
theorem dX10_load_93 : decode cX10_load 93 = .ok (.iinc 4 1, 3) := by decide +kernel
theorem dX10_load_96 : decode cX10_load 96 = .ok (.goto (-41), 3) := by decide +kernel
theorem dX10_load_99 : decode cX10_load 99 = .ok (.bipush 12, 2) := by decide +kernel
theorem dX10_load_101 : decode cX10_load 101 = .ok (.ireturn, 1) := by decide +kernel
theorem dX10_image_0 : decode cX10_image 0 = .ok (.aload_n 0, 1) := by decide +kernel
theorem dX10_image_1 : decode cX10_image 1 = .ok (.iconst 1, 1) := by decide +kernel
theorem dX10_image_2 : decode cX10_image 2 = .ok (.putfield 276, 3) := by decide +kernel
theorem dX10_image_5 : decode cX10_image 5 = .ok (.aload_n 0, 1) := by decide +kernel
theorem dX10_image_6 : decode cX10_image 6 = .ok (.getfield 69, 3) := by decide +kernel
theorem dX10_image_9 : decode cX10_image 9 = .ok (.iconst 0, 1) := by decide +kernel
theorem dX10_image_10 : decode cX10_image 10 = .ok (.aload_n 0, 1) := by decide +kernel
theorem dX10_image_11 : decode cX10_image 11 = .ok (.getfield 7, 3) := by decide +kernel
theorem dX10_image_14 : decode cX10_image 14 = .ok (.iastore, 1) := by decide +kernel
theorem dX10_image_15 : decode cX10_image 15 = .ok (.aload_n 0, 1) := by decide +kernel
theorem dX10_image_16 : decode cX10_image 16 = .ok (.getfield 69, 3) := by decide +kernel
theorem dX10_image_19 : decode cX10_image 19 = .ok (.iconst 1, 1) := by decide +kernel
theorem dX10_image_20 : decode cX10_image 20 = .ok (.aload_n 0, 1) := by decide +kernel
theorem dX10_image_21 : decode cX10_image 21 = .ok (.getfield 13, 3) := by decide +kernel
theorem dX10_image_24 : decode cX10_image 24 = .ok (.iastore, 1) := by decide +kernel
theorem dX10_image_25 : decode cX10_image 25 = .ok (.aload_n 0, 1) := by decide +kernel
theorem dX10_image_26 : decode cX10_image 26 = .ok (.getfield 69, 3) := by decide +kernel
theorem dX10_image_29 : decode cX10_image 29 = .ok (.iconst 2, 1) := by decide +kernel
theorem dX10_image_30 : decode cX10_image 30 = .ok (.aload_n 0, 1) := by decide +kernel
theorem dX10_image_31 : decode cX10_image 31 = .ok (.getfield 75, 3) := by decide +kernel
theorem dX10_image_34 : decode cX10_image 34 = .ok (.iastore, 1) := by decide +kernel
theorem dX10_image_35 : decode cX10_image 35 = .ok (.iconst 0, 1) := by decide +kernel
theorem dX10_image_36 : decode cX10_image 36 = .ok (.istore_n 1, 1) := by decide +kernel
theorem dX10_image_37 : decode cX10_image 37 = .ok (.iload_n 1, 1) := by decide +kernel
theorem dX10_image_38 : decode cX10_image 38 = .ok (.bipush 10, 2) := by decide +kernel
theorem dX10_image_40 : decode cX10_image 40 = .ok (.if_icmp .ge 50, 3) := by decide +kernel
theorem dX10_image_43 : decode cX10_image 43 = .ok (.aload_n 0, 1) := by decide +kernel
theorem dX10_image_44 : decode cX10_image 44 = .ok (.getfield 69, 3) := by decide +kernel
theorem dX10_image_47 : decode cX10_image 47 = .ok (.iconst 3, 1) := by decide +kernel
theorem dX10_image_48 : decode cX10_image 48 = .ok (.iload_n 1, 1) := by decide +kernel
theorem dX10_image_49 : decode cX10_image 49 = .ok (.iadd, 1) := by decide +kernel
theorem dX10_image_50 : decode cX10_image 50 = .ok (.aload_n 0, 1) := by decide +kernel
theorem dX10_image_51 : decode cX10_image 51 = .ok (.getfield 16, 3) := by decide +kernel
theorem dX10_image_54 : decode cX10_image 54 = .ok (.iload_n 1, 1) := by decide +kernel
theorem dX10_image_55 : decode cX10_image 55 = .ok (.iaload, 1) := by decide +kernel
theorem dX10_image_56 : decode cX10_image 56 = .ok (.iastore, 1) := by decide +kernel
theorem dX10_image_57 : decode cX10_image 57 = .ok (.aload_n 0, 1) := by decide +kernel
theorem dX10_image_58 : decode cX10_image 58 = .ok (.getfield 69, 3) := by decide +kernel
theorem dX10_image_61 : decode cX10_image 61 = .ok (.bipush 13, 2) := by decide +kernel
theorem dX10_image_63 : decode cX10_image 63 = .ok (.iload_n 1, 1) := by decide +kernel
theorem dX10_image_64 : decode cX10_image 64 = .ok (.iadd, 1) := by decide +kernel
theorem dX10_image_65 : decode cX10_image 65 = .ok (.aload_n 0, 1) := by decide +kernel
theorem dX10_image_66 : decode cX10_image 66 = .ok (.getfield 20, 3) := by decide +kernel
theorem dX10_image_69 : decode cX10_image 69 = .ok (.iload_n 1, 1) := by decide +kernel
theorem dX10_image_70 : decode cX10_image 70 = .ok (.iaload, 1) := by decide +kernel
theorem dX10_image_71 : decode cX10_image 71 = .ok (.iastore, 1) := by decide +kernel
theorem dX10_image_72 : decode cX10_image 72 = .ok (.aload_n 0, 1) := by decide +kernel
theorem dX10_image_73 : decode cX10_image 73 = .ok (.getfield 72, 3) := by decide +kernel
theorem dX10_image_76 : decode cX10_image 76 = .ok (.iload_n 1, 1) := by decide +kernel
theorem dX10_image_77 : decode cX10_image 77 = .ok (.aload_n 0, 1) := by decide +kernel
theorem dX10_image_78 : decode cX10_image 78 = .ok (.getfield 23, 3) := by decide +kernel
theorem dX10_image_81 : decode cX10_image 81 = .ok (.iload_n 1, 1) := by decide +kernel
theorem dX10_image_82 : decode cX10_image 82 = .ok (.laload, 1) := by decide +kernel
theorem dX10_image_83 : decode cX10_image 83 = .ok (.lastore, 1) := by decide +kernel
theorem dX10_image_84 : decode cX10_image 84 = .ok (.iinc 1 1, 3) := by decide +kernel
theorem dX10_image_87 : decode cX10_image 87 = .ok (.goto (-50), 3) := by decide +kernel
theorem dX10_image_90 : decode cX10_image 90 = .ok (.iconst 0, 1) := by decide +kernel
theorem dX10_image_91 : decode cX10_image 91 = .ok (.istore_n 1, 1) := by decide +kernel
theorem dX10_image_92 : decode cX10_image 92 = .ok (.iload_n 1, 1) := by decide +kernel
theorem dX10_image_93 : decode cX10_image 93 = .ok (.bipush 120, 2) := by decide +kernel
theorem dX10_image_95 : decode cX10_image 95 = .ok (.if_icmp .ge 24, 3) := by decide +kernel
theorem dX10_image_98 : decode cX10_image 98 = .ok (.aload_n 0, 1) := by decide +kernel
theorem dX10_image_99 : decode cX10_image 99 = .ok (.getfield 69, 3) := by decide +kernel
theorem dX10_image_102 : decode cX10_image 102 = .ok (.bipush 23, 2) := by decide +kernel
theorem dX10_image_104 : decode cX10_image 104 = .ok (.iload_n 1, 1) := by decide +kernel
theorem dX10_image_105 : decode cX10_image 105 = .ok (.iadd, 1) := by decide +kernel
theorem dX10_image_106 : decode cX10_image 106 = .ok (.aload_n 0, 1) := by decide +kernel
theorem dX10_image_107 : decode cX10_image 107 = .ok (.getfield 27, 3) := by decide +kernel
theorem dX10_image_110 : decode cX10_image 110 = .ok (.iload_n 1, 1) := by decide +kernel
theorem dX10_image_111 : decode cX10_image 111 = .ok (.iaload, 1) := by decide +kernel
theorem dX10_image_112 : decode cX10_image 112 = .ok (.iastore, 1) := by decide +kernel
theorem dX10_image_113 : decode cX10_image 113 = .ok (.iinc 1 1, 3) := by decide +kernel
theorem dX10_image_116 : decode cX10_image 116 = .ok (.goto (-24), 3) := by decide +kernel
theorem dX10_image_119 : decode cX10_image 119 = .ok (.iconst 0, 1) := by decide +kernel
theorem dX10_image_120 : decode cX10_image 120 = .ok (.istore_n 1, 1) := by decide +kernel
theorem dX10_image_121 : decode cX10_image 121 = .ok (.iload_n 1, 1) := by decide +kernel
theorem dX10_image_122 : decode cX10_image 122 = .ok (.bipush 8, 2) := by decide +kernel
theorem dX10_image_124 : decode cX10_image 124 = .ok (.if_icmp .ge 25, 3) := by decide +kernel
theorem dX10_image_127 : decode cX10_image 127 = .ok (.aload_n 0, 1) := by decide +kernel
theorem dX10_image_128 : decode cX10_image 128 = .ok (.getfield 69, 3) := by decide +kernel
theorem dX10_image_131 : decode cX10_image 131 = .ok (.sipush 143, 3) := by decide +kernel
theorem dX10_image_134 : decode cX10_image 134 = .ok (.iload_n 1, 1) := by decide +kernel
theorem dX10_image_135 : decode cX10_image 135 = .ok (.iadd, 1) := by decide +kernel
theorem dX10_image_136 : decode cX10_image 136 = .ok (.aload_n 0, 1) := by decide +kernel
theorem dX10_image_137 : decode cX10_image 137 = .ok (.getfield 30, 3) := by decide +kernel
theorem dX10_image_140 : decode cX10_image 140 = .ok (.iload_n 1, 1) := by decide +kernel
theorem dX10_image_141 : decode cX10_image 141 = .ok (.iaload, 1) := by decide +kernel
theorem dX10_image_142 : decode cX10_image 142 = .ok (.iastore, 1) := by decide +kernel
theorem dX10_image_143 : decode cX10_image 143 = .ok (.iinc 1 1, 3) := by decide +kernel
theorem dX10_image_146 : decode cX10_image 146 = .ok (.goto (-25), 3) := by decide +kernel
theorem dX10_image_149 : decode cX10_image 149 = .ok (.aload_n 0, 1) := by decide +kernel
theorem dX10_image_150 : decode cX10_image 150 = .ok (.getfield 75, 3) := by decide +kernel
theorem dX10_image_153 : decode cX10_image 153 = .ok (.ireturn, 1) := by decide +kernel
theorem dX10_back_0 : decode cX10_back 0 = .ok (.aload_n 0, 1) := by decide +kernel
theorem dX10_back_1 : decode cX10_back 1 = .ok (.getfield 276, 3) := by decide +kernel
theorem dX10_back_4 : decode cX10_back 4 = .ok (.ifCond .ne 6, 3) := by decide +kernel
theorem dX10_back_7 : decode cX10_back 7 = .ok (.bipush (-3), 2) := by decide +kernel
theorem dX10_back_9 : decode cX10_back 9 = .ok (.ireturn, 1) := by decide +kernel
theorem dX10_back_10 : decode cX10_back 10 = .ok (.aload_n 0, 1) := by decide +kernel
theorem dX10_back_11 : decode cX10_back 11 = .ok (.aload_n 0, 1) := by decide +kernel
theorem dX10_back_12 : decode cX10_back 12 = .ok (.getfield 69, 3) := by decide +kernel
theorem dX10_back_15 : decode cX10_back 15 = .ok (.iconst 0, 1) := by decide +kernel
theorem dX10_back_16 : decode cX10_back 16 = .ok (.iaload, 1) := by decide +kernel
theorem dX10_back_17 : decode cX10_back 17 = .ok (.putfield 7, 3) := by decide +kernel
theorem dX10_back_20 : decode cX10_back 20 = .ok (.aload_n 0, 1) := by decide +kernel
theorem dX10_back_21 : decode cX10_back 21 = .ok (.aload_n 0, 1) := by decide +kernel
theorem dX10_back_22 : decode cX10_back 22 = .ok (.getfield 69, 3) := by decide +kernel
theorem dX10_back_25 : decode cX10_back 25 = .ok (.iconst 1, 1) := by decide +kernel
theorem dX10_back_26 : decode cX10_back 26 = .ok (.iaload, 1) := by decide +kernel
theorem dX10_back_27 : decode cX10_back 27 = .ok (.putfield 13, 3) := by decide +kernel
theorem dX10_back_30 : decode cX10_back 30 = .ok (.aload_n 0, 1) := by decide +kernel
theorem dX10_back_31 : decode cX10_back 31 = .ok (.aload_n 0, 1) := by decide +kernel
theorem dX10_back_32 : decode cX10_back 32 = .ok (.getfield 69, 3) := by decide +kernel
theorem dX10_back_35 : decode cX10_back 35 = .ok (.iconst 2, 1) := by decide +kernel
theorem dX10_back_36 : decode cX10_back 36 = .ok (.iaload, 1) := by decide +kernel
theorem dX10_back_37 : decode cX10_back 37 = .ok (.putfield 75, 3) := by decide +kernel
theorem dX10_back_40 : decode cX10_back 40 = .ok (.iconst 0, 1) := by decide +kernel
theorem dX10_back_41 : decode cX10_back 41 = .ok (.istore_n 1, 1) := by decide +kernel
theorem dX10_back_42 : decode cX10_back 42 = .ok (.iload_n 1, 1) := by decide +kernel
theorem dX10_back_43 : decode cX10_back 43 = .ok (.bipush 10, 2) := by decide +kernel
theorem dX10_back_45 : decode cX10_back 45 = .ok (.if_icmp .ge 50, 3) := by decide +kernel
theorem dX10_back_48 : decode cX10_back 48 = .ok (.aload_n 0, 1) := by decide +kernel
theorem dX10_back_49 : decode cX10_back 49 = .ok (.getfield 16, 3) := by decide +kernel
theorem dX10_back_52 : decode cX10_back 52 = .ok (.iload_n 1, 1) := by decide +kernel
theorem dX10_back_53 : decode cX10_back 53 = .ok (.aload_n 0, 1) := by decide +kernel
theorem dX10_back_54 : decode cX10_back 54 = .ok (.getfield 69, 3) := by decide +kernel
theorem dX10_back_57 : decode cX10_back 57 = .ok (.iconst 3, 1) := by decide +kernel
theorem dX10_back_58 : decode cX10_back 58 = .ok (.iload_n 1, 1) := by decide +kernel
theorem dX10_back_59 : decode cX10_back 59 = .ok (.iadd, 1) := by decide +kernel
theorem dX10_back_60 : decode cX10_back 60 = .ok (.iaload, 1) := by decide +kernel
theorem dX10_back_61 : decode cX10_back 61 = .ok (.iastore, 1) := by decide +kernel
theorem dX10_back_62 : decode cX10_back 62 = .ok (.aload_n 0, 1) := by decide +kernel
theorem dX10_back_63 : decode cX10_back 63 = .ok (.getfield 20, 3) := by decide +kernel
theorem dX10_back_66 : decode cX10_back 66 = .ok (.iload_n 1, 1) := by decide +kernel
theorem dX10_back_67 : decode cX10_back 67 = .ok (.aload_n 0, 1) := by decide +kernel
theorem dX10_back_68 : decode cX10_back 68 = .ok (.getfield 69, 3) := by decide +kernel
theorem dX10_back_71 : decode cX10_back 71 = .ok (.bipush 13, 2) := by decide +kernel
theorem dX10_back_73 : decode cX10_back 73 = .ok (.iload_n 1, 1) := by decide +kernel
theorem dX10_back_74 : decode cX10_back 74 = .ok (.iadd, 1) := by decide +kernel
theorem dX10_back_75 : decode cX10_back 75 = .ok (.iaload, 1) := by decide +kernel
theorem dX10_back_76 : decode cX10_back 76 = .ok (.iastore, 1) := by decide +kernel
theorem dX10_back_77 : decode cX10_back 77 = .ok (.aload_n 0, 1) := by decide +kernel
theorem dX10_back_78 : decode cX10_back 78 = .ok (.getfield 23, 3) := by decide +kernel
theorem dX10_back_81 : decode cX10_back 81 = .ok (.iload_n 1, 1) := by decide +kernel
theorem dX10_back_82 : decode cX10_back 82 = .ok (.aload_n 0, 1) := by decide +kernel
theorem dX10_back_83 : decode cX10_back 83 = .ok (.getfield 72, 3) := by decide +kernel
theorem dX10_back_86 : decode cX10_back 86 = .ok (.iload_n 1, 1) := by decide +kernel
theorem dX10_back_87 : decode cX10_back 87 = .ok (.laload, 1) := by decide +kernel
theorem dX10_back_88 : decode cX10_back 88 = .ok (.lastore, 1) := by decide +kernel
theorem dX10_back_89 : decode cX10_back 89 = .ok (.iinc 1 1, 3) := by decide +kernel
theorem dX10_back_92 : decode cX10_back 92 = .ok (.goto (-50), 3) := by decide +kernel
theorem dX10_back_95 : decode cX10_back 95 = .ok (.iconst 0, 1) := by decide +kernel
theorem dX10_back_96 : decode cX10_back 96 = .ok (.istore_n 1, 1) := by decide +kernel
theorem dX10_back_97 : decode cX10_back 97 = .ok (.iload_n 1, 1) := by decide +kernel
theorem dX10_back_98 : decode cX10_back 98 = .ok (.bipush 120, 2) := by decide +kernel
theorem dX10_back_100 : decode cX10_back 100 = .ok (.if_icmp .ge 24, 3) := by decide +kernel
theorem dX10_back_103 : decode cX10_back 103 = .ok (.aload_n 0, 1) := by decide +kernel
theorem dX10_back_104 : decode cX10_back 104 = .ok (.getfield 27, 3) := by decide +kernel
theorem dX10_back_107 : decode cX10_back 107 = .ok (.iload_n 1, 1) := by decide +kernel
theorem dX10_back_108 : decode cX10_back 108 = .ok (.aload_n 0, 1) := by decide +kernel
theorem dX10_back_109 : decode cX10_back 109 = .ok (.getfield 69, 3) := by decide +kernel
theorem dX10_back_112 : decode cX10_back 112 = .ok (.bipush 23, 2) := by decide +kernel
theorem dX10_back_114 : decode cX10_back 114 = .ok (.iload_n 1, 1) := by decide +kernel
theorem dX10_back_115 : decode cX10_back 115 = .ok (.iadd, 1) := by decide +kernel
theorem dX10_back_116 : decode cX10_back 116 = .ok (.iaload, 1) := by decide +kernel
theorem dX10_back_117 : decode cX10_back 117 = .ok (.iastore, 1) := by decide +kernel
theorem dX10_back_118 : decode cX10_back 118 = .ok (.iinc 1 1, 3) := by decide +kernel
theorem dX10_back_121 : decode cX10_back 121 = .ok (.goto (-24), 3) := by decide +kernel
theorem dX10_back_124 : decode cX10_back 124 = .ok (.iconst 0, 1) := by decide +kernel
theorem dX10_back_125 : decode cX10_back 125 = .ok (.istore_n 1, 1) := by decide +kernel
theorem dX10_back_126 : decode cX10_back 126 = .ok (.iload_n 1, 1) := by decide +kernel
theorem dX10_back_127 : decode cX10_back 127 = .ok (.bipush 8, 2) := by decide +kernel
theorem dX10_back_129 : decode cX10_back 129 = .ok (.if_icmp .ge 25, 3) := by decide +kernel
theorem dX10_back_132 : decode cX10_back 132 = .ok (.aload_n 0, 1) := by decide +kernel
theorem dX10_back_133 : decode cX10_back 133 = .ok (.getfield 30, 3) := by decide +kernel
theorem dX10_back_136 : decode cX10_back 136 = .ok (.iload_n 1, 1) := by decide +kernel
theorem dX10_back_137 : decode cX10_back 137 = .ok (.aload_n 0, 1) := by decide +kernel
theorem dX10_back_138 : decode cX10_back 138 = .ok (.getfield 69, 3) := by decide +kernel
theorem dX10_back_141 : decode cX10_back 141 = .ok (.sipush 143, 3) := by decide +kernel
theorem dX10_back_144 : decode cX10_back 144 = .ok (.iload_n 1, 1) := by decide +kernel
theorem dX10_back_145 : decode cX10_back 145 = .ok (.iadd, 1) := by decide +kernel
theorem dX10_back_146 : decode cX10_back 146 = .ok (.iaload, 1) := by decide +kernel
theorem dX10_back_147 : decode cX10_back 147 = .ok (.iastore, 1) := by decide +kernel
theorem dX10_back_148 : decode cX10_back 148 = .ok (.iinc 1 1, 3) := by decide +kernel
theorem dX10_back_151 : decode cX10_back 151 = .ok (.goto (-25), 3) := by decide +kernel
theorem dX10_back_154 : decode cX10_back 154 = .ok (.aload_n 0, 1) := by decide +kernel
theorem dX10_back_155 : decode cX10_back 155 = .ok (.getfield 75, 3) := by decide +kernel
theorem dX10_back_158 : decode cX10_back 158 = .ok (.ireturn, 1) := by decide +kernel
theorem dX10_nameMany_0 : decode cX10_nameMany 0 = .ok (.iconst 0, 1) := by decide +kernel
theorem dX10_nameMany_1 : decode cX10_nameMany 1 = .ok (.istore_n 1, 1) := by decide +kernel
theorem dX10_nameMany_2 : decode cX10_nameMany 2 = .ok (.iconst 0, 1) := by decide +kernel
theorem dX10_nameMany_3 : decode cX10_nameMany 3 = .ok (.istore_n 2, 1) := by decide +kernel
theorem dX10_nameMany_4 : decode cX10_nameMany 4 = .ok (.iload_n 2, 1) := by decide +kernel
theorem dX10_nameMany_5 : decode cX10_nameMany 5 = .ok (.aload_n 0, 1) := by decide +kernel
theorem dX10_nameMany_6 : decode cX10_nameMany 6 = .ok (.getfield 75, 3) := by decide +kernel
theorem dX10_nameMany_9 : decode cX10_nameMany 9 = .ok (.if_icmp .ge 28, 3) := by decide +kernel
theorem dX10_nameMany_12 : decode cX10_nameMany 12 = .ok (.iload_n 1, 1) := by decide +kernel
theorem dX10_nameMany_13 : decode cX10_nameMany 13 = .ok (.aload_n 0, 1) := by decide +kernel
theorem dX10_nameMany_14 : decode cX10_nameMany 14 = .ok (.getfield 23, 3) := by decide +kernel
theorem dX10_nameMany_17 : decode cX10_nameMany 17 = .ok (.iload_n 2, 1) := by decide +kernel
theorem dX10_nameMany_18 : decode cX10_nameMany 18 = .ok (.laload, 1) := by decide +kernel
theorem dX10_nameMany_19 : decode cX10_nameMany 19 = .ok (.lconst 0, 1) := by decide +kernel
theorem dX10_nameMany_20 : decode cX10_nameMany 20 = .ok (.lcmp, 1) := by decide +kernel
theorem dX10_nameMany_21 : decode cX10_nameMany 21 = .ok (.ifCond .ne 7, 3) := by decide +kernel
theorem dX10_nameMany_24 : decode cX10_nameMany 24 = .ok (.iconst 0, 1) := by decide +kernel
theorem dX10_nameMany_25 : decode cX10_nameMany 25 = .ok (.goto 4, 3) := by decide +kernel
theorem dX10_nameMany_28 : decode cX10_nameMany 28 = .ok (.iconst 1, 1) := by decide +kernel
theorem dX10_nameMany_29 : decode cX10_nameMany 29 = .ok (.iadd, 1) := by decide +kernel
theorem dX10_nameMany_30 : decode cX10_nameMany 30 = .ok (.istore_n 1, 1) := by decide +kernel
theorem dX10_nameMany_31 : decode cX10_nameMany 31 = .ok (.iinc 2 1, 3) := by decide +kernel
theorem dX10_nameMany_34 : decode cX10_nameMany 34 = .ok (.goto (-30), 3) := by decide +kernel
theorem dX10_nameMany_37 : decode cX10_nameMany 37 = .ok (.iload_n 1, 1) := by decide +kernel
theorem dX10_nameMany_38 : decode cX10_nameMany 38 = .ok (.ireturn, 1) := by decide +kernel
theorem dX10_linkMany_0 : decode cX10_linkMany 0 = .ok (.iconst 0, 1) := by decide +kernel
theorem dX10_linkMany_1 : decode cX10_linkMany 1 = .ok (.istore_n 1, 1) := by decide +kernel
theorem dX10_linkMany_2 : decode cX10_linkMany 2 = .ok (.iconst 0, 1) := by decide +kernel
theorem dX10_linkMany_3 : decode cX10_linkMany 3 = .ok (.istore_n 2, 1) := by decide +kernel
theorem dX10_linkMany_4 : decode cX10_linkMany 4 = .ok (.iload_n 2, 1) := by decide +kernel
theorem dX10_linkMany_5 : decode cX10_linkMany 5 = .ok (.bipush 8, 2) := by decide +kernel
theorem dX10_linkMany_7 : decode cX10_linkMany 7 = .ok (.if_icmp .ge 21, 3) := by decide +kernel
theorem dX10_linkMany_10 : decode cX10_linkMany 10 = .ok (.iload_n 1, 1) := by decide +kernel
theorem dX10_linkMany_11 : decode cX10_linkMany 11 = .ok (.aload_n 0, 1) := by decide +kernel
theorem dX10_linkMany_12 : decode cX10_linkMany 12 = .ok (.getfield 30, 3) := by decide +kernel
theorem dX10_linkMany_15 : decode cX10_linkMany 15 = .ok (.iload_n 2, 1) := by decide +kernel
theorem dX10_linkMany_16 : decode cX10_linkMany 16 = .ok (.iaload, 1) := by decide +kernel
theorem dX10_linkMany_17 : decode cX10_linkMany 17 = .ok (.invokestatic 164, 3) := by decide +kernel
theorem dX10_linkMany_20 : decode cX10_linkMany 20 = .ok (.iadd, 1) := by decide +kernel
theorem dX10_linkMany_21 : decode cX10_linkMany 21 = .ok (.istore_n 1, 1) := by decide +kernel
theorem dX10_linkMany_22 : decode cX10_linkMany 22 = .ok (.iinc 2 1, 3) := by decide +kernel
theorem dX10_linkMany_25 : decode cX10_linkMany 25 = .ok (.goto (-21), 3) := by decide +kernel
theorem dX10_linkMany_28 : decode cX10_linkMany 28 = .ok (.iload_n 1, 1) := by decide +kernel
theorem dX10_linkMany_29 : decode cX10_linkMany 29 = .ok (.iconst 2, 1) := by decide +kernel
theorem dX10_linkMany_30 : decode cX10_linkMany 30 = .ok (.idiv, 1) := by decide +kernel
theorem dX10_linkMany_31 : decode cX10_linkMany 31 = .ok (.ireturn, 1) := by decide +kernel
theorem dX10_count_0 : decode cX10_count 0 = .ok (.iload_n 1, 1) := by decide +kernel
theorem dX10_count_1 : decode cX10_count 1 = .ok (.tableswitch 60 0 4 #[35, 40, 45, 50, 55], 35) := by decide +kernel
theorem dX10_count_36 : decode cX10_count 36 = .ok (.aload_n 0, 1) := by decide +kernel
theorem dX10_count_37 : decode cX10_count 37 = .ok (.getfield 75, 3) := by decide +kernel
theorem dX10_count_40 : decode cX10_count 40 = .ok (.ireturn, 1) := by decide +kernel
theorem dX10_count_41 : decode cX10_count 41 = .ok (.aload_n 0, 1) := by decide +kernel
theorem dX10_count_42 : decode cX10_count 42 = .ok (.getfield 7, 3) := by decide +kernel
theorem dX10_count_45 : decode cX10_count 45 = .ok (.ireturn, 1) := by decide +kernel
theorem dX10_count_46 : decode cX10_count 46 = .ok (.aload_n 0, 1) := by decide +kernel
theorem dX10_count_47 : decode cX10_count 47 = .ok (.getfield 13, 3) := by decide +kernel
theorem dX10_count_50 : decode cX10_count 50 = .ok (.ireturn, 1) := by decide +kernel
theorem dX10_count_51 : decode cX10_count 51 = .ok (.aload_n 0, 1) := by decide +kernel
theorem dX10_count_52 : decode cX10_count 52 = .ok (.invokevirtual 279, 3) := by decide +kernel
theorem dX10_count_55 : decode cX10_count 55 = .ok (.ireturn, 1) := by decide +kernel
theorem dX10_count_56 : decode cX10_count 56 = .ok (.aload_n 0, 1) := by decide +kernel
theorem dX10_count_57 : decode cX10_count 57 = .ok (.invokevirtual 282, 3) := by decide +kernel
theorem dX10_count_60 : decode cX10_count 60 = .ok (.ireturn, 1) := by decide +kernel
theorem dX10_count_61 : decode cX10_count 61 = .ok (.bipush (-2), 2) := by decide +kernel
theorem dX10_count_63 : decode cX10_count 63 = .ok (.ireturn, 1) := by decide +kernel
theorem dJ6_compare_7cf53_0 : decode cJ6_compare_7cf53 0 = .ok (.iload_n 0, 1) := by decide +kernel
theorem dJ6_compare_7cf53_1 : decode cJ6_compare_7cf53 1 = .ok (.iload_n 1, 1) := by decide +kernel
theorem dJ6_compare_7cf53_2 : decode cJ6_compare_7cf53 2 = .ok (.if_icmp .ge 7, 3) := by decide +kernel
theorem dJ6_compare_7cf53_5 : decode cJ6_compare_7cf53 5 = .ok (.iconst (-1), 1) := by decide +kernel
theorem dJ6_compare_7cf53_6 : decode cJ6_compare_7cf53 6 = .ok (.goto 13, 3) := by decide +kernel
theorem dJ6_compare_7cf53_9 : decode cJ6_compare_7cf53 9 = .ok (.iload_n 0, 1) := by decide +kernel
theorem dJ6_compare_7cf53_10 : decode cJ6_compare_7cf53 10 = .ok (.iload_n 1, 1) := by decide +kernel
theorem dJ6_compare_7cf53_11 : decode cJ6_compare_7cf53 11 = .ok (.if_icmp .ne 7, 3) := by decide +kernel
theorem dJ6_compare_7cf53_14 : decode cJ6_compare_7cf53 14 = .ok (.iconst 0, 1) := by decide +kernel
theorem dJ6_compare_7cf53_15 : decode cJ6_compare_7cf53 15 = .ok (.goto 4, 3) := by decide +kernel
theorem dJ6_compare_7cf53_18 : decode cJ6_compare_7cf53 18 = .ok (.iconst 1, 1) := by decide +kernel
theorem dJ6_compare_7cf53_19 : decode cJ6_compare_7cf53 19 = .ok (.ireturn, 1) := by decide +kernel
theorem dJ6_bitCount_0f7a4_0 : decode cJ6_bitCount_0f7a4 0 = .ok (.iload_n 0, 1) := by decide +kernel
theorem dJ6_bitCount_0f7a4_1 : decode cJ6_bitCount_0f7a4 1 = .ok (.iload_n 0, 1) := by decide +kernel
theorem dJ6_bitCount_0f7a4_2 : decode cJ6_bitCount_0f7a4 2 = .ok (.iconst 1, 1) := by decide +kernel
theorem dJ6_bitCount_0f7a4_3 : decode cJ6_bitCount_0f7a4 3 = .ok (.iushr, 1) := by decide +kernel
theorem dJ6_bitCount_0f7a4_4 : decode cJ6_bitCount_0f7a4 4 = .ok (.ldc_w 265, 3) := by decide +kernel
theorem dJ6_bitCount_0f7a4_7 : decode cJ6_bitCount_0f7a4 7 = .ok (.iand, 1) := by decide +kernel
theorem dJ6_bitCount_0f7a4_8 : decode cJ6_bitCount_0f7a4 8 = .ok (.isub, 1) := by decide +kernel
theorem dJ6_bitCount_0f7a4_9 : decode cJ6_bitCount_0f7a4 9 = .ok (.istore_n 0, 1) := by decide +kernel
theorem dJ6_bitCount_0f7a4_10 : decode cJ6_bitCount_0f7a4 10 = .ok (.iload_n 0, 1) := by decide +kernel
theorem dJ6_bitCount_0f7a4_11 : decode cJ6_bitCount_0f7a4 11 = .ok (.ldc_w 266, 3) := by decide +kernel
theorem dJ6_bitCount_0f7a4_14 : decode cJ6_bitCount_0f7a4 14 = .ok (.iand, 1) := by decide +kernel
theorem dJ6_bitCount_0f7a4_15 : decode cJ6_bitCount_0f7a4 15 = .ok (.iload_n 0, 1) := by decide +kernel
theorem dJ6_bitCount_0f7a4_16 : decode cJ6_bitCount_0f7a4 16 = .ok (.iconst 2, 1) := by decide +kernel
theorem dJ6_bitCount_0f7a4_17 : decode cJ6_bitCount_0f7a4 17 = .ok (.iushr, 1) := by decide +kernel
theorem dJ6_bitCount_0f7a4_18 : decode cJ6_bitCount_0f7a4 18 = .ok (.ldc_w 266, 3) := by decide +kernel
theorem dJ6_bitCount_0f7a4_21 : decode cJ6_bitCount_0f7a4 21 = .ok (.iand, 1) := by decide +kernel
theorem dJ6_bitCount_0f7a4_22 : decode cJ6_bitCount_0f7a4 22 = .ok (.iadd, 1) := by decide +kernel
theorem dJ6_bitCount_0f7a4_23 : decode cJ6_bitCount_0f7a4 23 = .ok (.istore_n 0, 1) := by decide +kernel
theorem dJ6_bitCount_0f7a4_24 : decode cJ6_bitCount_0f7a4 24 = .ok (.iload_n 0, 1) := by decide +kernel
theorem dJ6_bitCount_0f7a4_25 : decode cJ6_bitCount_0f7a4 25 = .ok (.iload_n 0, 1) := by decide +kernel
theorem dJ6_bitCount_0f7a4_26 : decode cJ6_bitCount_0f7a4 26 = .ok (.iconst 4, 1) := by decide +kernel
theorem dJ6_bitCount_0f7a4_27 : decode cJ6_bitCount_0f7a4 27 = .ok (.iushr, 1) := by decide +kernel
theorem dJ6_bitCount_0f7a4_28 : decode cJ6_bitCount_0f7a4 28 = .ok (.iadd, 1) := by decide +kernel
theorem dJ6_bitCount_0f7a4_29 : decode cJ6_bitCount_0f7a4 29 = .ok (.ldc_w 267, 3) := by decide +kernel
theorem dJ6_bitCount_0f7a4_32 : decode cJ6_bitCount_0f7a4 32 = .ok (.iand, 1) := by decide +kernel
theorem dJ6_bitCount_0f7a4_33 : decode cJ6_bitCount_0f7a4 33 = .ok (.istore_n 0, 1) := by decide +kernel
theorem dJ6_bitCount_0f7a4_34 : decode cJ6_bitCount_0f7a4 34 = .ok (.iload_n 0, 1) := by decide +kernel
theorem dJ6_bitCount_0f7a4_35 : decode cJ6_bitCount_0f7a4 35 = .ok (.iload_n 0, 1) := by decide +kernel
theorem dJ6_bitCount_0f7a4_36 : decode cJ6_bitCount_0f7a4 36 = .ok (.bipush 8, 2) := by decide +kernel
theorem dJ6_bitCount_0f7a4_38 : decode cJ6_bitCount_0f7a4 38 = .ok (.iushr, 1) := by decide +kernel
theorem dJ6_bitCount_0f7a4_39 : decode cJ6_bitCount_0f7a4 39 = .ok (.iadd, 1) := by decide +kernel
theorem dJ6_bitCount_0f7a4_40 : decode cJ6_bitCount_0f7a4 40 = .ok (.istore_n 0, 1) := by decide +kernel
theorem dJ6_bitCount_0f7a4_41 : decode cJ6_bitCount_0f7a4 41 = .ok (.iload_n 0, 1) := by decide +kernel
theorem dJ6_bitCount_0f7a4_42 : decode cJ6_bitCount_0f7a4 42 = .ok (.iload_n 0, 1) := by decide +kernel
theorem dJ6_bitCount_0f7a4_43 : decode cJ6_bitCount_0f7a4 43 = .ok (.bipush 16, 2) := by decide +kernel
theorem dJ6_bitCount_0f7a4_45 : decode cJ6_bitCount_0f7a4 45 = .ok (.iushr, 1) := by decide +kernel
theorem dJ6_bitCount_0f7a4_46 : decode cJ6_bitCount_0f7a4 46 = .ok (.iadd, 1) := by decide +kernel
theorem dJ6_bitCount_0f7a4_47 : decode cJ6_bitCount_0f7a4 47 = .ok (.istore_n 0, 1) := by decide +kernel
theorem dJ6_bitCount_0f7a4_48 : decode cJ6_bitCount_0f7a4 48 = .ok (.iload_n 0, 1) := by decide +kernel
theorem dJ6_bitCount_0f7a4_49 : decode cJ6_bitCount_0f7a4 49 = .ok (.bipush 63, 2) := by decide +kernel
theorem dJ6_bitCount_0f7a4_51 : decode cJ6_bitCount_0f7a4 51 = .ok (.iand, 1) := by decide +kernel
theorem dJ6_bitCount_0f7a4_52 : decode cJ6_bitCount_0f7a4 52 = .ok (.ireturn, 1) := by decide +kernel
theorem dJ9_max_7cf53_0 : decode cJ9_max_7cf53 0 = .ok (.iload_n 0, 1) := by decide +kernel
theorem dJ9_max_7cf53_1 : decode cJ9_max_7cf53 1 = .ok (.iload_n 1, 1) := by decide +kernel
theorem dJ9_max_7cf53_2 : decode cJ9_max_7cf53 2 = .ok (.if_icmp .lt 7, 3) := by decide +kernel
theorem dJ9_max_7cf53_5 : decode cJ9_max_7cf53 5 = .ok (.iload_n 0, 1) := by decide +kernel
theorem dJ9_max_7cf53_6 : decode cJ9_max_7cf53 6 = .ok (.goto 4, 3) := by decide +kernel
theorem dJ9_max_7cf53_9 : decode cJ9_max_7cf53 9 = .ok (.iload_n 1, 1) := by decide +kernel
theorem dJ9_max_7cf53_10 : decode cJ9_max_7cf53 10 = .ok (.ireturn, 1) := by decide +kernel
theorem dJ9_min_7cf53_0 : decode cJ9_min_7cf53 0 = .ok (.iload_n 0, 1) := by decide +kernel
theorem dJ9_min_7cf53_1 : decode cJ9_min_7cf53 1 = .ok (.iload_n 1, 1) := by decide +kernel
theorem dJ9_min_7cf53_2 : decode cJ9_min_7cf53 2 = .ok (.if_icmp .gt 7, 3) := by decide +kernel
theorem dJ9_min_7cf53_5 : decode cJ9_min_7cf53 5 = .ok (.iload_n 0, 1) := by decide +kernel
theorem dJ9_min_7cf53_6 : decode cJ9_min_7cf53 6 = .ok (.goto 4, 3) := by decide +kernel
theorem dJ9_min_7cf53_9 : decode cJ9_min_7cf53 9 = .ok (.iload_n 1, 1) := by decide +kernel
theorem dJ9_min_7cf53_10 : decode cJ9_min_7cf53 10 = .ok (.ireturn, 1) := by decide +kernel
theorem dL_law_0 : decode cL_law 0 = .ok (.new 7, 3) := by decide +kernel
theorem dL_law_3 : decode cL_law 3 = .ok (.dup, 1) := by decide +kernel
theorem dL_law_4 : decode cL_law 4 = .ok (.invokespecial 9, 3) := by decide +kernel
theorem dL_law_7 : decode cL_law 7 = .ok (.astore_n 1, 1) := by decide +kernel
theorem dL_law_8 : decode cL_law 8 = .ok (.new 10, 3) := by decide +kernel
theorem dL_law_11 : decode cL_law 11 = .ok (.dup, 1) := by decide +kernel
theorem dL_law_12 : decode cL_law 12 = .ok (.invokespecial 12, 3) := by decide +kernel
theorem dL_law_15 : decode cL_law 15 = .ok (.astore_n 2, 1) := by decide +kernel
theorem dL_law_16 : decode cL_law 16 = .ok (.iconst 0, 1) := by decide +kernel
theorem dL_law_17 : decode cL_law 17 = .ok (.istore_n 3, 1) := by decide +kernel
theorem dL_law_18 : decode cL_law 18 = .ok (.iload_n 3, 1) := by decide +kernel
theorem dL_law_19 : decode cL_law 19 = .ok (.aload_n 0, 1) := by decide +kernel
theorem dL_law_20 : decode cL_law 20 = .ok (.arraylength, 1) := by decide +kernel
theorem dL_law_21 : decode cL_law 21 = .ok (.iconst 5, 1) := by decide +kernel
theorem dL_law_22 : decode cL_law 22 = .ok (.isub, 1) := by decide +kernel
theorem dL_law_23 : decode cL_law 23 = .ok (.if_icmp .gt 1593, 3) := by decide +kernel
theorem dL_law_26 : decode cL_law 26 = .ok (.aload_n 0, 1) := by decide +kernel
theorem dL_law_27 : decode cL_law 27 = .ok (.iload_n 3, 1) := by decide +kernel
theorem dL_law_28 : decode cL_law 28 = .ok (.iaload, 1) := by decide +kernel
theorem dL_law_29 : decode cL_law 29 = .ok (.bipush 63, 2) := by decide +kernel
theorem dL_law_31 : decode cL_law 31 = .ok (.iand, 1) := by decide +kernel
theorem dL_law_32 : decode cL_law 32 = .ok (.tableswitch 1578 0 43 #[192, 225, 258, 291, 344, 387, 420, 463, 476, 539, 592, 615, 639, 662, 685, 698, 721, 744, 767, 790, 813, 856, 879, 903, 936, 969, 1002, 1035, 1048, 1072, 1105, 1148, 1171, 1194, 1237, 1270, 1303, 1336, 1379, 1452, 1486, 1529, 1542, 1555], 192) := by decide +kernel
theorem dL_law_224 : decode cL_law 224 = .ok (.aload_n 1, 1) := by decide +kernel
theorem dL_law_225 : decode cL_law 225 = .ok (.aload_n 0, 1) := by decide +kernel
theorem dL_law_226 : decode cL_law 226 = .ok (.iload_n 3, 1) := by decide +kernel
theorem dL_law_227 : decode cL_law 227 = .ok (.iconst 1, 1) := by decide +kernel
theorem dL_law_228 : decode cL_law 228 = .ok (.iadd, 1) := by decide +kernel
theorem dL_law_229 : decode cL_law 229 = .ok (.iaload, 1) := by decide +kernel
theorem dL_law_230 : decode cL_law 230 = .ok (.aload_n 0, 1) := by decide +kernel
theorem dL_law_231 : decode cL_law 231 = .ok (.iload_n 3, 1) := by decide +kernel
theorem dL_law_232 : decode cL_law 232 = .ok (.iconst 2, 1) := by decide +kernel
theorem dL_law_233 : decode cL_law 233 = .ok (.iadd, 1) := by decide +kernel
theorem dL_law_234 : decode cL_law 234 = .ok (.iaload, 1) := by decide +kernel
theorem dL_law_235 : decode cL_law 235 = .ok (.invokevirtual 13, 3) := by decide +kernel
theorem dL_law_238 : decode cL_law 238 = .ok (.aload_n 2, 1) := by decide +kernel
theorem dL_law_239 : decode cL_law 239 = .ok (.aload_n 0, 1) := by decide +kernel
theorem dL_law_240 : decode cL_law 240 = .ok (.iload_n 3, 1) := by decide +kernel
theorem dL_law_241 : decode cL_law 241 = .ok (.iconst 1, 1) := by decide +kernel
theorem dL_law_242 : decode cL_law 242 = .ok (.iadd, 1) := by decide +kernel
theorem dL_law_243 : decode cL_law 243 = .ok (.iaload, 1) := by decide +kernel
theorem dL_law_244 : decode cL_law 244 = .ok (.aload_n 0, 1) := by decide +kernel
theorem dL_law_245 : decode cL_law 245 = .ok (.iload_n 3, 1) := by decide +kernel
theorem dL_law_246 : decode cL_law 246 = .ok (.iconst 2, 1) := by decide +kernel
theorem dL_law_247 : decode cL_law 247 = .ok (.iadd, 1) := by decide +kernel
end
section
theorem dL_law_248 : decode cL_law 248 = .ok (.iaload, 1) := by decide +kernel
theorem dL_law_249 : decode cL_law 249 = .ok (.invokevirtual 17, 3) := by decide +kernel
theorem dL_law_252 : decode cL_law 252 = .ok (.if_icmp .eq 1358, 3) := by decide +kernel
theorem dL_law_255 : decode cL_law 255 = .ok (.iconst 0, 1) := by decide +kernel
theorem dL_law_256 : decode cL_law 256 = .ok (.ireturn, 1) := by decide +kernel
theorem dL_law_257 : decode cL_law 257 = .ok (.aload_n 1, 1) := by decide +kernel
theorem dL_law_258 : decode cL_law 258 = .ok (.aload_n 0, 1) := by decide +kernel
theorem dL_law_259 : decode cL_law 259 = .ok (.iload_n 3, 1) := by decide +kernel
theorem dL_law_260 : decode cL_law 260 = .ok (.iconst 1, 1) := by decide +kernel
theorem dL_law_261 : decode cL_law 261 = .ok (.iadd, 1) := by decide +kernel
theorem dL_law_262 : decode cL_law 262 = .ok (.iaload, 1) := by decide +kernel
theorem dL_law_263 : decode cL_law 263 = .ok (.aload_n 0, 1) := by decide +kernel
theorem dL_law_264 : decode cL_law 264 = .ok (.iload_n 3, 1) := by decide +kernel
theorem dL_law_265 : decode cL_law 265 = .ok (.iconst 2, 1) := by decide +kernel
theorem dL_law_266 : decode cL_law 266 = .ok (.iadd, 1) := by decide +kernel
theorem dL_law_267 : decode cL_law 267 = .ok (.iaload, 1) := by decide +kernel
theorem dL_law_268 : decode cL_law 268 = .ok (.invokevirtual 18, 3) := by decide +kernel
theorem dL_law_271 : decode cL_law 271 = .ok (.aload_n 2, 1) := by decide +kernel
theorem dL_law_272 : decode cL_law 272 = .ok (.aload_n 0, 1) := by decide +kernel
theorem dL_law_273 : decode cL_law 273 = .ok (.iload_n 3, 1) := by decide +kernel
theorem dL_law_274 : decode cL_law 274 = .ok (.iconst 1, 1) := by decide +kernel
theorem dL_law_275 : decode cL_law 275 = .ok (.iadd, 1) := by decide +kernel
theorem dL_law_276 : decode cL_law 276 = .ok (.iaload, 1) := by decide +kernel
theorem dL_law_277 : decode cL_law 277 = .ok (.aload_n 0, 1) := by decide +kernel
theorem dL_law_278 : decode cL_law 278 = .ok (.iload_n 3, 1) := by decide +kernel
theorem dL_law_279 : decode cL_law 279 = .ok (.iconst 2, 1) := by decide +kernel
theorem dL_law_280 : decode cL_law 280 = .ok (.iadd, 1) := by decide +kernel
theorem dL_law_281 : decode cL_law 281 = .ok (.iaload, 1) := by decide +kernel
theorem dL_law_282 : decode cL_law 282 = .ok (.invokevirtual 21, 3) := by decide +kernel
theorem dL_law_285 : decode cL_law 285 = .ok (.if_icmp .eq 1325, 3) := by decide +kernel
theorem dL_law_288 : decode cL_law 288 = .ok (.iconst 0, 1) := by decide +kernel
theorem dL_law_289 : decode cL_law 289 = .ok (.ireturn, 1) := by decide +kernel
theorem dL_law_290 : decode cL_law 290 = .ok (.aload_n 1, 1) := by decide +kernel
theorem dL_law_291 : decode cL_law 291 = .ok (.aload_n 0, 1) := by decide +kernel
theorem dL_law_292 : decode cL_law 292 = .ok (.iload_n 3, 1) := by decide +kernel
theorem dL_law_293 : decode cL_law 293 = .ok (.iconst 1, 1) := by decide +kernel
theorem dL_law_294 : decode cL_law 294 = .ok (.iadd, 1) := by decide +kernel
theorem dL_law_295 : decode cL_law 295 = .ok (.iaload, 1) := by decide +kernel
theorem dL_law_296 : decode cL_law 296 = .ok (.aload_n 0, 1) := by decide +kernel
theorem dL_law_297 : decode cL_law 297 = .ok (.iload_n 3, 1) := by decide +kernel
theorem dL_law_298 : decode cL_law 298 = .ok (.iconst 2, 1) := by decide +kernel
theorem dL_law_299 : decode cL_law 299 = .ok (.iadd, 1) := by decide +kernel
theorem dL_law_300 : decode cL_law 300 = .ok (.iaload, 1) := by decide +kernel
theorem dL_law_301 : decode cL_law 301 = .ok (.invokevirtual 22, 3) := by decide +kernel
theorem dL_law_304 : decode cL_law 304 = .ok (.aload_n 2, 1) := by decide +kernel
theorem dL_law_305 : decode cL_law 305 = .ok (.aload_n 0, 1) := by decide +kernel
theorem dL_law_306 : decode cL_law 306 = .ok (.iload_n 3, 1) := by decide +kernel
theorem dL_law_307 : decode cL_law 307 = .ok (.iconst 1, 1) := by decide +kernel
theorem dL_law_308 : decode cL_law 308 = .ok (.iadd, 1) := by decide +kernel
theorem dL_law_309 : decode cL_law 309 = .ok (.iaload, 1) := by decide +kernel
theorem dL_law_310 : decode cL_law 310 = .ok (.aload_n 0, 1) := by decide +kernel
theorem dL_law_311 : decode cL_law 311 = .ok (.iload_n 3, 1) := by decide +kernel
theorem dL_law_312 : decode cL_law 312 = .ok (.iconst 2, 1) := by decide +kernel
theorem dL_law_313 : decode cL_law 313 = .ok (.iadd, 1) := by decide +kernel
theorem dL_law_314 : decode cL_law 314 = .ok (.iaload, 1) := by decide +kernel
theorem dL_law_315 : decode cL_law 315 = .ok (.invokevirtual 25, 3) := by decide +kernel
theorem dL_law_318 : decode cL_law 318 = .ok (.if_icmp .eq 1292, 3) := by decide +kernel
theorem dL_law_321 : decode cL_law 321 = .ok (.iconst 0, 1) := by decide +kernel
theorem dL_law_322 : decode cL_law 322 = .ok (.ireturn, 1) := by decide +kernel
theorem dL_law_323 : decode cL_law 323 = .ok (.aload_n 1, 1) := by decide +kernel
theorem dL_law_324 : decode cL_law 324 = .ok (.aload_n 0, 1) := by decide +kernel
theorem dL_law_325 : decode cL_law 325 = .ok (.iload_n 3, 1) := by decide +kernel
theorem dL_law_326 : decode cL_law 326 = .ok (.iconst 1, 1) := by decide +kernel
theorem dL_law_327 : decode cL_law 327 = .ok (.iadd, 1) := by decide +kernel
theorem dL_law_328 : decode cL_law 328 = .ok (.iaload, 1) := by decide +kernel
theorem dL_law_329 : decode cL_law 329 = .ok (.aload_n 0, 1) := by decide +kernel
theorem dL_law_330 : decode cL_law 330 = .ok (.iload_n 3, 1) := by decide +kernel
theorem dL_law_331 : decode cL_law 331 = .ok (.iconst 2, 1) := by decide +kernel
theorem dL_law_332 : decode cL_law 332 = .ok (.iadd, 1) := by decide +kernel
theorem dL_law_333 : decode cL_law 333 = .ok (.iaload, 1) := by decide +kernel
theorem dL_law_334 : decode cL_law 334 = .ok (.aload_n 0, 1) := by decide +kernel
theorem dL_law_335 : decode cL_law 335 = .ok (.iload_n 3, 1) := by decide +kernel
theorem dL_law_336 : decode cL_law 336 = .ok (.iconst 3, 1) := by decide +kernel
theorem dL_law_337 : decode cL_law 337 = .ok (.iadd, 1) := by decide +kernel
theorem dL_law_338 : decode cL_law 338 = .ok (.iaload, 1) := by decide +kernel
theorem dL_law_339 : decode cL_law 339 = .ok (.aload_n 0, 1) := by decide +kernel
theorem dL_law_340 : decode cL_law 340 = .ok (.iload_n 3, 1) := by decide +kernel
theorem dL_law_341 : decode cL_law 341 = .ok (.iconst 4, 1) := by decide +kernel
theorem dL_law_342 : decode cL_law 342 = .ok (.iadd, 1) := by decide +kernel
theorem dL_law_343 : decode cL_law 343 = .ok (.iaload, 1) := by decide +kernel
theorem dL_law_344 : decode cL_law 344 = .ok (.invokevirtual 26, 3) := by decide +kernel
theorem dL_law_347 : decode cL_law 347 = .ok (.aload_n 2, 1) := by decide +kernel
theorem dL_law_348 : decode cL_law 348 = .ok (.aload_n 0, 1) := by decide +kernel
theorem dL_law_349 : decode cL_law 349 = .ok (.iload_n 3, 1) := by decide +kernel
theorem dL_law_350 : decode cL_law 350 = .ok (.iconst 1, 1) := by decide +kernel
theorem dL_law_351 : decode cL_law 351 = .ok (.iadd, 1) := by decide +kernel
theorem dL_law_352 : decode cL_law 352 = .ok (.iaload, 1) := by decide +kernel
theorem dL_law_353 : decode cL_law 353 = .ok (.aload_n 0, 1) := by decide +kernel
theorem dL_law_354 : decode cL_law 354 = .ok (.iload_n 3, 1) := by decide +kernel
theorem dL_law_355 : decode cL_law 355 = .ok (.iconst 2, 1) := by decide +kernel
theorem dL_law_356 : decode cL_law 356 = .ok (.iadd, 1) := by decide +kernel
theorem dL_law_357 : decode cL_law 357 = .ok (.iaload, 1) := by decide +kernel
theorem dL_law_358 : decode cL_law 358 = .ok (.aload_n 0, 1) := by decide +kernel
theorem dL_law_359 : decode cL_law 359 = .ok (.iload_n 3, 1) := by decide +kernel
theorem dL_law_360 : decode cL_law 360 = .ok (.iconst 3, 1) := by decide +kernel
theorem dL_law_361 : decode cL_law 361 = .ok (.iadd, 1) := by decide +kernel
theorem dL_law_362 : decode cL_law 362 = .ok (.iaload, 1) := by decide +kernel
theorem dL_law_363 : decode cL_law 363 = .ok (.aload_n 0, 1) := by decide +kernel
theorem dL_law_364 : decode cL_law 364 = .ok (.iload_n 3, 1) := by decide +kernel
theorem dL_law_365 : decode cL_law 365 = .ok (.iconst 4, 1) := by decide +kernel
theorem dL_law_366 : decode cL_law 366 = .ok (.iadd, 1) := by decide +kernel
theorem dL_law_367 : decode cL_law 367 = .ok (.iaload, 1) := by decide +kernel
theorem dL_law_368 : decode cL_law 368 = .ok (.invokevirtual 30, 3) := by decide +kernel
theorem dL_law_371 : decode cL_law 371 = .ok (.if_icmp .eq 1239, 3) := by decide +kernel
theorem dL_law_374 : decode cL_law 374 = .ok (.iconst 0, 1) := by decide +kernel
theorem dL_law_375 : decode cL_law 375 = .ok (.ireturn, 1) := by decide +kernel
theorem dL_law_376 : decode cL_law 376 = .ok (.aload_n 1, 1) := by decide +kernel
theorem dL_law_377 : decode cL_law 377 = .ok (.aload_n 0, 1) := by decide +kernel
theorem dL_law_378 : decode cL_law 378 = .ok (.iload_n 3, 1) := by decide +kernel
theorem dL_law_379 : decode cL_law 379 = .ok (.iconst 1, 1) := by decide +kernel
theorem dL_law_380 : decode cL_law 380 = .ok (.iadd, 1) := by decide +kernel
theorem dL_law_381 : decode cL_law 381 = .ok (.iaload, 1) := by decide +kernel
theorem dL_law_382 : decode cL_law 382 = .ok (.aload_n 0, 1) := by decide +kernel
theorem dL_law_383 : decode cL_law 383 = .ok (.iload_n 3, 1) := by decide +kernel
theorem dL_law_384 : decode cL_law 384 = .ok (.iconst 2, 1) := by decide +kernel
theorem dL_law_385 : decode cL_law 385 = .ok (.iadd, 1) := by decide +kernel
theorem dL_law_386 : decode cL_law 386 = .ok (.iaload, 1) := by decide +kernel
theorem dL_law_387 : decode cL_law 387 = .ok (.aload_n 0, 1) := by decide +kernel
theorem dL_law_388 : decode cL_law 388 = .ok (.iload_n 3, 1) := by decide +kernel
theorem dL_law_389 : decode cL_law 389 = .ok (.iconst 3, 1) := by decide +kernel
theorem dL_law_390 : decode cL_law 390 = .ok (.iadd, 1) := by decide +kernel
theorem dL_law_391 : decode cL_law 391 = .ok (.iaload, 1) := by decide +kernel
theorem dL_law_392 : decode cL_law 392 = .ok (.invokevirtual 31, 3) := by decide +kernel
theorem dL_law_395 : decode cL_law 395 = .ok (.aload_n 2, 1) := by decide +kernel
theorem dL_law_396 : decode cL_law 396 = .ok (.aload_n 0, 1) := by decide +kernel
theorem dL_law_397 : decode cL_law 397 = .ok (.iload_n 3, 1) := by decide +kernel
theorem dL_law_398 : decode cL_law 398 = .ok (.iconst 1, 1) := by decide +kernel
theorem dL_law_399 : decode cL_law 399 = .ok (.iadd, 1) := by decide +kernel
theorem dL_law_400 : decode cL_law 400 = .ok (.iaload, 1) := by decide +kernel
theorem dL_law_401 : decode cL_law 401 = .ok (.aload_n 0, 1) := by decide +kernel
theorem dL_law_402 : decode cL_law 402 = .ok (.iload_n 3, 1) := by decide +kernel
theorem dL_law_403 : decode cL_law 403 = .ok (.iconst 2, 1) := by decide +kernel
theorem dL_law_404 : decode cL_law 404 = .ok (.iadd, 1) := by decide +kernel
theorem dL_law_405 : decode cL_law 405 = .ok (.iaload, 1) := by decide +kernel
theorem dL_law_406 : decode cL_law 406 = .ok (.aload_n 0, 1) := by decide +kernel
theorem dL_law_407 : decode cL_law 407 = .ok (.iload_n 3, 1) := by decide +kernel
theorem dL_law_408 : decode cL_law 408 = .ok (.iconst 3, 1) := by decide +kernel
theorem dL_law_409 : decode cL_law 409 = .ok (.iadd, 1) := by decide +kernel
theorem dL_law_410 : decode cL_law 410 = .ok (.iaload, 1) := by decide +kernel
theorem dL_law_411 : decode cL_law 411 = .ok (.invokevirtual 35, 3) := by decide +kernel
theorem dL_law_414 : decode cL_law 414 = .ok (.if_icmp .eq 1196, 3) := by decide +kernel
theorem dL_law_417 : decode cL_law 417 = .ok (.iconst 0, 1) := by decide +kernel
theorem dL_law_418 : decode cL_law 418 = .ok (.ireturn, 1) := by decide +kernel
theorem dL_law_419 : decode cL_law 419 = .ok (.aload_n 1, 1) := by decide +kernel
theorem dL_law_420 : decode cL_law 420 = .ok (.aload_n 0, 1) := by decide +kernel
theorem dL_law_421 : decode cL_law 421 = .ok (.iload_n 3, 1) := by decide +kernel
theorem dL_law_422 : decode cL_law 422 = .ok (.iconst 1, 1) := by decide +kernel
theorem dL_law_423 : decode cL_law 423 = .ok (.iadd, 1) := by decide +kernel
theorem dL_law_424 : decode cL_law 424 = .ok (.iaload, 1) := by decide +kernel
theorem dL_law_425 : decode cL_law 425 = .ok (.aload_n 0, 1) := by decide +kernel
theorem dL_law_426 : decode cL_law 426 = .ok (.iload_n 3, 1) := by decide +kernel
theorem dL_law_427 : decode cL_law 427 = .ok (.iconst 2, 1) := by decide +kernel
theorem dL_law_428 : decode cL_law 428 = .ok (.iadd, 1) := by decide +kernel
theorem dL_law_429 : decode cL_law 429 = .ok (.iaload, 1) := by decide +kernel
theorem dL_law_430 : decode cL_law 430 = .ok (.invokevirtual 36, 3) := by decide +kernel
theorem dL_law_433 : decode cL_law 433 = .ok (.aload_n 2, 1) := by decide +kernel
theorem dL_law_434 : decode cL_law 434 = .ok (.aload_n 0, 1) := by decide +kernel
theorem dL_law_435 : decode cL_law 435 = .ok (.iload_n 3, 1) := by decide +kernel
theorem dL_law_436 : decode cL_law 436 = .ok (.iconst 1, 1) := by decide +kernel
theorem dL_law_437 : decode cL_law 437 = .ok (.iadd, 1) := by decide +kernel
theorem dL_law_438 : decode cL_law 438 = .ok (.iaload, 1) := by decide +kernel
theorem dL_law_439 : decode cL_law 439 = .ok (.aload_n 0, 1) := by decide +kernel
theorem dL_law_440 : decode cL_law 440 = .ok (.iload_n 3, 1) := by decide +kernel
theorem dL_law_441 : decode cL_law 441 = .ok (.iconst 2, 1) := by decide +kernel
theorem dL_law_442 : decode cL_law 442 = .ok (.iadd, 1) := by decide +kernel
theorem dL_law_443 : decode cL_law 443 = .ok (.iaload, 1) := by decide +kernel
theorem dL_law_444 : decode cL_law 444 = .ok (.invokevirtual 39, 3) := by decide +kernel
theorem dL_law_447 : decode cL_law 447 = .ok (.if_icmp .eq 1163, 3) := by decide +kernel
theorem dL_law_450 : decode cL_law 450 = .ok (.iconst 0, 1) := by decide +kernel
theorem dL_law_451 : decode cL_law 451 = .ok (.ireturn, 1) := by decide +kernel
theorem dL_law_452 : decode cL_law 452 = .ok (.aload_n 1, 1) := by decide +kernel
theorem dL_law_453 : decode cL_law 453 = .ok (.aload_n 0, 1) := by decide +kernel
theorem dL_law_454 : decode cL_law 454 = .ok (.iload_n 3, 1) := by decide +kernel
theorem dL_law_455 : decode cL_law 455 = .ok (.iconst 1, 1) := by decide +kernel
theorem dL_law_456 : decode cL_law 456 = .ok (.iadd, 1) := by decide +kernel
theorem dL_law_457 : decode cL_law 457 = .ok (.iaload, 1) := by decide +kernel
theorem dL_law_458 : decode cL_law 458 = .ok (.aload_n 0, 1) := by decide +kernel
theorem dL_law_459 : decode cL_law 459 = .ok (.iload_n 3, 1) := by decide +kernel
theorem dL_law_460 : decode cL_law 460 = .ok (.iconst 2, 1) := by decide +kernel
theorem dL_law_461 : decode cL_law 461 = .ok (.iadd, 1) := by decide +kernel
theorem dL_law_462 : decode cL_law 462 = .ok (.iaload, 1) := by decide +kernel
theorem dL_law_463 : decode cL_law 463 = .ok (.aload_n 0, 1) := by decide +kernel
theorem dL_law_464 : decode cL_law 464 = .ok (.iload_n 3, 1) := by decide +kernel
theorem dL_law_465 : decode cL_law 465 = .ok (.iconst 3, 1) := by decide +kernel
theorem dL_law_466 : decode cL_law 466 = .ok (.iadd, 1) := by decide +kernel
theorem dL_law_467 : decode cL_law 467 = .ok (.iaload, 1) := by decide +kernel
theorem dL_law_468 : decode cL_law 468 = .ok (.invokevirtual 40, 3) := by decide +kernel
theorem dL_law_471 : decode cL_law 471 = .ok (.aload_n 2, 1) := by decide +kernel
theorem dL_law_472 : decode cL_law 472 = .ok (.aload_n 0, 1) := by decide +kernel
theorem dL_law_473 : decode cL_law 473 = .ok (.iload_n 3, 1) := by decide +kernel
theorem dL_law_474 : decode cL_law 474 = .ok (.iconst 1, 1) := by decide +kernel
theorem dL_law_475 : decode cL_law 475 = .ok (.iadd, 1) := by decide +kernel
theorem dL_law_476 : decode cL_law 476 = .ok (.iaload, 1) := by decide +kernel
theorem dL_law_477 : decode cL_law 477 = .ok (.aload_n 0, 1) := by decide +kernel
theorem dL_law_478 : decode cL_law 478 = .ok (.iload_n 3, 1) := by decide +kernel
theorem dL_law_479 : decode cL_law 479 = .ok (.iconst 2, 1) := by decide +kernel
theorem dL_law_480 : decode cL_law 480 = .ok (.iadd, 1) := by decide +kernel
theorem dL_law_481 : decode cL_law 481 = .ok (.iaload, 1) := by decide +kernel
theorem dL_law_482 : decode cL_law 482 = .ok (.aload_n 0, 1) := by decide +kernel
theorem dL_law_483 : decode cL_law 483 = .ok (.iload_n 3, 1) := by decide +kernel
theorem dL_law_484 : decode cL_law 484 = .ok (.iconst 3, 1) := by decide +kernel
theorem dL_law_485 : decode cL_law 485 = .ok (.iadd, 1) := by decide +kernel
theorem dL_law_486 : decode cL_law 486 = .ok (.iaload, 1) := by decide +kernel
theorem dL_law_487 : decode cL_law 487 = .ok (.invokevirtual 43, 3) := by decide +kernel
theorem dL_law_490 : decode cL_law 490 = .ok (.if_icmp .eq 1120, 3) := by decide +kernel
theorem dL_law_493 : decode cL_law 493 = .ok (.iconst 0, 1) := by decide +kernel
theorem dL_law_494 : decode cL_law 494 = .ok (.ireturn, 1) := by decide +kernel
theorem dL_law_495 : decode cL_law 495 = .ok (.aload_n 1, 1) := by decide +kernel
theorem dL_law_496 : decode cL_law 496 = .ok (.invokevirtual 44, 3) := by decide +kernel
theorem dL_law_499 : decode cL_law 499 = .ok (.aload_n 2, 1) := by decide +kernel
theorem dL_law_500 : decode cL_law 500 = .ok (.invokevirtual 48, 3) := by decide +kernel
theorem dL_law_503 : decode cL_law 503 = .ok (.if_icmp .eq 1107, 3) := by decide +kernel
theorem dL_law_506 : decode cL_law 506 = .ok (.iconst 0, 1) := by decide +kernel
theorem dL_law_507 : decode cL_law 507 = .ok (.ireturn, 1) := by decide +kernel
theorem dL_law_508 : decode cL_law 508 = .ok (.aload_n 1, 1) := by decide +kernel
theorem dL_law_509 : decode cL_law 509 = .ok (.aload_n 0, 1) := by decide +kernel
theorem dL_law_510 : decode cL_law 510 = .ok (.iload_n 3, 1) := by decide +kernel
theorem dL_law_511 : decode cL_law 511 = .ok (.iconst 1, 1) := by decide +kernel
theorem dL_law_512 : decode cL_law 512 = .ok (.iadd, 1) := by decide +kernel
theorem dL_law_513 : decode cL_law 513 = .ok (.iaload, 1) := by decide +kernel
theorem dL_law_514 : decode cL_law 514 = .ok (.aload_n 0, 1) := by decide +kernel
theorem dL_law_515 : decode cL_law 515 = .ok (.iload_n 3, 1) := by decide +kernel
theorem dL_law_516 : decode cL_law 516 = .ok (.iconst 2, 1) := by decide +kernel
theorem dL_law_517 : decode cL_law 517 = .ok (.iadd, 1) := by decide +kernel
theorem dL_law_518 : decode cL_law 518 = .ok (.iaload, 1) := by decide +kernel
theorem dL_law_519 : decode cL_law 519 = .ok (.i2l, 1) := by decide +kernel
theorem dL_law_520 : decode cL_law 520 = .ok (.bipush 32, 2) := by decide +kernel
theorem dL_law_522 : decode cL_law 522 = .ok (.lshl, 1) := by decide +kernel
theorem dL_law_523 : decode cL_law 523 = .ok (.aload_n 0, 1) := by decide +kernel
theorem dL_law_524 : decode cL_law 524 = .ok (.iload_n 3, 1) := by decide +kernel
theorem dL_law_525 : decode cL_law 525 = .ok (.iconst 3, 1) := by decide +kernel
theorem dL_law_526 : decode cL_law 526 = .ok (.iadd, 1) := by decide +kernel
theorem dL_law_527 : decode cL_law 527 = .ok (.iaload, 1) := by decide +kernel
theorem dL_law_528 : decode cL_law 528 = .ok (.i2l, 1) := by decide +kernel
theorem dL_law_529 : decode cL_law 529 = .ok (.ldc2_w 49, 3) := by decide +kernel
theorem dL_law_532 : decode cL_law 532 = .ok (.land, 1) := by decide +kernel
theorem dL_law_533 : decode cL_law 533 = .ok (.lor, 1) := by decide +kernel
theorem dL_law_534 : decode cL_law 534 = .ok (.invokevirtual 51, 3) := by decide +kernel
theorem dL_law_537 : decode cL_law 537 = .ok (.aload_n 2, 1) := by decide +kernel
theorem dL_law_538 : decode cL_law 538 = .ok (.aload_n 0, 1) := by decide +kernel
theorem dL_law_539 : decode cL_law 539 = .ok (.iload_n 3, 1) := by decide +kernel
theorem dL_law_540 : decode cL_law 540 = .ok (.iconst 1, 1) := by decide +kernel
theorem dL_law_541 : decode cL_law 541 = .ok (.iadd, 1) := by decide +kernel
theorem dL_law_542 : decode cL_law 542 = .ok (.iaload, 1) := by decide +kernel
theorem dL_law_543 : decode cL_law 543 = .ok (.aload_n 0, 1) := by decide +kernel
theorem dL_law_544 : decode cL_law 544 = .ok (.iload_n 3, 1) := by decide +kernel
theorem dL_law_545 : decode cL_law 545 = .ok (.iconst 2, 1) := by decide +kernel
theorem dL_law_546 : decode cL_law 546 = .ok (.iadd, 1) := by decide +kernel
theorem dL_law_547 : decode cL_law 547 = .ok (.iaload, 1) := by decide +kernel
theorem dL_law_548 : decode cL_law 548 = .ok (.i2l, 1) := by decide +kernel
theorem dL_law_549 : decode cL_law 549 = .ok (.bipush 32, 2) := by decide +kernel
theorem dL_law_551 : decode cL_law 551 = .ok (.lshl, 1) := by decide +kernel
theorem dL_law_552 : decode cL_law 552 = .ok (.aload_n 0, 1) := by decide +kernel
theorem dL_law_553 : decode cL_law 553 = .ok (.iload_n 3, 1) := by decide +kernel
theorem dL_law_554 : decode cL_law 554 = .ok (.iconst 3, 1) := by decide +kernel
theorem dL_law_555 : decode cL_law 555 = .ok (.iadd, 1) := by decide +kernel
theorem dL_law_556 : decode cL_law 556 = .ok (.iaload, 1) := by decide +kernel
theorem dL_law_557 : decode cL_law 557 = .ok (.i2l, 1) := by decide +kernel
theorem dL_law_558 : decode cL_law 558 = .ok (.ldc2_w 49, 3) := by decide +kernel
theorem dL_law_561 : decode cL_law 561 = .ok (.land, 1) := by decide +kernel
theorem dL_law_562 : decode cL_law 562 = .ok (.lor, 1) := by decide +kernel
theorem dL_law_563 : decode cL_law 563 = .ok (.invokevirtual 55, 3) := by decide +kernel
theorem dL_law_566 : decode cL_law 566 = .ok (.if_icmp .eq 1044, 3) := by decide +kernel
theorem dL_law_569 : decode cL_law 569 = .ok (.iconst 0, 1) := by decide +kernel
theorem dL_law_570 : decode cL_law 570 = .ok (.ireturn, 1) := by decide +kernel
theorem dL_law_571 : decode cL_law 571 = .ok (.aload_n 1, 1) := by decide +kernel
theorem dL_law_572 : decode cL_law 572 = .ok (.aload_n 0, 1) := by decide +kernel
theorem dL_law_573 : decode cL_law 573 = .ok (.iload_n 3, 1) := by decide +kernel
theorem dL_law_574 : decode cL_law 574 = .ok (.iconst 1, 1) := by decide +kernel
theorem dL_law_575 : decode cL_law 575 = .ok (.iadd, 1) := by decide +kernel
theorem dL_law_576 : decode cL_law 576 = .ok (.iaload, 1) := by decide +kernel
theorem dL_law_577 : decode cL_law 577 = .ok (.i2l, 1) := by decide +kernel
theorem dL_law_578 : decode cL_law 578 = .ok (.bipush 32, 2) := by decide +kernel
theorem dL_law_580 : decode cL_law 580 = .ok (.lshl, 1) := by decide +kernel
theorem dL_law_581 : decode cL_law 581 = .ok (.aload_n 0, 1) := by decide +kernel
theorem dL_law_582 : decode cL_law 582 = .ok (.iload_n 3, 1) := by decide +kernel
theorem dL_law_583 : decode cL_law 583 = .ok (.iconst 2, 1) := by decide +kernel
theorem dL_law_584 : decode cL_law 584 = .ok (.iadd, 1) := by decide +kernel
theorem dL_law_585 : decode cL_law 585 = .ok (.iaload, 1) := by decide +kernel
theorem dL_law_586 : decode cL_law 586 = .ok (.i2l, 1) := by decide +kernel
theorem dL_law_587 : decode cL_law 587 = .ok (.ldc2_w 49, 3) := by decide +kernel
theorem dL_law_590 : decode cL_law 590 = .ok (.land, 1) := by decide +kernel
theorem dL_law_591 : decode cL_law 591 = .ok (.lor, 1) := by decide +kernel
theorem dL_law_592 : decode cL_law 592 = .ok (.invokevirtual 56, 3) := by decide +kernel
theorem dL_law_595 : decode cL_law 595 = .ok (.aload_n 2, 1) := by decide +kernel
theorem dL_law_596 : decode cL_law 596 = .ok (.aload_n 0, 1) := by decide +kernel
theorem dL_law_597 : decode cL_law 597 = .ok (.iload_n 3, 1) := by decide +kernel
theorem dL_law_598 : decode cL_law 598 = .ok (.iconst 1, 1) := by decide +kernel
theorem dL_law_599 : decode cL_law 599 = .ok (.iadd, 1) := by decide +kernel
theorem dL_law_600 : decode cL_law 600 = .ok (.iaload, 1) := by decide +kernel
theorem dL_law_601 : decode cL_law 601 = .ok (.i2l, 1) := by decide +kernel
theorem dL_law_602 : decode cL_law 602 = .ok (.bipush 32, 2) := by decide +kernel
theorem dL_law_604 : decode cL_law 604 = .ok (.lshl, 1) := by decide +kernel
theorem dL_law_605 : decode cL_law 605 = .ok (.aload_n 0, 1) := by decide +kernel
theorem dL_law_606 : decode cL_law 606 = .ok (.iload_n 3, 1) := by decide +kernel
theorem dL_law_607 : decode cL_law 607 = .ok (.iconst 2, 1) := by decide +kernel
theorem dL_law_608 : decode cL_law 608 = .ok (.iadd, 1) := by decide +kernel
theorem dL_law_609 : decode cL_law 609 = .ok (.iaload, 1) := by decide +kernel
theorem dL_law_610 : decode cL_law 610 = .ok (.i2l, 1) := by decide +kernel
theorem dL_law_611 : decode cL_law 611 = .ok (.ldc2_w 49, 3) := by decide +kernel
theorem dL_law_614 : decode cL_law 614 = .ok (.land, 1) := by decide +kernel
theorem dL_law_615 : decode cL_law 615 = .ok (.lor, 1) := by decide +kernel
theorem dL_law_616 : decode cL_law 616 = .ok (.invokevirtual 60, 3) := by decide +kernel
theorem dL_law_619 : decode cL_law 619 = .ok (.if_icmp .eq 991, 3) := by decide +kernel
theorem dL_law_622 : decode cL_law 622 = .ok (.iconst 0, 1) := by decide +kernel
theorem dL_law_623 : decode cL_law 623 = .ok (.ireturn, 1) := by decide +kernel
theorem dL_law_624 : decode cL_law 624 = .ok (.aload_n 1, 1) := by decide +kernel
theorem dL_law_625 : decode cL_law 625 = .ok (.aload_n 0, 1) := by decide +kernel
theorem dL_law_626 : decode cL_law 626 = .ok (.iload_n 3, 1) := by decide +kernel
theorem dL_law_627 : decode cL_law 627 = .ok (.iconst 1, 1) := by decide +kernel
theorem dL_law_628 : decode cL_law 628 = .ok (.iadd, 1) := by decide +kernel
theorem dL_law_629 : decode cL_law 629 = .ok (.iaload, 1) := by decide +kernel
theorem dL_law_630 : decode cL_law 630 = .ok (.invokevirtual 61, 3) := by decide +kernel
theorem dL_law_633 : decode cL_law 633 = .ok (.aload_n 2, 1) := by decide +kernel
theorem dL_law_634 : decode cL_law 634 = .ok (.aload_n 0, 1) := by decide +kernel
theorem dL_law_635 : decode cL_law 635 = .ok (.iload_n 3, 1) := by decide +kernel
theorem dL_law_636 : decode cL_law 636 = .ok (.iconst 1, 1) := by decide +kernel
theorem dL_law_637 : decode cL_law 637 = .ok (.iadd, 1) := by decide +kernel
theorem dL_law_638 : decode cL_law 638 = .ok (.iaload, 1) := by decide +kernel
theorem dL_law_639 : decode cL_law 639 = .ok (.invokevirtual 65, 3) := by decide +kernel
theorem dL_law_642 : decode cL_law 642 = .ok (.if_icmp .eq 968, 3) := by decide +kernel
theorem dL_law_645 : decode cL_law 645 = .ok (.iconst 0, 1) := by decide +kernel
theorem dL_law_646 : decode cL_law 646 = .ok (.ireturn, 1) := by decide +kernel
theorem dL_law_647 : decode cL_law 647 = .ok (.aload_n 1, 1) := by decide +kernel
theorem dL_law_648 : decode cL_law 648 = .ok (.aload_n 0, 1) := by decide +kernel
theorem dL_law_649 : decode cL_law 649 = .ok (.iload_n 3, 1) := by decide +kernel
theorem dL_law_650 : decode cL_law 650 = .ok (.iconst 1, 1) := by decide +kernel
theorem dL_law_651 : decode cL_law 651 = .ok (.iadd, 1) := by decide +kernel
theorem dL_law_652 : decode cL_law 652 = .ok (.iaload, 1) := by decide +kernel
theorem dL_law_653 : decode cL_law 653 = .ok (.invokevirtual 66, 3) := by decide +kernel
theorem dL_law_656 : decode cL_law 656 = .ok (.aload_n 2, 1) := by decide +kernel
theorem dL_law_657 : decode cL_law 657 = .ok (.aload_n 0, 1) := by decide +kernel
theorem dL_law_658 : decode cL_law 658 = .ok (.iload_n 3, 1) := by decide +kernel
theorem dL_law_659 : decode cL_law 659 = .ok (.iconst 1, 1) := by decide +kernel
theorem dL_law_660 : decode cL_law 660 = .ok (.iadd, 1) := by decide +kernel
theorem dL_law_661 : decode cL_law 661 = .ok (.iaload, 1) := by decide +kernel
theorem dL_law_662 : decode cL_law 662 = .ok (.invokevirtual 70, 3) := by decide +kernel
theorem dL_law_665 : decode cL_law 665 = .ok (.lcmp, 1) := by decide +kernel
theorem dL_law_666 : decode cL_law 666 = .ok (.ifCond .eq 944, 3) := by decide +kernel
theorem dL_law_669 : decode cL_law 669 = .ok (.iconst 0, 1) := by decide +kernel
theorem dL_law_670 : decode cL_law 670 = .ok (.ireturn, 1) := by decide +kernel
theorem dL_law_671 : decode cL_law 671 = .ok (.aload_n 1, 1) := by decide +kernel
theorem dL_law_672 : decode cL_law 672 = .ok (.aload_n 0, 1) := by decide +kernel
theorem dL_law_673 : decode cL_law 673 = .ok (.iload_n 3, 1) := by decide +kernel
theorem dL_law_674 : decode cL_law 674 = .ok (.iconst 1, 1) := by decide +kernel
theorem dL_law_675 : decode cL_law 675 = .ok (.iadd, 1) := by decide +kernel
theorem dL_law_676 : decode cL_law 676 = .ok (.iaload, 1) := by decide +kernel
theorem dL_law_677 : decode cL_law 677 = .ok (.invokevirtual 71, 3) := by decide +kernel
theorem dL_law_680 : decode cL_law 680 = .ok (.aload_n 2, 1) := by decide +kernel
theorem dL_law_681 : decode cL_law 681 = .ok (.aload_n 0, 1) := by decide +kernel
theorem dL_law_682 : decode cL_law 682 = .ok (.iload_n 3, 1) := by decide +kernel
theorem dL_law_683 : decode cL_law 683 = .ok (.iconst 1, 1) := by decide +kernel
theorem dL_law_684 : decode cL_law 684 = .ok (.iadd, 1) := by decide +kernel
theorem dL_law_685 : decode cL_law 685 = .ok (.iaload, 1) := by decide +kernel
theorem dL_law_686 : decode cL_law 686 = .ok (.invokevirtual 74, 3) := by decide +kernel
theorem dL_law_689 : decode cL_law 689 = .ok (.if_icmp .eq 921, 3) := by decide +kernel
theorem dL_law_692 : decode cL_law 692 = .ok (.iconst 0, 1) := by decide +kernel
theorem dL_law_693 : decode cL_law 693 = .ok (.ireturn, 1) := by decide +kernel
theorem dL_law_694 : decode cL_law 694 = .ok (.aload_n 1, 1) := by decide +kernel
theorem dL_law_695 : decode cL_law 695 = .ok (.aload_n 0, 1) := by decide +kernel
theorem dL_law_696 : decode cL_law 696 = .ok (.iload_n 3, 1) := by decide +kernel
theorem dL_law_697 : decode cL_law 697 = .ok (.iconst 1, 1) := by decide +kernel
theorem dL_law_698 : decode cL_law 698 = .ok (.iadd, 1) := by decide +kernel
theorem dL_law_699 : decode cL_law 699 = .ok (.iaload, 1) := by decide +kernel
theorem dL_law_700 : decode cL_law 700 = .ok (.invokevirtual 75, 3) := by decide +kernel
theorem dL_law_703 : decode cL_law 703 = .ok (.aload_n 2, 1) := by decide +kernel
theorem dL_law_704 : decode cL_law 704 = .ok (.aload_n 0, 1) := by decide +kernel
theorem dL_law_705 : decode cL_law 705 = .ok (.iload_n 3, 1) := by decide +kernel
theorem dL_law_706 : decode cL_law 706 = .ok (.iconst 1, 1) := by decide +kernel
theorem dL_law_707 : decode cL_law 707 = .ok (.iadd, 1) := by decide +kernel
theorem dL_law_708 : decode cL_law 708 = .ok (.iaload, 1) := by decide +kernel
theorem dL_law_709 : decode cL_law 709 = .ok (.invokevirtual 78, 3) := by decide +kernel
theorem dL_law_712 : decode cL_law 712 = .ok (.if_icmp .eq 898, 3) := by decide +kernel
theorem dL_law_715 : decode cL_law 715 = .ok (.iconst 0, 1) := by decide +kernel
theorem dL_law_716 : decode cL_law 716 = .ok (.ireturn, 1) := by decide +kernel
theorem dL_law_717 : decode cL_law 717 = .ok (.aload_n 1, 1) := by decide +kernel
theorem dL_law_718 : decode cL_law 718 = .ok (.invokevirtual 79, 3) := by decide +kernel
theorem dL_law_721 : decode cL_law 721 = .ok (.aload_n 2, 1) := by decide +kernel
theorem dL_law_722 : decode cL_law 722 = .ok (.invokevirtual 82, 3) := by decide +kernel
theorem dL_law_725 : decode cL_law 725 = .ok (.if_icmp .eq 885, 3) := by decide +kernel
theorem dL_law_728 : decode cL_law 728 = .ok (.iconst 0, 1) := by decide +kernel
theorem dL_law_729 : decode cL_law 729 = .ok (.ireturn, 1) := by decide +kernel
theorem dL_law_730 : decode cL_law 730 = .ok (.aload_n 1, 1) := by decide +kernel
theorem dL_law_731 : decode cL_law 731 = .ok (.aload_n 0, 1) := by decide +kernel
theorem dL_law_732 : decode cL_law 732 = .ok (.iload_n 3, 1) := by decide +kernel
theorem dL_law_733 : decode cL_law 733 = .ok (.iconst 1, 1) := by decide +kernel
theorem dL_law_734 : decode cL_law 734 = .ok (.iadd, 1) := by decide +kernel
theorem dL_law_735 : decode cL_law 735 = .ok (.iaload, 1) := by decide +kernel
theorem dL_law_736 : decode cL_law 736 = .ok (.invokevirtual 83, 3) := by decide +kernel
theorem dL_law_739 : decode cL_law 739 = .ok (.aload_n 2, 1) := by decide +kernel
theorem dL_law_740 : decode cL_law 740 = .ok (.aload_n 0, 1) := by decide +kernel
theorem dL_law_741 : decode cL_law 741 = .ok (.iload_n 3, 1) := by decide +kernel
theorem dL_law_742 : decode cL_law 742 = .ok (.iconst 1, 1) := by decide +kernel
theorem dL_law_743 : decode cL_law 743 = .ok (.iadd, 1) := by decide +kernel
theorem dL_law_744 : decode cL_law 744 = .ok (.iaload, 1) := by decide +kernel
theorem dL_law_745 : decode cL_law 745 = .ok (.invokevirtual 86, 3) := by decide +kernel
theorem dL_law_748 : decode cL_law 748 = .ok (.if_icmp .eq 862, 3) := by decide +kernel
theorem dL_law_751 : decode cL_law 751 = .ok (.iconst 0, 1) := by decide +kernel
theorem dL_law_752 : decode cL_law 752 = .ok (.ireturn, 1) := by decide +kernel
theorem dL_law_753 : decode cL_law 753 = .ok (.aload_n 1, 1) := by decide +kernel
theorem dL_law_754 : decode cL_law 754 = .ok (.aload_n 0, 1) := by decide +kernel
theorem dL_law_755 : decode cL_law 755 = .ok (.iload_n 3, 1) := by decide +kernel
theorem dL_law_756 : decode cL_law 756 = .ok (.iconst 1, 1) := by decide +kernel
theorem dL_law_757 : decode cL_law 757 = .ok (.iadd, 1) := by decide +kernel
theorem dL_law_758 : decode cL_law 758 = .ok (.iaload, 1) := by decide +kernel
theorem dL_law_759 : decode cL_law 759 = .ok (.invokevirtual 87, 3) := by decide +kernel
theorem dL_law_762 : decode cL_law 762 = .ok (.aload_n 2, 1) := by decide +kernel
theorem dL_law_763 : decode cL_law 763 = .ok (.aload_n 0, 1) := by decide +kernel
theorem dL_law_764 : decode cL_law 764 = .ok (.iload_n 3, 1) := by decide +kernel
theorem dL_law_765 : decode cL_law 765 = .ok (.iconst 1, 1) := by decide +kernel
theorem dL_law_766 : decode cL_law 766 = .ok (.iadd, 1) := by decide +kernel
theorem dL_law_767 : decode cL_law 767 = .ok (.iaload, 1) := by decide +kernel
theorem dL_law_768 : decode cL_law 768 = .ok (.invokevirtual 90, 3) := by decide +kernel
theorem dL_law_771 : decode cL_law 771 = .ok (.if_icmp .eq 839, 3) := by decide +kernel
theorem dL_law_774 : decode cL_law 774 = .ok (.iconst 0, 1) := by decide +kernel
theorem dL_law_775 : decode cL_law 775 = .ok (.ireturn, 1) := by decide +kernel
theorem dL_law_776 : decode cL_law 776 = .ok (.aload_n 1, 1) := by decide +kernel
theorem dL_law_777 : decode cL_law 777 = .ok (.aload_n 0, 1) := by decide +kernel
theorem dL_law_778 : decode cL_law 778 = .ok (.iload_n 3, 1) := by decide +kernel
theorem dL_law_779 : decode cL_law 779 = .ok (.iconst 1, 1) := by decide +kernel
theorem dL_law_780 : decode cL_law 780 = .ok (.iadd, 1) := by decide +kernel
theorem dL_law_781 : decode cL_law 781 = .ok (.iaload, 1) := by decide +kernel
theorem dL_law_782 : decode cL_law 782 = .ok (.invokevirtual 91, 3) := by decide +kernel
theorem dL_law_785 : decode cL_law 785 = .ok (.aload_n 2, 1) := by decide +kernel
theorem dL_law_786 : decode cL_law 786 = .ok (.aload_n 0, 1) := by decide +kernel
theorem dL_law_787 : decode cL_law 787 = .ok (.iload_n 3, 1) := by decide +kernel
theorem dL_law_788 : decode cL_law 788 = .ok (.iconst 1, 1) := by decide +kernel
theorem dL_law_789 : decode cL_law 789 = .ok (.iadd, 1) := by decide +kernel
theorem dL_law_790 : decode cL_law 790 = .ok (.iaload, 1) := by decide +kernel
theorem dL_law_791 : decode cL_law 791 = .ok (.invokevirtual 94, 3) := by decide +kernel
theorem dL_law_794 : decode cL_law 794 = .ok (.if_icmp .eq 816, 3) := by decide +kernel
theorem dL_law_797 : decode cL_law 797 = .ok (.iconst 0, 1) := by decide +kernel
theorem dL_law_798 : decode cL_law 798 = .ok (.ireturn, 1) := by decide +kernel
theorem dL_law_799 : decode cL_law 799 = .ok (.aload_n 1, 1) := by decide +kernel
theorem dL_law_800 : decode cL_law 800 = .ok (.aload_n 0, 1) := by decide +kernel
theorem dL_law_801 : decode cL_law 801 = .ok (.iload_n 3, 1) := by decide +kernel
theorem dL_law_802 : decode cL_law 802 = .ok (.iconst 1, 1) := by decide +kernel
theorem dL_law_803 : decode cL_law 803 = .ok (.iadd, 1) := by decide +kernel
theorem dL_law_804 : decode cL_law 804 = .ok (.iaload, 1) := by decide +kernel
theorem dL_law_805 : decode cL_law 805 = .ok (.invokevirtual 95, 3) := by decide +kernel
theorem dL_law_808 : decode cL_law 808 = .ok (.aload_n 2, 1) := by decide +kernel
theorem dL_law_809 : decode cL_law 809 = .ok (.aload_n 0, 1) := by decide +kernel
theorem dL_law_810 : decode cL_law 810 = .ok (.iload_n 3, 1) := by decide +kernel
theorem dL_law_811 : decode cL_law 811 = .ok (.iconst 1, 1) := by decide +kernel
theorem dL_law_812 : decode cL_law 812 = .ok (.iadd, 1) := by decide +kernel
theorem dL_law_813 : decode cL_law 813 = .ok (.iaload, 1) := by decide +kernel
theorem dL_law_814 : decode cL_law 814 = .ok (.invokevirtual 98, 3) := by decide +kernel
theorem dL_law_817 : decode cL_law 817 = .ok (.if_icmp .eq 793, 3) := by decide +kernel
theorem dL_law_820 : decode cL_law 820 = .ok (.iconst 0, 1) := by decide +kernel
theorem dL_law_821 : decode cL_law 821 = .ok (.ireturn, 1) := by decide +kernel
theorem dL_law_822 : decode cL_law 822 = .ok (.aload_n 1, 1) := by decide +kernel
theorem dL_law_823 : decode cL_law 823 = .ok (.aload_n 0, 1) := by decide +kernel
theorem dL_law_824 : decode cL_law 824 = .ok (.iload_n 3, 1) := by decide +kernel
theorem dL_law_825 : decode cL_law 825 = .ok (.iconst 1, 1) := by decide +kernel
theorem dL_law_826 : decode cL_law 826 = .ok (.iadd, 1) := by decide +kernel
theorem dL_law_827 : decode cL_law 827 = .ok (.iaload, 1) := by decide +kernel
theorem dL_law_828 : decode cL_law 828 = .ok (.invokevirtual 99, 3) := by decide +kernel
theorem dL_law_831 : decode cL_law 831 = .ok (.aload_n 2, 1) := by decide +kernel
theorem dL_law_832 : decode cL_law 832 = .ok (.aload_n 0, 1) := by decide +kernel
theorem dL_law_833 : decode cL_law 833 = .ok (.iload_n 3, 1) := by decide +kernel
theorem dL_law_834 : decode cL_law 834 = .ok (.iconst 1, 1) := by decide +kernel
theorem dL_law_835 : decode cL_law 835 = .ok (.iadd, 1) := by decide +kernel
theorem dL_law_836 : decode cL_law 836 = .ok (.iaload, 1) := by decide +kernel
theorem dL_law_837 : decode cL_law 837 = .ok (.invokevirtual 102, 3) := by decide +kernel
theorem dL_law_840 : decode cL_law 840 = .ok (.if_icmp .eq 770, 3) := by decide +kernel
theorem dL_law_843 : decode cL_law 843 = .ok (.iconst 0, 1) := by decide +kernel
theorem dL_law_844 : decode cL_law 844 = .ok (.ireturn, 1) := by decide +kernel
theorem dL_law_845 : decode cL_law 845 = .ok (.aload_n 1, 1) := by decide +kernel
theorem dL_law_846 : decode cL_law 846 = .ok (.aload_n 0, 1) := by decide +kernel
theorem dL_law_847 : decode cL_law 847 = .ok (.iload_n 3, 1) := by decide +kernel
theorem dL_law_848 : decode cL_law 848 = .ok (.iconst 1, 1) := by decide +kernel
theorem dL_law_849 : decode cL_law 849 = .ok (.iadd, 1) := by decide +kernel
theorem dL_law_850 : decode cL_law 850 = .ok (.iaload, 1) := by decide +kernel
theorem dL_law_851 : decode cL_law 851 = .ok (.aload_n 0, 1) := by decide +kernel
theorem dL_law_852 : decode cL_law 852 = .ok (.iload_n 3, 1) := by decide +kernel
theorem dL_law_853 : decode cL_law 853 = .ok (.iconst 2, 1) := by decide +kernel
theorem dL_law_854 : decode cL_law 854 = .ok (.iadd, 1) := by decide +kernel
theorem dL_law_855 : decode cL_law 855 = .ok (.iaload, 1) := by decide +kernel
theorem dL_law_856 : decode cL_law 856 = .ok (.aload_n 0, 1) := by decide +kernel
theorem dL_law_857 : decode cL_law 857 = .ok (.iload_n 3, 1) := by decide +kernel
theorem dL_law_858 : decode cL_law 858 = .ok (.iconst 3, 1) := by decide +kernel
theorem dL_law_859 : decode cL_law 859 = .ok (.iadd, 1) := by decide +kernel
theorem dL_law_860 : decode cL_law 860 = .ok (.iaload, 1) := by decide +kernel
theorem dL_law_861 : decode cL_law 861 = .ok (.invokevirtual 103, 3) := by decide +kernel
theorem dL_law_864 : decode cL_law 864 = .ok (.aload_n 2, 1) := by decide +kernel
theorem dL_law_865 : decode cL_law 865 = .ok (.aload_n 0, 1) := by decide +kernel
theorem dL_law_866 : decode cL_law 866 = .ok (.iload_n 3, 1) := by decide +kernel
theorem dL_law_867 : decode cL_law 867 = .ok (.iconst 1, 1) := by decide +kernel
theorem dL_law_868 : decode cL_law 868 = .ok (.iadd, 1) := by decide +kernel
theorem dL_law_869 : decode cL_law 869 = .ok (.iaload, 1) := by decide +kernel
theorem dL_law_870 : decode cL_law 870 = .ok (.aload_n 0, 1) := by decide +kernel
theorem dL_law_871 : decode cL_law 871 = .ok (.iload_n 3, 1) := by decide +kernel
theorem dL_law_872 : decode cL_law 872 = .ok (.iconst 2, 1) := by decide +kernel
theorem dL_law_873 : decode cL_law 873 = .ok (.iadd, 1) := by decide +kernel
theorem dL_law_874 : decode cL_law 874 = .ok (.iaload, 1) := by decide +kernel
theorem dL_law_875 : decode cL_law 875 = .ok (.aload_n 0, 1) := by decide +kernel
theorem dL_law_876 : decode cL_law 876 = .ok (.iload_n 3, 1) := by decide +kernel
theorem dL_law_877 : decode cL_law 877 = .ok (.iconst 3, 1) := by decide +kernel
theorem dL_law_878 : decode cL_law 878 = .ok (.iadd, 1) := by decide +kernel
theorem dL_law_879 : decode cL_law 879 = .ok (.iaload, 1) := by decide +kernel
theorem dL_law_880 : decode cL_law 880 = .ok (.invokevirtual 106, 3) := by decide +kernel
theorem dL_law_883 : decode cL_law 883 = .ok (.if_icmp .eq 727, 3) := by decide +kernel
theorem dL_law_886 : decode cL_law 886 = .ok (.iconst 0, 1) := by decide +kernel
theorem dL_law_887 : decode cL_law 887 = .ok (.ireturn, 1) := by decide +kernel
theorem dL_law_888 : decode cL_law 888 = .ok (.aload_n 1, 1) := by decide +kernel
theorem dL_law_889 : decode cL_law 889 = .ok (.aload_n 0, 1) := by decide +kernel
theorem dL_law_890 : decode cL_law 890 = .ok (.iload_n 3, 1) := by decide +kernel
theorem dL_law_891 : decode cL_law 891 = .ok (.iconst 1, 1) := by decide +kernel
theorem dL_law_892 : decode cL_law 892 = .ok (.iadd, 1) := by decide +kernel
theorem dL_law_893 : decode cL_law 893 = .ok (.iaload, 1) := by decide +kernel
theorem dL_law_894 : decode cL_law 894 = .ok (.invokevirtual 107, 3) := by decide +kernel
theorem dL_law_897 : decode cL_law 897 = .ok (.aload_n 2, 1) := by decide +kernel
theorem dL_law_898 : decode cL_law 898 = .ok (.aload_n 0, 1) := by decide +kernel
theorem dL_law_899 : decode cL_law 899 = .ok (.iload_n 3, 1) := by decide +kernel
theorem dL_law_900 : decode cL_law 900 = .ok (.iconst 1, 1) := by decide +kernel
theorem dL_law_901 : decode cL_law 901 = .ok (.iadd, 1) := by decide +kernel
theorem dL_law_902 : decode cL_law 902 = .ok (.iaload, 1) := by decide +kernel
theorem dL_law_903 : decode cL_law 903 = .ok (.invokevirtual 110, 3) := by decide +kernel
theorem dL_law_906 : decode cL_law 906 = .ok (.if_icmp .eq 704, 3) := by decide +kernel
theorem dL_law_909 : decode cL_law 909 = .ok (.iconst 0, 1) := by decide +kernel
theorem dL_law_910 : decode cL_law 910 = .ok (.ireturn, 1) := by decide +kernel
theorem dL_law_911 : decode cL_law 911 = .ok (.aload_n 1, 1) := by decide +kernel
theorem dL_law_912 : decode cL_law 912 = .ok (.aload_n 0, 1) := by decide +kernel
theorem dL_law_913 : decode cL_law 913 = .ok (.iload_n 3, 1) := by decide +kernel
theorem dL_law_914 : decode cL_law 914 = .ok (.iconst 1, 1) := by decide +kernel
theorem dL_law_915 : decode cL_law 915 = .ok (.iadd, 1) := by decide +kernel
theorem dL_law_916 : decode cL_law 916 = .ok (.iaload, 1) := by decide +kernel
theorem dL_law_917 : decode cL_law 917 = .ok (.invokevirtual 111, 3) := by decide +kernel
theorem dL_law_920 : decode cL_law 920 = .ok (.aload_n 2, 1) := by decide +kernel
theorem dL_law_921 : decode cL_law 921 = .ok (.aload_n 0, 1) := by decide +kernel
theorem dL_law_922 : decode cL_law 922 = .ok (.iload_n 3, 1) := by decide +kernel
theorem dL_law_923 : decode cL_law 923 = .ok (.iconst 1, 1) := by decide +kernel
theorem dL_law_924 : decode cL_law 924 = .ok (.iadd, 1) := by decide +kernel
theorem dL_law_925 : decode cL_law 925 = .ok (.iaload, 1) := by decide +kernel
theorem dL_law_926 : decode cL_law 926 = .ok (.invokevirtual 114, 3) := by decide +kernel
theorem dL_law_929 : decode cL_law 929 = .ok (.lcmp, 1) := by decide +kernel
theorem dL_law_930 : decode cL_law 930 = .ok (.ifCond .eq 680, 3) := by decide +kernel
theorem dL_law_933 : decode cL_law 933 = .ok (.iconst 0, 1) := by decide +kernel
theorem dL_law_934 : decode cL_law 934 = .ok (.ireturn, 1) := by decide +kernel
theorem dL_law_935 : decode cL_law 935 = .ok (.aload_n 1, 1) := by decide +kernel
theorem dL_law_936 : decode cL_law 936 = .ok (.aload_n 0, 1) := by decide +kernel
theorem dL_law_937 : decode cL_law 937 = .ok (.iload_n 3, 1) := by decide +kernel
theorem dL_law_938 : decode cL_law 938 = .ok (.iconst 1, 1) := by decide +kernel
theorem dL_law_939 : decode cL_law 939 = .ok (.iadd, 1) := by decide +kernel
theorem dL_law_940 : decode cL_law 940 = .ok (.iaload, 1) := by decide +kernel
theorem dL_law_941 : decode cL_law 941 = .ok (.aload_n 0, 1) := by decide +kernel
theorem dL_law_942 : decode cL_law 942 = .ok (.iload_n 3, 1) := by decide +kernel
theorem dL_law_943 : decode cL_law 943 = .ok (.iconst 2, 1) := by decide +kernel
theorem dL_law_944 : decode cL_law 944 = .ok (.iadd, 1) := by decide +kernel
theorem dL_law_945 : decode cL_law 945 = .ok (.iaload, 1) := by decide +kernel
theorem dL_law_946 : decode cL_law 946 = .ok (.invokevirtual 115, 3) := by decide +kernel
theorem dL_law_949 : decode cL_law 949 = .ok (.aload_n 2, 1) := by decide +kernel
theorem dL_law_950 : decode cL_law 950 = .ok (.aload_n 0, 1) := by decide +kernel
theorem dL_law_951 : decode cL_law 951 = .ok (.iload_n 3, 1) := by decide +kernel
theorem dL_law_952 : decode cL_law 952 = .ok (.iconst 1, 1) := by decide +kernel
theorem dL_law_953 : decode cL_law 953 = .ok (.iadd, 1) := by decide +kernel
theorem dL_law_954 : decode cL_law 954 = .ok (.iaload, 1) := by decide +kernel
theorem dL_law_955 : decode cL_law 955 = .ok (.aload_n 0, 1) := by decide +kernel
theorem dL_law_956 : decode cL_law 956 = .ok (.iload_n 3, 1) := by decide +kernel
theorem dL_law_957 : decode cL_law 957 = .ok (.iconst 2, 1) := by decide +kernel
theorem dL_law_958 : decode cL_law 958 = .ok (.iadd, 1) := by decide +kernel
theorem dL_law_959 : decode cL_law 959 = .ok (.iaload, 1) := by decide +kernel
theorem dL_law_960 : decode cL_law 960 = .ok (.invokevirtual 118, 3) := by decide +kernel
theorem dL_law_963 : decode cL_law 963 = .ok (.if_icmp .eq 647, 3) := by decide +kernel
theorem dL_law_966 : decode cL_law 966 = .ok (.iconst 0, 1) := by decide +kernel
theorem dL_law_967 : decode cL_law 967 = .ok (.ireturn, 1) := by decide +kernel
theorem dL_law_968 : decode cL_law 968 = .ok (.aload_n 1, 1) := by decide +kernel
theorem dL_law_969 : decode cL_law 969 = .ok (.aload_n 0, 1) := by decide +kernel
theorem dL_law_970 : decode cL_law 970 = .ok (.iload_n 3, 1) := by decide +kernel
theorem dL_law_971 : decode cL_law 971 = .ok (.iconst 1, 1) := by decide +kernel
theorem dL_law_972 : decode cL_law 972 = .ok (.iadd, 1) := by decide +kernel
theorem dL_law_973 : decode cL_law 973 = .ok (.iaload, 1) := by decide +kernel
theorem dL_law_974 : decode cL_law 974 = .ok (.aload_n 0, 1) := by decide +kernel
theorem dL_law_975 : decode cL_law 975 = .ok (.iload_n 3, 1) := by decide +kernel
theorem dL_law_976 : decode cL_law 976 = .ok (.iconst 2, 1) := by decide +kernel
theorem dL_law_977 : decode cL_law 977 = .ok (.iadd, 1) := by decide +kernel
theorem dL_law_978 : decode cL_law 978 = .ok (.iaload, 1) := by decide +kernel
theorem dL_law_979 : decode cL_law 979 = .ok (.invokevirtual 119, 3) := by decide +kernel
theorem dL_law_982 : decode cL_law 982 = .ok (.aload_n 2, 1) := by decide +kernel
theorem dL_law_983 : decode cL_law 983 = .ok (.aload_n 0, 1) := by decide +kernel
theorem dL_law_984 : decode cL_law 984 = .ok (.iload_n 3, 1) := by decide +kernel
theorem dL_law_985 : decode cL_law 985 = .ok (.iconst 1, 1) := by decide +kernel
theorem dL_law_986 : decode cL_law 986 = .ok (.iadd, 1) := by decide +kernel
theorem dL_law_987 : decode cL_law 987 = .ok (.iaload, 1) := by decide +kernel
theorem dL_law_988 : decode cL_law 988 = .ok (.aload_n 0, 1) := by decide +kernel
theorem dL_law_989 : decode cL_law 989 = .ok (.iload_n 3, 1) := by decide +kernel
theorem dL_law_990 : decode cL_law 990 = .ok (.iconst 2, 1) := by decide +kernel
theorem dL_law_991 : decode cL_law 991 = .ok (.iadd, 1) := by decide +kernel
theorem dL_law_992 : decode cL_law 992 = .ok (.iaload, 1) := by decide +kernel
theorem dL_law_993 : decode cL_law 993 = .ok (.invokevirtual 122, 3) := by decide +kernel
theorem dL_law_996 : decode cL_law 996 = .ok (.if_icmp .eq 614, 3) := by decide +kernel
theorem dL_law_999 : decode cL_law 999 = .ok (.iconst 0, 1) := by decide +kernel
theorem dL_law_1000 : decode cL_law 1000 = .ok (.ireturn, 1) := by decide +kernel
theorem dL_law_1001 : decode cL_law 1001 = .ok (.aload_n 1, 1) := by decide +kernel
theorem dL_law_1002 : decode cL_law 1002 = .ok (.aload_n 0, 1) := by decide +kernel
theorem dL_law_1003 : decode cL_law 1003 = .ok (.iload_n 3, 1) := by decide +kernel
theorem dL_law_1004 : decode cL_law 1004 = .ok (.iconst 1, 1) := by decide +kernel
theorem dL_law_1005 : decode cL_law 1005 = .ok (.iadd, 1) := by decide +kernel
theorem dL_law_1006 : decode cL_law 1006 = .ok (.iaload, 1) := by decide +kernel
theorem dL_law_1007 : decode cL_law 1007 = .ok (.aload_n 0, 1) := by decide +kernel
theorem dL_law_1008 : decode cL_law 1008 = .ok (.iload_n 3, 1) := by decide +kernel
theorem dL_law_1009 : decode cL_law 1009 = .ok (.iconst 2, 1) := by decide +kernel
theorem dL_law_1010 : decode cL_law 1010 = .ok (.iadd, 1) := by decide +kernel
theorem dL_law_1011 : decode cL_law 1011 = .ok (.iaload, 1) := by decide +kernel
theorem dL_law_1012 : decode cL_law 1012 = .ok (.invokevirtual 123, 3) := by decide +kernel
theorem dL_law_1015 : decode cL_law 1015 = .ok (.aload_n 2, 1) := by decide +kernel
theorem dL_law_1016 : decode cL_law 1016 = .ok (.aload_n 0, 1) := by decide +kernel
theorem dL_law_1017 : decode cL_law 1017 = .ok (.iload_n 3, 1) := by decide +kernel
theorem dL_law_1018 : decode cL_law 1018 = .ok (.iconst 1, 1) := by decide +kernel
theorem dL_law_1019 : decode cL_law 1019 = .ok (.iadd, 1) := by decide +kernel
theorem dL_law_1020 : decode cL_law 1020 = .ok (.iaload, 1) := by decide +kernel
theorem dL_law_1021 : decode cL_law 1021 = .ok (.aload_n 0, 1) := by decide +kernel
theorem dL_law_1022 : decode cL_law 1022 = .ok (.iload_n 3, 1) := by decide +kernel
theorem dL_law_1023 : decode cL_law 1023 = .ok (.iconst 2, 1) := by decide +kernel
theorem dL_law_1024 : decode cL_law 1024 = .ok (.iadd, 1) := by decide +kernel
theorem dL_law_1025 : decode cL_law 1025 = .ok (.iaload, 1) := by decide +kernel
theorem dL_law_1026 : decode cL_law 1026 = .ok (.invokevirtual 126, 3) := by decide +kernel
theorem dL_law_1029 : decode cL_law 1029 = .ok (.if_icmp .eq 581, 3) := by decide +kernel
theorem dL_law_1032 : decode cL_law 1032 = .ok (.iconst 0, 1) := by decide +kernel
theorem dL_law_1033 : decode cL_law 1033 = .ok (.ireturn, 1) := by decide +kernel
theorem dL_law_1034 : decode cL_law 1034 = .ok (.aload_n 1, 1) := by decide +kernel
theorem dL_law_1035 : decode cL_law 1035 = .ok (.aload_n 0, 1) := by decide +kernel
theorem dL_law_1036 : decode cL_law 1036 = .ok (.iload_n 3, 1) := by decide +kernel
theorem dL_law_1037 : decode cL_law 1037 = .ok (.iconst 1, 1) := by decide +kernel
theorem dL_law_1038 : decode cL_law 1038 = .ok (.iadd, 1) := by decide +kernel
theorem dL_law_1039 : decode cL_law 1039 = .ok (.iaload, 1) := by decide +kernel
theorem dL_law_1040 : decode cL_law 1040 = .ok (.aload_n 0, 1) := by decide +kernel
theorem dL_law_1041 : decode cL_law 1041 = .ok (.iload_n 3, 1) := by decide +kernel
theorem dL_law_1042 : decode cL_law 1042 = .ok (.iconst 2, 1) := by decide +kernel
theorem dL_law_1043 : decode cL_law 1043 = .ok (.iadd, 1) := by decide +kernel
theorem dL_law_1044 : decode cL_law 1044 = .ok (.iaload, 1) := by decide +kernel
theorem dL_law_1045 : decode cL_law 1045 = .ok (.invokevirtual 127, 3) := by decide +kernel
theorem dL_law_1048 : decode cL_law 1048 = .ok (.aload_n 2, 1) := by decide +kernel
theorem dL_law_1049 : decode cL_law 1049 = .ok (.aload_n 0, 1) := by decide +kernel
theorem dL_law_1050 : decode cL_law 1050 = .ok (.iload_n 3, 1) := by decide +kernel
theorem dL_law_1051 : decode cL_law 1051 = .ok (.iconst 1, 1) := by decide +kernel
theorem dL_law_1052 : decode cL_law 1052 = .ok (.iadd, 1) := by decide +kernel
theorem dL_law_1053 : decode cL_law 1053 = .ok (.iaload, 1) := by decide +kernel
theorem dL_law_1054 : decode cL_law 1054 = .ok (.aload_n 0, 1) := by decide +kernel
theorem dL_law_1055 : decode cL_law 1055 = .ok (.iload_n 3, 1) := by decide +kernel
theorem dL_law_1056 : decode cL_law 1056 = .ok (.iconst 2, 1) := by decide +kernel
theorem dL_law_1057 : decode cL_law 1057 = .ok (.iadd, 1) := by decide +kernel
theorem dL_law_1058 : decode cL_law 1058 = .ok (.iaload, 1) := by decide +kernel
theorem dL_law_1059 : decode cL_law 1059 = .ok (.invokevirtual 130, 3) := by decide +kernel
theorem dL_law_1062 : decode cL_law 1062 = .ok (.if_icmp .eq 548, 3) := by decide +kernel
theorem dL_law_1065 : decode cL_law 1065 = .ok (.iconst 0, 1) := by decide +kernel
theorem dL_law_1066 : decode cL_law 1066 = .ok (.ireturn, 1) := by decide +kernel
theorem dL_law_1067 : decode cL_law 1067 = .ok (.aload_n 1, 1) := by decide +kernel
theorem dL_law_1068 : decode cL_law 1068 = .ok (.invokevirtual 131, 3) := by decide +kernel
theorem dL_law_1071 : decode cL_law 1071 = .ok (.aload_n 2, 1) := by decide +kernel
theorem dL_law_1072 : decode cL_law 1072 = .ok (.invokevirtual 134, 3) := by decide +kernel
theorem dL_law_1075 : decode cL_law 1075 = .ok (.if_icmp .eq 535, 3) := by decide +kernel
theorem dL_law_1078 : decode cL_law 1078 = .ok (.iconst 0, 1) := by decide +kernel
theorem dL_law_1079 : decode cL_law 1079 = .ok (.ireturn, 1) := by decide +kernel
theorem dL_law_1080 : decode cL_law 1080 = .ok (.aload_n 1, 1) := by decide +kernel
theorem dL_law_1081 : decode cL_law 1081 = .ok (.aload_n 0, 1) := by decide +kernel
theorem dL_law_1082 : decode cL_law 1082 = .ok (.iload_n 3, 1) := by decide +kernel
theorem dL_law_1083 : decode cL_law 1083 = .ok (.iconst 1, 1) := by decide +kernel
theorem dL_law_1084 : decode cL_law 1084 = .ok (.iadd, 1) := by decide +kernel
theorem dL_law_1085 : decode cL_law 1085 = .ok (.iaload, 1) := by decide +kernel
theorem dL_law_1086 : decode cL_law 1086 = .ok (.invokevirtual 135, 3) := by decide +kernel
theorem dL_law_1089 : decode cL_law 1089 = .ok (.aload_n 2, 1) := by decide +kernel
theorem dL_law_1090 : decode cL_law 1090 = .ok (.aload_n 0, 1) := by decide +kernel
theorem dL_law_1091 : decode cL_law 1091 = .ok (.iload_n 3, 1) := by decide +kernel
theorem dL_law_1092 : decode cL_law 1092 = .ok (.iconst 1, 1) := by decide +kernel
theorem dL_law_1093 : decode cL_law 1093 = .ok (.iadd, 1) := by decide +kernel
theorem dL_law_1094 : decode cL_law 1094 = .ok (.iaload, 1) := by decide +kernel
theorem dL_law_1095 : decode cL_law 1095 = .ok (.invokevirtual 138, 3) := by decide +kernel
theorem dL_law_1098 : decode cL_law 1098 = .ok (.lcmp, 1) := by decide +kernel
theorem dL_law_1099 : decode cL_law 1099 = .ok (.ifCond .eq 511, 3) := by decide +kernel
theorem dL_law_1102 : decode cL_law 1102 = .ok (.iconst 0, 1) := by decide +kernel
theorem dL_law_1103 : decode cL_law 1103 = .ok (.ireturn, 1) := by decide +kernel
theorem dL_law_1104 : decode cL_law 1104 = .ok (.aload_n 1, 1) := by decide +kernel
theorem dL_law_1105 : decode cL_law 1105 = .ok (.aload_n 0, 1) := by decide +kernel
theorem dL_law_1106 : decode cL_law 1106 = .ok (.iload_n 3, 1) := by decide +kernel
theorem dL_law_1107 : decode cL_law 1107 = .ok (.iconst 1, 1) := by decide +kernel
theorem dL_law_1108 : decode cL_law 1108 = .ok (.iadd, 1) := by decide +kernel
theorem dL_law_1109 : decode cL_law 1109 = .ok (.iaload, 1) := by decide +kernel
theorem dL_law_1110 : decode cL_law 1110 = .ok (.aload_n 0, 1) := by decide +kernel
theorem dL_law_1111 : decode cL_law 1111 = .ok (.iload_n 3, 1) := by decide +kernel
theorem dL_law_1112 : decode cL_law 1112 = .ok (.iconst 2, 1) := by decide +kernel
theorem dL_law_1113 : decode cL_law 1113 = .ok (.iadd, 1) := by decide +kernel
theorem dL_law_1114 : decode cL_law 1114 = .ok (.iaload, 1) := by decide +kernel
theorem dL_law_1115 : decode cL_law 1115 = .ok (.invokevirtual 139, 3) := by decide +kernel
theorem dL_law_1118 : decode cL_law 1118 = .ok (.aload_n 2, 1) := by decide +kernel
theorem dL_law_1119 : decode cL_law 1119 = .ok (.aload_n 0, 1) := by decide +kernel
theorem dL_law_1120 : decode cL_law 1120 = .ok (.iload_n 3, 1) := by decide +kernel
theorem dL_law_1121 : decode cL_law 1121 = .ok (.iconst 1, 1) := by decide +kernel
theorem dL_law_1122 : decode cL_law 1122 = .ok (.iadd, 1) := by decide +kernel
theorem dL_law_1123 : decode cL_law 1123 = .ok (.iaload, 1) := by decide +kernel
theorem dL_law_1124 : decode cL_law 1124 = .ok (.aload_n 0, 1) := by decide +kernel
theorem dL_law_1125 : decode cL_law 1125 = .ok (.iload_n 3, 1) := by decide +kernel
theorem dL_law_1126 : decode cL_law 1126 = .ok (.iconst 2, 1) := by decide +kernel
theorem dL_law_1127 : decode cL_law 1127 = .ok (.iadd, 1) := by decide +kernel
theorem dL_law_1128 : decode cL_law 1128 = .ok (.iaload, 1) := by decide +kernel
theorem dL_law_1129 : decode cL_law 1129 = .ok (.invokevirtual 142, 3) := by decide +kernel
theorem dL_law_1132 : decode cL_law 1132 = .ok (.if_icmp .eq 478, 3) := by decide +kernel
theorem dL_law_1135 : decode cL_law 1135 = .ok (.iconst 0, 1) := by decide +kernel
theorem dL_law_1136 : decode cL_law 1136 = .ok (.ireturn, 1) := by decide +kernel
theorem dL_law_1137 : decode cL_law 1137 = .ok (.aload_n 1, 1) := by decide +kernel
theorem dL_law_1138 : decode cL_law 1138 = .ok (.aload_n 0, 1) := by decide +kernel
theorem dL_law_1139 : decode cL_law 1139 = .ok (.iload_n 3, 1) := by decide +kernel
theorem dL_law_1140 : decode cL_law 1140 = .ok (.iconst 1, 1) := by decide +kernel
theorem dL_law_1141 : decode cL_law 1141 = .ok (.iadd, 1) := by decide +kernel
theorem dL_law_1142 : decode cL_law 1142 = .ok (.iaload, 1) := by decide +kernel
theorem dL_law_1143 : decode cL_law 1143 = .ok (.aload_n 0, 1) := by decide +kernel
theorem dL_law_1144 : decode cL_law 1144 = .ok (.iload_n 3, 1) := by decide +kernel
theorem dL_law_1145 : decode cL_law 1145 = .ok (.iconst 2, 1) := by decide +kernel
theorem dL_law_1146 : decode cL_law 1146 = .ok (.iadd, 1) := by decide +kernel
theorem dL_law_1147 : decode cL_law 1147 = .ok (.iaload, 1) := by decide +kernel
theorem dL_law_1148 : decode cL_law 1148 = .ok (.aload_n 0, 1) := by decide +kernel
theorem dL_law_1149 : decode cL_law 1149 = .ok (.iload_n 3, 1) := by decide +kernel
theorem dL_law_1150 : decode cL_law 1150 = .ok (.iconst 3, 1) := by decide +kernel
theorem dL_law_1151 : decode cL_law 1151 = .ok (.iadd, 1) := by decide +kernel
theorem dL_law_1152 : decode cL_law 1152 = .ok (.iaload, 1) := by decide +kernel
theorem dL_law_1153 : decode cL_law 1153 = .ok (.invokevirtual 143, 3) := by decide +kernel
theorem dL_law_1156 : decode cL_law 1156 = .ok (.aload_n 2, 1) := by decide +kernel
theorem dL_law_1157 : decode cL_law 1157 = .ok (.aload_n 0, 1) := by decide +kernel
theorem dL_law_1158 : decode cL_law 1158 = .ok (.iload_n 3, 1) := by decide +kernel
theorem dL_law_1159 : decode cL_law 1159 = .ok (.iconst 1, 1) := by decide +kernel
theorem dL_law_1160 : decode cL_law 1160 = .ok (.iadd, 1) := by decide +kernel
theorem dL_law_1161 : decode cL_law 1161 = .ok (.iaload, 1) := by decide +kernel
theorem dL_law_1162 : decode cL_law 1162 = .ok (.aload_n 0, 1) := by decide +kernel
theorem dL_law_1163 : decode cL_law 1163 = .ok (.iload_n 3, 1) := by decide +kernel
theorem dL_law_1164 : decode cL_law 1164 = .ok (.iconst 2, 1) := by decide +kernel
theorem dL_law_1165 : decode cL_law 1165 = .ok (.iadd, 1) := by decide +kernel
theorem dL_law_1166 : decode cL_law 1166 = .ok (.iaload, 1) := by decide +kernel
theorem dL_law_1167 : decode cL_law 1167 = .ok (.aload_n 0, 1) := by decide +kernel
theorem dL_law_1168 : decode cL_law 1168 = .ok (.iload_n 3, 1) := by decide +kernel
theorem dL_law_1169 : decode cL_law 1169 = .ok (.iconst 3, 1) := by decide +kernel
theorem dL_law_1170 : decode cL_law 1170 = .ok (.iadd, 1) := by decide +kernel
theorem dL_law_1171 : decode cL_law 1171 = .ok (.iaload, 1) := by decide +kernel
theorem dL_law_1172 : decode cL_law 1172 = .ok (.invokevirtual 146, 3) := by decide +kernel
theorem dL_law_1175 : decode cL_law 1175 = .ok (.if_icmp .eq 435, 3) := by decide +kernel
theorem dL_law_1178 : decode cL_law 1178 = .ok (.iconst 0, 1) := by decide +kernel
theorem dL_law_1179 : decode cL_law 1179 = .ok (.ireturn, 1) := by decide +kernel
theorem dL_law_1180 : decode cL_law 1180 = .ok (.aload_n 1, 1) := by decide +kernel
theorem dL_law_1181 : decode cL_law 1181 = .ok (.aload_n 0, 1) := by decide +kernel
theorem dL_law_1182 : decode cL_law 1182 = .ok (.iload_n 3, 1) := by decide +kernel
theorem dL_law_1183 : decode cL_law 1183 = .ok (.iconst 1, 1) := by decide +kernel
theorem dL_law_1184 : decode cL_law 1184 = .ok (.iadd, 1) := by decide +kernel
theorem dL_law_1185 : decode cL_law 1185 = .ok (.iaload, 1) := by decide +kernel
theorem dL_law_1186 : decode cL_law 1186 = .ok (.invokevirtual 147, 3) := by decide +kernel
theorem dL_law_1189 : decode cL_law 1189 = .ok (.aload_n 2, 1) := by decide +kernel
theorem dL_law_1190 : decode cL_law 1190 = .ok (.aload_n 0, 1) := by decide +kernel
theorem dL_law_1191 : decode cL_law 1191 = .ok (.iload_n 3, 1) := by decide +kernel
theorem dL_law_1192 : decode cL_law 1192 = .ok (.iconst 1, 1) := by decide +kernel
theorem dL_law_1193 : decode cL_law 1193 = .ok (.iadd, 1) := by decide +kernel
theorem dL_law_1194 : decode cL_law 1194 = .ok (.iaload, 1) := by decide +kernel
theorem dL_law_1195 : decode cL_law 1195 = .ok (.invokevirtual 150, 3) := by decide +kernel
theorem dL_law_1198 : decode cL_law 1198 = .ok (.if_icmp .eq 412, 3) := by decide +kernel
theorem dL_law_1201 : decode cL_law 1201 = .ok (.iconst 0, 1) := by decide +kernel
theorem dL_law_1202 : decode cL_law 1202 = .ok (.ireturn, 1) := by decide +kernel
theorem dL_law_1203 : decode cL_law 1203 = .ok (.aload_n 1, 1) := by decide +kernel
theorem dL_law_1204 : decode cL_law 1204 = .ok (.aload_n 0, 1) := by decide +kernel
theorem dL_law_1205 : decode cL_law 1205 = .ok (.iload_n 3, 1) := by decide +kernel
theorem dL_law_1206 : decode cL_law 1206 = .ok (.iconst 1, 1) := by decide +kernel
theorem dL_law_1207 : decode cL_law 1207 = .ok (.iadd, 1) := by decide +kernel
theorem dL_law_1208 : decode cL_law 1208 = .ok (.iaload, 1) := by decide +kernel
theorem dL_law_1209 : decode cL_law 1209 = .ok (.invokevirtual 151, 3) := by decide +kernel
theorem dL_law_1212 : decode cL_law 1212 = .ok (.aload_n 2, 1) := by decide +kernel
theorem dL_law_1213 : decode cL_law 1213 = .ok (.aload_n 0, 1) := by decide +kernel
theorem dL_law_1214 : decode cL_law 1214 = .ok (.iload_n 3, 1) := by decide +kernel
theorem dL_law_1215 : decode cL_law 1215 = .ok (.iconst 1, 1) := by decide +kernel
theorem dL_law_1216 : decode cL_law 1216 = .ok (.iadd, 1) := by decide +kernel
theorem dL_law_1217 : decode cL_law 1217 = .ok (.iaload, 1) := by decide +kernel
theorem dL_law_1218 : decode cL_law 1218 = .ok (.invokevirtual 154, 3) := by decide +kernel
theorem dL_law_1221 : decode cL_law 1221 = .ok (.if_icmp .eq 389, 3) := by decide +kernel
theorem dL_law_1224 : decode cL_law 1224 = .ok (.iconst 0, 1) := by decide +kernel
theorem dL_law_1225 : decode cL_law 1225 = .ok (.ireturn, 1) := by decide +kernel
theorem dL_law_1226 : decode cL_law 1226 = .ok (.aload_n 1, 1) := by decide +kernel
theorem dL_law_1227 : decode cL_law 1227 = .ok (.aload_n 0, 1) := by decide +kernel
theorem dL_law_1228 : decode cL_law 1228 = .ok (.iload_n 3, 1) := by decide +kernel
theorem dL_law_1229 : decode cL_law 1229 = .ok (.iconst 1, 1) := by decide +kernel
theorem dL_law_1230 : decode cL_law 1230 = .ok (.iadd, 1) := by decide +kernel
theorem dL_law_1231 : decode cL_law 1231 = .ok (.iaload, 1) := by decide +kernel
theorem dL_law_1232 : decode cL_law 1232 = .ok (.aload_n 0, 1) := by decide +kernel
theorem dL_law_1233 : decode cL_law 1233 = .ok (.iload_n 3, 1) := by decide +kernel
theorem dL_law_1234 : decode cL_law 1234 = .ok (.iconst 2, 1) := by decide +kernel
theorem dL_law_1235 : decode cL_law 1235 = .ok (.iadd, 1) := by decide +kernel
theorem dL_law_1236 : decode cL_law 1236 = .ok (.iaload, 1) := by decide +kernel
theorem dL_law_1237 : decode cL_law 1237 = .ok (.aload_n 0, 1) := by decide +kernel
theorem dL_law_1238 : decode cL_law 1238 = .ok (.iload_n 3, 1) := by decide +kernel
theorem dL_law_1239 : decode cL_law 1239 = .ok (.iconst 3, 1) := by decide +kernel
theorem dL_law_1240 : decode cL_law 1240 = .ok (.iadd, 1) := by decide +kernel
theorem dL_law_1241 : decode cL_law 1241 = .ok (.iaload, 1) := by decide +kernel
theorem dL_law_1242 : decode cL_law 1242 = .ok (.invokevirtual 155, 3) := by decide +kernel
theorem dL_law_1245 : decode cL_law 1245 = .ok (.aload_n 2, 1) := by decide +kernel
theorem dL_law_1246 : decode cL_law 1246 = .ok (.aload_n 0, 1) := by decide +kernel
theorem dL_law_1247 : decode cL_law 1247 = .ok (.iload_n 3, 1) := by decide +kernel
theorem dL_law_1248 : decode cL_law 1248 = .ok (.iconst 1, 1) := by decide +kernel
theorem dL_law_1249 : decode cL_law 1249 = .ok (.iadd, 1) := by decide +kernel
theorem dL_law_1250 : decode cL_law 1250 = .ok (.iaload, 1) := by decide +kernel
theorem dL_law_1251 : decode cL_law 1251 = .ok (.aload_n 0, 1) := by decide +kernel
theorem dL_law_1252 : decode cL_law 1252 = .ok (.iload_n 3, 1) := by decide +kernel
theorem dL_law_1253 : decode cL_law 1253 = .ok (.iconst 2, 1) := by decide +kernel
theorem dL_law_1254 : decode cL_law 1254 = .ok (.iadd, 1) := by decide +kernel
theorem dL_law_1255 : decode cL_law 1255 = .ok (.iaload, 1) := by decide +kernel
theorem dL_law_1256 : decode cL_law 1256 = .ok (.aload_n 0, 1) := by decide +kernel
theorem dL_law_1257 : decode cL_law 1257 = .ok (.iload_n 3, 1) := by decide +kernel
theorem dL_law_1258 : decode cL_law 1258 = .ok (.iconst 3, 1) := by decide +kernel
theorem dL_law_1259 : decode cL_law 1259 = .ok (.iadd, 1) := by decide +kernel
theorem dL_law_1260 : decode cL_law 1260 = .ok (.iaload, 1) := by decide +kernel
theorem dL_law_1261 : decode cL_law 1261 = .ok (.invokevirtual 158, 3) := by decide +kernel
theorem dL_law_1264 : decode cL_law 1264 = .ok (.if_icmp .eq 346, 3) := by decide +kernel
theorem dL_law_1267 : decode cL_law 1267 = .ok (.iconst 0, 1) := by decide +kernel
theorem dL_law_1268 : decode cL_law 1268 = .ok (.ireturn, 1) := by decide +kernel
theorem dL_law_1269 : decode cL_law 1269 = .ok (.aload_n 1, 1) := by decide +kernel
theorem dL_law_1270 : decode cL_law 1270 = .ok (.aload_n 0, 1) := by decide +kernel
theorem dL_law_1271 : decode cL_law 1271 = .ok (.iload_n 3, 1) := by decide +kernel
theorem dL_law_1272 : decode cL_law 1272 = .ok (.iconst 1, 1) := by decide +kernel
theorem dL_law_1273 : decode cL_law 1273 = .ok (.iadd, 1) := by decide +kernel
theorem dL_law_1274 : decode cL_law 1274 = .ok (.iaload, 1) := by decide +kernel
theorem dL_law_1275 : decode cL_law 1275 = .ok (.aload_n 0, 1) := by decide +kernel
theorem dL_law_1276 : decode cL_law 1276 = .ok (.iload_n 3, 1) := by decide +kernel
theorem dL_law_1277 : decode cL_law 1277 = .ok (.iconst 2, 1) := by decide +kernel
theorem dL_law_1278 : decode cL_law 1278 = .ok (.iadd, 1) := by decide +kernel
theorem dL_law_1279 : decode cL_law 1279 = .ok (.iaload, 1) := by decide +kernel
theorem dL_law_1280 : decode cL_law 1280 = .ok (.invokevirtual 159, 3) := by decide +kernel
theorem dL_law_1283 : decode cL_law 1283 = .ok (.aload_n 2, 1) := by decide +kernel
theorem dL_law_1284 : decode cL_law 1284 = .ok (.aload_n 0, 1) := by decide +kernel
theorem dL_law_1285 : decode cL_law 1285 = .ok (.iload_n 3, 1) := by decide +kernel
theorem dL_law_1286 : decode cL_law 1286 = .ok (.iconst 1, 1) := by decide +kernel
theorem dL_law_1287 : decode cL_law 1287 = .ok (.iadd, 1) := by decide +kernel
theorem dL_law_1288 : decode cL_law 1288 = .ok (.iaload, 1) := by decide +kernel
theorem dL_law_1289 : decode cL_law 1289 = .ok (.aload_n 0, 1) := by decide +kernel
theorem dL_law_1290 : decode cL_law 1290 = .ok (.iload_n 3, 1) := by decide +kernel
theorem dL_law_1291 : decode cL_law 1291 = .ok (.iconst 2, 1) := by decide +kernel
theorem dL_law_1292 : decode cL_law 1292 = .ok (.iadd, 1) := by decide +kernel
theorem dL_law_1293 : decode cL_law 1293 = .ok (.iaload, 1) := by decide +kernel
theorem dL_law_1294 : decode cL_law 1294 = .ok (.invokevirtual 162, 3) := by decide +kernel
theorem dL_law_1297 : decode cL_law 1297 = .ok (.if_icmp .eq 313, 3) := by decide +kernel
theorem dL_law_1300 : decode cL_law 1300 = .ok (.iconst 0, 1) := by decide +kernel
theorem dL_law_1301 : decode cL_law 1301 = .ok (.ireturn, 1) := by decide +kernel
theorem dL_law_1302 : decode cL_law 1302 = .ok (.aload_n 1, 1) := by decide +kernel
theorem dL_law_1303 : decode cL_law 1303 = .ok (.aload_n 0, 1) := by decide +kernel
theorem dL_law_1304 : decode cL_law 1304 = .ok (.iload_n 3, 1) := by decide +kernel
theorem dL_law_1305 : decode cL_law 1305 = .ok (.iconst 1, 1) := by decide +kernel
theorem dL_law_1306 : decode cL_law 1306 = .ok (.iadd, 1) := by decide +kernel
theorem dL_law_1307 : decode cL_law 1307 = .ok (.iaload, 1) := by decide +kernel
theorem dL_law_1308 : decode cL_law 1308 = .ok (.aload_n 0, 1) := by decide +kernel
theorem dL_law_1309 : decode cL_law 1309 = .ok (.iload_n 3, 1) := by decide +kernel
theorem dL_law_1310 : decode cL_law 1310 = .ok (.iconst 2, 1) := by decide +kernel
theorem dL_law_1311 : decode cL_law 1311 = .ok (.iadd, 1) := by decide +kernel
theorem dL_law_1312 : decode cL_law 1312 = .ok (.iaload, 1) := by decide +kernel
theorem dL_law_1313 : decode cL_law 1313 = .ok (.invokevirtual 163, 3) := by decide +kernel
theorem dL_law_1316 : decode cL_law 1316 = .ok (.aload_n 2, 1) := by decide +kernel
theorem dL_law_1317 : decode cL_law 1317 = .ok (.aload_n 0, 1) := by decide +kernel
theorem dL_law_1318 : decode cL_law 1318 = .ok (.iload_n 3, 1) := by decide +kernel
theorem dL_law_1319 : decode cL_law 1319 = .ok (.iconst 1, 1) := by decide +kernel
theorem dL_law_1320 : decode cL_law 1320 = .ok (.iadd, 1) := by decide +kernel
theorem dL_law_1321 : decode cL_law 1321 = .ok (.iaload, 1) := by decide +kernel
theorem dL_law_1322 : decode cL_law 1322 = .ok (.aload_n 0, 1) := by decide +kernel
theorem dL_law_1323 : decode cL_law 1323 = .ok (.iload_n 3, 1) := by decide +kernel
theorem dL_law_1324 : decode cL_law 1324 = .ok (.iconst 2, 1) := by decide +kernel
theorem dL_law_1325 : decode cL_law 1325 = .ok (.iadd, 1) := by decide +kernel
theorem dL_law_1326 : decode cL_law 1326 = .ok (.iaload, 1) := by decide +kernel
theorem dL_law_1327 : decode cL_law 1327 = .ok (.invokevirtual 166, 3) := by decide +kernel
theorem dL_law_1330 : decode cL_law 1330 = .ok (.if_icmp .eq 280, 3) := by decide +kernel
theorem dL_law_1333 : decode cL_law 1333 = .ok (.iconst 0, 1) := by decide +kernel
theorem dL_law_1334 : decode cL_law 1334 = .ok (.ireturn, 1) := by decide +kernel
theorem dL_law_1335 : decode cL_law 1335 = .ok (.aload_n 1, 1) := by decide +kernel
theorem dL_law_1336 : decode cL_law 1336 = .ok (.aload_n 0, 1) := by decide +kernel
theorem dL_law_1337 : decode cL_law 1337 = .ok (.iload_n 3, 1) := by decide +kernel
theorem dL_law_1338 : decode cL_law 1338 = .ok (.iconst 1, 1) := by decide +kernel
theorem dL_law_1339 : decode cL_law 1339 = .ok (.iadd, 1) := by decide +kernel
theorem dL_law_1340 : decode cL_law 1340 = .ok (.iaload, 1) := by decide +kernel
theorem dL_law_1341 : decode cL_law 1341 = .ok (.aload_n 0, 1) := by decide +kernel
theorem dL_law_1342 : decode cL_law 1342 = .ok (.iload_n 3, 1) := by decide +kernel
theorem dL_law_1343 : decode cL_law 1343 = .ok (.iconst 2, 1) := by decide +kernel
theorem dL_law_1344 : decode cL_law 1344 = .ok (.iadd, 1) := by decide +kernel
theorem dL_law_1345 : decode cL_law 1345 = .ok (.iaload, 1) := by decide +kernel
theorem dL_law_1346 : decode cL_law 1346 = .ok (.invokevirtual 167, 3) := by decide +kernel
theorem dL_law_1349 : decode cL_law 1349 = .ok (.aload_n 2, 1) := by decide +kernel
theorem dL_law_1350 : decode cL_law 1350 = .ok (.aload_n 0, 1) := by decide +kernel
theorem dL_law_1351 : decode cL_law 1351 = .ok (.iload_n 3, 1) := by decide +kernel
theorem dL_law_1352 : decode cL_law 1352 = .ok (.iconst 1, 1) := by decide +kernel
theorem dL_law_1353 : decode cL_law 1353 = .ok (.iadd, 1) := by decide +kernel
theorem dL_law_1354 : decode cL_law 1354 = .ok (.iaload, 1) := by decide +kernel
theorem dL_law_1355 : decode cL_law 1355 = .ok (.aload_n 0, 1) := by decide +kernel
theorem dL_law_1356 : decode cL_law 1356 = .ok (.iload_n 3, 1) := by decide +kernel
theorem dL_law_1357 : decode cL_law 1357 = .ok (.iconst 2, 1) := by decide +kernel
theorem dL_law_1358 : decode cL_law 1358 = .ok (.iadd, 1) := by decide +kernel
theorem dL_law_1359 : decode cL_law 1359 = .ok (.iaload, 1) := by decide +kernel
theorem dL_law_1360 : decode cL_law 1360 = .ok (.invokevirtual 170, 3) := by decide +kernel
theorem dL_law_1363 : decode cL_law 1363 = .ok (.if_icmp .eq 247, 3) := by decide +kernel
theorem dL_law_1366 : decode cL_law 1366 = .ok (.iconst 0, 1) := by decide +kernel
theorem dL_law_1367 : decode cL_law 1367 = .ok (.ireturn, 1) := by decide +kernel
theorem dL_law_1368 : decode cL_law 1368 = .ok (.aload_n 1, 1) := by decide +kernel
theorem dL_law_1369 : decode cL_law 1369 = .ok (.aload_n 0, 1) := by decide +kernel
theorem dL_law_1370 : decode cL_law 1370 = .ok (.iload_n 3, 1) := by decide +kernel
theorem dL_law_1371 : decode cL_law 1371 = .ok (.iconst 1, 1) := by decide +kernel
theorem dL_law_1372 : decode cL_law 1372 = .ok (.iadd, 1) := by decide +kernel
theorem dL_law_1373 : decode cL_law 1373 = .ok (.iaload, 1) := by decide +kernel
theorem dL_law_1374 : decode cL_law 1374 = .ok (.aload_n 0, 1) := by decide +kernel
theorem dL_law_1375 : decode cL_law 1375 = .ok (.iload_n 3, 1) := by decide +kernel
theorem dL_law_1376 : decode cL_law 1376 = .ok (.iconst 2, 1) := by decide +kernel
theorem dL_law_1377 : decode cL_law 1377 = .ok (.iadd, 1) := by decide +kernel
theorem dL_law_1378 : decode cL_law 1378 = .ok (.iaload, 1) := by decide +kernel
theorem dL_law_1379 : decode cL_law 1379 = .ok (.aload_n 0, 1) := by decide +kernel
theorem dL_law_1380 : decode cL_law 1380 = .ok (.iload_n 3, 1) := by decide +kernel
theorem dL_law_1381 : decode cL_law 1381 = .ok (.iconst 3, 1) := by decide +kernel
theorem dL_law_1382 : decode cL_law 1382 = .ok (.iadd, 1) := by decide +kernel
theorem dL_law_1383 : decode cL_law 1383 = .ok (.iaload, 1) := by decide +kernel
theorem dL_law_1384 : decode cL_law 1384 = .ok (.invokevirtual 171, 3) := by decide +kernel
theorem dL_law_1387 : decode cL_law 1387 = .ok (.aload_n 2, 1) := by decide +kernel
theorem dL_law_1388 : decode cL_law 1388 = .ok (.aload_n 0, 1) := by decide +kernel
theorem dL_law_1389 : decode cL_law 1389 = .ok (.iload_n 3, 1) := by decide +kernel
theorem dL_law_1390 : decode cL_law 1390 = .ok (.iconst 1, 1) := by decide +kernel
theorem dL_law_1391 : decode cL_law 1391 = .ok (.iadd, 1) := by decide +kernel
theorem dL_law_1392 : decode cL_law 1392 = .ok (.iaload, 1) := by decide +kernel
theorem dL_law_1393 : decode cL_law 1393 = .ok (.aload_n 0, 1) := by decide +kernel
theorem dL_law_1394 : decode cL_law 1394 = .ok (.iload_n 3, 1) := by decide +kernel
theorem dL_law_1395 : decode cL_law 1395 = .ok (.iconst 2, 1) := by decide +kernel
theorem dL_law_1396 : decode cL_law 1396 = .ok (.iadd, 1) := by decide +kernel
theorem dL_law_1397 : decode cL_law 1397 = .ok (.iaload, 1) := by decide +kernel
theorem dL_law_1398 : decode cL_law 1398 = .ok (.aload_n 0, 1) := by decide +kernel
theorem dL_law_1399 : decode cL_law 1399 = .ok (.iload_n 3, 1) := by decide +kernel
theorem dL_law_1400 : decode cL_law 1400 = .ok (.iconst 3, 1) := by decide +kernel
theorem dL_law_1401 : decode cL_law 1401 = .ok (.iadd, 1) := by decide +kernel
theorem dL_law_1402 : decode cL_law 1402 = .ok (.iaload, 1) := by decide +kernel
theorem dL_law_1403 : decode cL_law 1403 = .ok (.invokevirtual 174, 3) := by decide +kernel
theorem dL_law_1406 : decode cL_law 1406 = .ok (.if_icmp .eq 204, 3) := by decide +kernel
theorem dL_law_1409 : decode cL_law 1409 = .ok (.iconst 0, 1) := by decide +kernel
theorem dL_law_1410 : decode cL_law 1410 = .ok (.ireturn, 1) := by decide +kernel
theorem dL_law_1411 : decode cL_law 1411 = .ok (.aload_n 1, 1) := by decide +kernel
theorem dL_law_1412 : decode cL_law 1412 = .ok (.aload_n 0, 1) := by decide +kernel
theorem dL_law_1413 : decode cL_law 1413 = .ok (.iload_n 3, 1) := by decide +kernel
theorem dL_law_1414 : decode cL_law 1414 = .ok (.iconst 1, 1) := by decide +kernel
theorem dL_law_1415 : decode cL_law 1415 = .ok (.iadd, 1) := by decide +kernel
theorem dL_law_1416 : decode cL_law 1416 = .ok (.iaload, 1) := by decide +kernel
theorem dL_law_1417 : decode cL_law 1417 = .ok (.aload_n 0, 1) := by decide +kernel
theorem dL_law_1418 : decode cL_law 1418 = .ok (.iload_n 3, 1) := by decide +kernel
theorem dL_law_1419 : decode cL_law 1419 = .ok (.iconst 2, 1) := by decide +kernel
theorem dL_law_1420 : decode cL_law 1420 = .ok (.iadd, 1) := by decide +kernel
theorem dL_law_1421 : decode cL_law 1421 = .ok (.iaload, 1) := by decide +kernel
theorem dL_law_1422 : decode cL_law 1422 = .ok (.aload_n 0, 1) := by decide +kernel
theorem dL_law_1423 : decode cL_law 1423 = .ok (.iload_n 3, 1) := by decide +kernel
theorem dL_law_1424 : decode cL_law 1424 = .ok (.iconst 3, 1) := by decide +kernel
theorem dL_law_1425 : decode cL_law 1425 = .ok (.iadd, 1) := by decide +kernel
theorem dL_law_1426 : decode cL_law 1426 = .ok (.iaload, 1) := by decide +kernel
theorem dL_law_1427 : decode cL_law 1427 = .ok (.i2l, 1) := by decide +kernel
theorem dL_law_1428 : decode cL_law 1428 = .ok (.bipush 32, 2) := by decide +kernel
theorem dL_law_1430 : decode cL_law 1430 = .ok (.lshl, 1) := by decide +kernel
theorem dL_law_1431 : decode cL_law 1431 = .ok (.aload_n 0, 1) := by decide +kernel
theorem dL_law_1432 : decode cL_law 1432 = .ok (.iload_n 3, 1) := by decide +kernel
theorem dL_law_1433 : decode cL_law 1433 = .ok (.iconst 4, 1) := by decide +kernel
theorem dL_law_1434 : decode cL_law 1434 = .ok (.iadd, 1) := by decide +kernel
theorem dL_law_1435 : decode cL_law 1435 = .ok (.iaload, 1) := by decide +kernel
theorem dL_law_1436 : decode cL_law 1436 = .ok (.i2l, 1) := by decide +kernel
theorem dL_law_1437 : decode cL_law 1437 = .ok (.ldc2_w 49, 3) := by decide +kernel
theorem dL_law_1440 : decode cL_law 1440 = .ok (.land, 1) := by decide +kernel
theorem dL_law_1441 : decode cL_law 1441 = .ok (.lor, 1) := by decide +kernel
theorem dL_law_1442 : decode cL_law 1442 = .ok (.invokevirtual 175, 3) := by decide +kernel
theorem dL_law_1445 : decode cL_law 1445 = .ok (.aload_n 2, 1) := by decide +kernel
theorem dL_law_1446 : decode cL_law 1446 = .ok (.aload_n 0, 1) := by decide +kernel
theorem dL_law_1447 : decode cL_law 1447 = .ok (.iload_n 3, 1) := by decide +kernel
theorem dL_law_1448 : decode cL_law 1448 = .ok (.iconst 1, 1) := by decide +kernel
theorem dL_law_1449 : decode cL_law 1449 = .ok (.iadd, 1) := by decide +kernel
theorem dL_law_1450 : decode cL_law 1450 = .ok (.iaload, 1) := by decide +kernel
theorem dL_law_1451 : decode cL_law 1451 = .ok (.aload_n 0, 1) := by decide +kernel
theorem dL_law_1452 : decode cL_law 1452 = .ok (.iload_n 3, 1) := by decide +kernel
theorem dL_law_1453 : decode cL_law 1453 = .ok (.iconst 2, 1) := by decide +kernel
theorem dL_law_1454 : decode cL_law 1454 = .ok (.iadd, 1) := by decide +kernel
theorem dL_law_1455 : decode cL_law 1455 = .ok (.iaload, 1) := by decide +kernel
theorem dL_law_1456 : decode cL_law 1456 = .ok (.aload_n 0, 1) := by decide +kernel
theorem dL_law_1457 : decode cL_law 1457 = .ok (.iload_n 3, 1) := by decide +kernel
theorem dL_law_1458 : decode cL_law 1458 = .ok (.iconst 3, 1) := by decide +kernel
theorem dL_law_1459 : decode cL_law 1459 = .ok (.iadd, 1) := by decide +kernel
theorem dL_law_1460 : decode cL_law 1460 = .ok (.iaload, 1) := by decide +kernel
theorem dL_law_1461 : decode cL_law 1461 = .ok (.i2l, 1) := by decide +kernel
theorem dL_law_1462 : decode cL_law 1462 = .ok (.bipush 32, 2) := by decide +kernel
theorem dL_law_1464 : decode cL_law 1464 = .ok (.lshl, 1) := by decide +kernel
theorem dL_law_1465 : decode cL_law 1465 = .ok (.aload_n 0, 1) := by decide +kernel
theorem dL_law_1466 : decode cL_law 1466 = .ok (.iload_n 3, 1) := by decide +kernel
theorem dL_law_1467 : decode cL_law 1467 = .ok (.iconst 4, 1) := by decide +kernel
theorem dL_law_1468 : decode cL_law 1468 = .ok (.iadd, 1) := by decide +kernel
theorem dL_law_1469 : decode cL_law 1469 = .ok (.iaload, 1) := by decide +kernel
theorem dL_law_1470 : decode cL_law 1470 = .ok (.i2l, 1) := by decide +kernel
theorem dL_law_1471 : decode cL_law 1471 = .ok (.ldc2_w 49, 3) := by decide +kernel
theorem dL_law_1474 : decode cL_law 1474 = .ok (.land, 1) := by decide +kernel
theorem dL_law_1475 : decode cL_law 1475 = .ok (.lor, 1) := by decide +kernel
theorem dL_law_1476 : decode cL_law 1476 = .ok (.invokevirtual 179, 3) := by decide +kernel
theorem dL_law_1479 : decode cL_law 1479 = .ok (.if_icmp .eq 131, 3) := by decide +kernel
theorem dL_law_1482 : decode cL_law 1482 = .ok (.iconst 0, 1) := by decide +kernel
theorem dL_law_1483 : decode cL_law 1483 = .ok (.ireturn, 1) := by decide +kernel
theorem dL_law_1484 : decode cL_law 1484 = .ok (.aload_n 1, 1) := by decide +kernel
theorem dL_law_1485 : decode cL_law 1485 = .ok (.aload_n 0, 1) := by decide +kernel
theorem dL_law_1486 : decode cL_law 1486 = .ok (.iload_n 3, 1) := by decide +kernel
theorem dL_law_1487 : decode cL_law 1487 = .ok (.iconst 1, 1) := by decide +kernel
theorem dL_law_1488 : decode cL_law 1488 = .ok (.iadd, 1) := by decide +kernel
theorem dL_law_1489 : decode cL_law 1489 = .ok (.iaload, 1) := by decide +kernel
theorem dL_law_1490 : decode cL_law 1490 = .ok (.aload_n 0, 1) := by decide +kernel
theorem dL_law_1491 : decode cL_law 1491 = .ok (.iload_n 3, 1) := by decide +kernel
theorem dL_law_1492 : decode cL_law 1492 = .ok (.iconst 2, 1) := by decide +kernel
theorem dL_law_1493 : decode cL_law 1493 = .ok (.iadd, 1) := by decide +kernel
theorem dL_law_1494 : decode cL_law 1494 = .ok (.iaload, 1) := by decide +kernel
theorem dL_law_1495 : decode cL_law 1495 = .ok (.invokevirtual 180, 3) := by decide +kernel
theorem dL_law_1498 : decode cL_law 1498 = .ok (.aload_n 2, 1) := by decide +kernel
theorem dL_law_1499 : decode cL_law 1499 = .ok (.aload_n 0, 1) := by decide +kernel
theorem dL_law_1500 : decode cL_law 1500 = .ok (.iload_n 3, 1) := by decide +kernel
theorem dL_law_1501 : decode cL_law 1501 = .ok (.iconst 1, 1) := by decide +kernel
theorem dL_law_1502 : decode cL_law 1502 = .ok (.iadd, 1) := by decide +kernel
theorem dL_law_1503 : decode cL_law 1503 = .ok (.iaload, 1) := by decide +kernel
theorem dL_law_1504 : decode cL_law 1504 = .ok (.aload_n 0, 1) := by decide +kernel
theorem dL_law_1505 : decode cL_law 1505 = .ok (.iload_n 3, 1) := by decide +kernel
theorem dL_law_1506 : decode cL_law 1506 = .ok (.iconst 2, 1) := by decide +kernel
theorem dL_law_1507 : decode cL_law 1507 = .ok (.iadd, 1) := by decide +kernel
theorem dL_law_1508 : decode cL_law 1508 = .ok (.iaload, 1) := by decide +kernel
theorem dL_law_1509 : decode cL_law 1509 = .ok (.invokevirtual 184, 3) := by decide +kernel
theorem dL_law_1512 : decode cL_law 1512 = .ok (.lcmp, 1) := by decide +kernel
theorem dL_law_1513 : decode cL_law 1513 = .ok (.ifCond .eq 97, 3) := by decide +kernel
theorem dL_law_1516 : decode cL_law 1516 = .ok (.iconst 0, 1) := by decide +kernel
theorem dL_law_1517 : decode cL_law 1517 = .ok (.ireturn, 1) := by decide +kernel
theorem dL_law_1518 : decode cL_law 1518 = .ok (.aload_n 1, 1) := by decide +kernel
theorem dL_law_1519 : decode cL_law 1519 = .ok (.aload_n 0, 1) := by decide +kernel
theorem dL_law_1520 : decode cL_law 1520 = .ok (.iload_n 3, 1) := by decide +kernel
theorem dL_law_1521 : decode cL_law 1521 = .ok (.iconst 1, 1) := by decide +kernel
theorem dL_law_1522 : decode cL_law 1522 = .ok (.iadd, 1) := by decide +kernel
theorem dL_law_1523 : decode cL_law 1523 = .ok (.iaload, 1) := by decide +kernel
theorem dL_law_1524 : decode cL_law 1524 = .ok (.aload_n 0, 1) := by decide +kernel
theorem dL_law_1525 : decode cL_law 1525 = .ok (.iload_n 3, 1) := by decide +kernel
theorem dL_law_1526 : decode cL_law 1526 = .ok (.iconst 2, 1) := by decide +kernel
theorem dL_law_1527 : decode cL_law 1527 = .ok (.iadd, 1) := by decide +kernel
theorem dL_law_1528 : decode cL_law 1528 = .ok (.iaload, 1) := by decide +kernel
theorem dL_law_1529 : decode cL_law 1529 = .ok (.aload_n 0, 1) := by decide +kernel
theorem dL_law_1530 : decode cL_law 1530 = .ok (.iload_n 3, 1) := by decide +kernel
theorem dL_law_1531 : decode cL_law 1531 = .ok (.iconst 3, 1) := by decide +kernel
theorem dL_law_1532 : decode cL_law 1532 = .ok (.iadd, 1) := by decide +kernel
theorem dL_law_1533 : decode cL_law 1533 = .ok (.iaload, 1) := by decide +kernel
theorem dL_law_1534 : decode cL_law 1534 = .ok (.invokevirtual 185, 3) := by decide +kernel
theorem dL_law_1537 : decode cL_law 1537 = .ok (.aload_n 2, 1) := by decide +kernel
theorem dL_law_1538 : decode cL_law 1538 = .ok (.aload_n 0, 1) := by decide +kernel
theorem dL_law_1539 : decode cL_law 1539 = .ok (.iload_n 3, 1) := by decide +kernel
theorem dL_law_1540 : decode cL_law 1540 = .ok (.iconst 1, 1) := by decide +kernel
theorem dL_law_1541 : decode cL_law 1541 = .ok (.iadd, 1) := by decide +kernel
theorem dL_law_1542 : decode cL_law 1542 = .ok (.iaload, 1) := by decide +kernel
theorem dL_law_1543 : decode cL_law 1543 = .ok (.aload_n 0, 1) := by decide +kernel
theorem dL_law_1544 : decode cL_law 1544 = .ok (.iload_n 3, 1) := by decide +kernel
theorem dL_law_1545 : decode cL_law 1545 = .ok (.iconst 2, 1) := by decide +kernel
theorem dL_law_1546 : decode cL_law 1546 = .ok (.iadd, 1) := by decide +kernel
theorem dL_law_1547 : decode cL_law 1547 = .ok (.iaload, 1) := by decide +kernel
theorem dL_law_1548 : decode cL_law 1548 = .ok (.aload_n 0, 1) := by decide +kernel
theorem dL_law_1549 : decode cL_law 1549 = .ok (.iload_n 3, 1) := by decide +kernel
theorem dL_law_1550 : decode cL_law 1550 = .ok (.iconst 3, 1) := by decide +kernel
theorem dL_law_1551 : decode cL_law 1551 = .ok (.iadd, 1) := by decide +kernel
theorem dL_law_1552 : decode cL_law 1552 = .ok (.iaload, 1) := by decide +kernel
theorem dL_law_1553 : decode cL_law 1553 = .ok (.invokevirtual 188, 3) := by decide +kernel
theorem dL_law_1556 : decode cL_law 1556 = .ok (.if_icmp .eq 54, 3) := by decide +kernel
theorem dL_law_1559 : decode cL_law 1559 = .ok (.iconst 0, 1) := by decide +kernel
theorem dL_law_1560 : decode cL_law 1560 = .ok (.ireturn, 1) := by decide +kernel
theorem dL_law_1561 : decode cL_law 1561 = .ok (.aload_n 1, 1) := by decide +kernel
theorem dL_law_1562 : decode cL_law 1562 = .ok (.invokevirtual 189, 3) := by decide +kernel
theorem dL_law_1565 : decode cL_law 1565 = .ok (.aload_n 2, 1) := by decide +kernel
theorem dL_law_1566 : decode cL_law 1566 = .ok (.invokevirtual 192, 3) := by decide +kernel
theorem dL_law_1569 : decode cL_law 1569 = .ok (.if_icmp .eq 41, 3) := by decide +kernel
theorem dL_law_1572 : decode cL_law 1572 = .ok (.iconst 0, 1) := by decide +kernel
theorem dL_law_1573 : decode cL_law 1573 = .ok (.ireturn, 1) := by decide +kernel
theorem dL_law_1574 : decode cL_law 1574 = .ok (.aload_n 1, 1) := by decide +kernel
theorem dL_law_1575 : decode cL_law 1575 = .ok (.invokevirtual 193, 3) := by decide +kernel
theorem dL_law_1578 : decode cL_law 1578 = .ok (.aload_n 2, 1) := by decide +kernel
theorem dL_law_1579 : decode cL_law 1579 = .ok (.invokevirtual 196, 3) := by decide +kernel
theorem dL_law_1582 : decode cL_law 1582 = .ok (.if_icmp .eq 28, 3) := by decide +kernel
theorem dL_law_1585 : decode cL_law 1585 = .ok (.iconst 0, 1) := by decide +kernel
theorem dL_law_1586 : decode cL_law 1586 = .ok (.ireturn, 1) := by decide +kernel
theorem dL_law_1587 : decode cL_law 1587 = .ok (.aload_n 1, 1) := by decide +kernel
theorem dL_law_1588 : decode cL_law 1588 = .ok (.aload_n 0, 1) := by decide +kernel
theorem dL_law_1589 : decode cL_law 1589 = .ok (.iload_n 3, 1) := by decide +kernel
theorem dL_law_1590 : decode cL_law 1590 = .ok (.iconst 1, 1) := by decide +kernel
theorem dL_law_1591 : decode cL_law 1591 = .ok (.iadd, 1) := by decide +kernel
theorem dL_law_1592 : decode cL_law 1592 = .ok (.iaload, 1) := by decide +kernel
theorem dL_law_1593 : decode cL_law 1593 = .ok (.invokevirtual 197, 3) := by decide +kernel
theorem dL_law_1596 : decode cL_law 1596 = .ok (.aload_n 2, 1) := by decide +kernel
theorem dL_law_1597 : decode cL_law 1597 = .ok (.aload_n 0, 1) := by decide +kernel
theorem dL_law_1598 : decode cL_law 1598 = .ok (.iload_n 3, 1) := by decide +kernel
theorem dL_law_1599 : decode cL_law 1599 = .ok (.iconst 1, 1) := by decide +kernel
theorem dL_law_1600 : decode cL_law 1600 = .ok (.iadd, 1) := by decide +kernel
theorem dL_law_1601 : decode cL_law 1601 = .ok (.iaload, 1) := by decide +kernel
theorem dL_law_1602 : decode cL_law 1602 = .ok (.invokevirtual 200, 3) := by decide +kernel
theorem dL_law_1605 : decode cL_law 1605 = .ok (.if_icmp .eq 5, 3) := by decide +kernel
theorem dL_law_1608 : decode cL_law 1608 = .ok (.iconst 0, 1) := by decide +kernel
theorem dL_law_1609 : decode cL_law 1609 = .ok (.ireturn, 1) := by decide +kernel
theorem dL_law_1610 : decode cL_law 1610 = .ok (.iinc 3 5, 3) := by decide +kernel
theorem dL_law_1613 : decode cL_law 1613 = .ok (.goto (-1595), 3) := by decide +kernel
theorem dL_law_1616 : decode cL_law 1616 = .ok (.iconst 1, 1) := by decide +kernel
theorem dL_law_1617 : decode cL_law 1617 = .ok (.ireturn, 1) := by decide +kernel
end
section
/-! the store: what the data of a world's cells is; a world by its descriptors; rows over it -/
abbrev Sg : Type := (Nat → Nat → Int32) × (Nat → Nat → Int64)
def si (S : Sg) (k j : Nat) (v : Int32) : Sg := (fun a => if a = k then upd (S.1 k) j v else S.1 a, S.2)
def sl (S : Sg) (k j : Nat) (v : Int64) : Sg := (S.1, fun a => if a = k then vp_updL (S.2 k) j v else S.2 a)
abbrev Dsc : Type := (Nat × List (Option Nat)) ⊕ ((Nat × Nat) ⊕ (Nat × Nat × Nat))
def mkF (L : Nat → Nat) (f : Nat → Int32) : Nat → List (Option Nat) → List Value
  | _, [] => []
  | j, some k :: r => .ref (L k) :: mkF L f (j + 1) r
  | j, none :: r => .int (f j) :: mkF L f (j + 1) r
def mkE (cy : Nat → ClassId) (L : Nat → Nat) (S : Sg) (k : Nat) : Dsc → va_E
  | .inl (ci, fds) => .inr (ci, mkF L (S.1 k) 0 fds)
  | .inr (.inl (t, n)) => if t = 1 then .inl (cy 1, n, .inr (.inl (S.2 k))) else .inl (cy t, n, .inl (S.1 k))
  | .inr (.inr (t, n, b)) => .inl (cy t, n, .inr (.inr (.inr (.inr (fun i => some (L (b + 2 * i)))))))
def wl (cy : Nat → ClassId) (L : Nat → Nat) (sh : Nat → Dsc) (n : Nat) (S : Sg) : va_W := (List.range n).map (fun k => (L k, mkE cy L S k (sh k)))
def tyl (cy : Nat → ClassId) : List (ClassId × FieldType) := [(cy 0, .int), (cy 1, .long), (cy 2, .boolean), (cy 3, .object RX6), (cy 4, .object RX1)]
abbrev vwCl : List vw_C := [(RX0, TX0, 7), (RX1, TX1, 5), (RX2, TX2, 8), (RX3, TX3, 2), (RX4, TX4, 3), (RX5, TX5, 5), (RX6, TX6, 3), (RX7, TX7, 2), (RX8, TX8, 3), (RX9, TX9, 13), (RX10, TX10, 27)]
def AL (L : Nat → Nat) (n : Nat) : Nat → Prop := fun q => ∃ k, k < n ∧ q = L k
def tb : List Cond := lw_tbl.filter goodWord
theorem tb_good {w : Cond} (h : w ∈ lw_tbl) (g : goodWord w = true) : w ∈ tb := List.mem_filter.mpr ⟨h, g⟩
theorem tb_in {w : Cond} (h : w ∈ tb) : w ∈ lw_tbl := (List.mem_filter.mp h).1
theorem tb_goodIn : GoodIn tb tb := fun w h => ⟨h, good_of_word (List.mem_filter.mp h).2⟩
def fAb : Nat → Value := fun j => .int (([-1, 0, 0, 1, 2, 0] : List Int32).getD j 0)
def nests : List (String × Nat × MethodName) := [(RX9, 11, yX2_init), (RX9, 25, yX5_init), (RX5, 27, yX0_init), (RX9, 32, yX8_init), (RX9, 39, yX7_init), (RX7, 17, yX0_init), (RX9, 46, yX4_init), (RX9, 53, yX3_init), (RX9, 80, yX6_init), (RX9, 81, yX1_init), (RX2, 52, yX9_restOf), (RX7, 35, yX9_restOf), (RX4, 56, yX9_isInt), (RX3, 42, yX9_quotient)]
def Nst (s : State) : Prop := ∀ q ∈ nests, va_Nw (.methodLinkNest q.1 q.2.1 q.2.2 "PairsStand") s
theorem Nst.warm {s U : State} (hW : s.WarmedH U.vm) (h : Nst s) : Nst U := fun q hq => va_Nw.warmM hW (h q hq)
theorem mkF_get {L : Nat → Nat} {f : Nat → Int32} : ∀ (fds : List (Option Nat)) (i j : Nat), (mkF L f i fds)[j]? = (fds[j]?).map (fun o => match o with | some k => Value.ref (L k) | none => .int (f (i + j)))
  | [], i, j => by simp [mkF]
  | some k :: r, i, 0 => by simp [mkF]
  | none :: r, i, 0 => by simp [mkF]
  | some k :: r, i, j + 1 => by simp [mkF, mkF_get r (i + 1) j, Nat.add_assoc, Nat.add_comm 1 j]
  | none :: r, i, j + 1 => by simp [mkF, mkF_get r (i + 1) j, Nat.add_assoc, Nat.add_comm 1 j]
theorem mkF_len {L : Nat → Nat} {f : Nat → Int32} : ∀ (fds : List (Option Nat)) (i : Nat), (mkF L f i fds).length = fds.length
  | [], i => rfl
  | some k :: r, i => by simp [mkF, mkF_len r]
  | none :: r, i => by simp [mkF, mkF_len r]
theorem mkF_set {L : Nat → Nat} {f : Nat → Int32} {v : Int32} (fds : List (Option Nat)) (j : Nat) (h : fds[j]? = some none) : (mkF L f 0 fds).set j (.int v) = mkF L (upd f j v) 0 fds := by
  apply List.ext_getElem?
  intro a
  rw [mkF_get, List.getElem?_set, mkF_len]
  have hj : j < fds.length := (List.getElem?_eq_some_iff.mp h).1
  by_cases e : j = a
  · subst e
    rw [if_pos rfl, if_pos hj, h]
    simp [upd]
  · rw [if_neg e, mkF_get]
    have e2 : ¬ a = j := fun q => e q.symm
    cases hq : fds[a]? with
    | none => rfl
    | some o => cases o <;> simp [upd, e2]
theorem wl_get {cy : Nat → ClassId} {L : Nat → Nat} {sh : Nat → Dsc} {n : Nat} {S : Sg} {k : Nat} (hk : k < n) : (wl cy L sh n S)[k]? = some (L k, mkE cy L S k (sh k)) := by
  simp [wl, hk]
theorem wl_at {cy : Nat → ClassId} {L : Nat → Nat} {sh : Nat → Dsc} {n : Nat} {S : Sg} {k : Nat} {q : Nat × va_E} (h : (wl cy L sh n S)[k]? = some q) : k < n ∧ q = (L k, mkE cy L S k (sh k)) := by
  simp only [wl, List.getElem?_map, List.getElem?_range, Option.map_eq_some_iff] at h
  obtain ⟨a, h1, h2⟩ := h
  have h3 := List.getElem?_eq_some_iff.mp h1
  obtain ⟨h4, h5⟩ := h3
  simp at h4 h5
  subst h5
  exact ⟨h4, h2.symm⟩
theorem wl_set {cy : Nat → ClassId} {L : Nat → Nat} {sh : Nat → Dsc} {n : Nat} {S S' : Sg} {k : Nat} {e : va_E} (hk : k < n) (he : mkE cy L S' k (sh k) = e) (ho : ∀ a, a ≠ k → S'.1 a = S.1 a ∧ S'.2 a = S.2 a) : (wl cy L sh n S).set k (L k, e) = wl cy L sh n S' := by
  apply List.ext_getElem?
  intro a
  rw [List.getElem?_set]
  by_cases h : k = a
  · subst h
    rw [if_pos rfl, if_pos (by simp [wl, hk]), wl_get hk, he]
  · rw [if_neg h]
    simp only [wl, List.getElem?_map]
    cases hq : (List.range n)[a]? with
    | none => rfl
    | some b =>
      have hb : b = a := by
        have := List.getElem?_eq_some_iff.mp hq
        obtain ⟨h4, h5⟩ := this
        simp at h5
        exact h5.symm
      subst hb
      obtain ⟨e1, e2⟩ := ho b (fun q => h q.symm)
      have : mkE cy L S' b (sh b) = mkE cy L S b (sh b) := by
        rcases hs : sh b with ⟨ci, fds⟩ | ⟨t, n⟩ | ⟨t, n, bb⟩ <;> simp [mkE, e1, e2]
      simp [this]
theorem wl_D {cy : Nat → ClassId} {L : Nat → Nat} {sh : Nat → Dsc} {n : Nat} {S : Sg} (hi : ∀ i j, i < n → j < n → L i = L j → i = j) : va_D (AL L n) (wl cy L sh n S) := by
  refine ⟨fun i j p q hp hq e => ?_, fun k q hq => ?_⟩
  · obtain ⟨h1, rfl⟩ := wl_at hp
    obtain ⟨h2, rfl⟩ := wl_at hq
    exact hi i j h1 h2 e
  · obtain ⟨h1, rfl⟩ := wl_at hq
    exact ⟨k, h1, rfl⟩
end
section
/-! rows over a world by descriptors -/
def Cst (D : va_G) (cy : Nat → ClassId) (L : Nat → Nat) (n bA : Nat) (s : State) (H : Heap) : Prop :=
  va_K D vwCl (tyl cy) s ∧ (∀ i j, i < n → j < n → L i = L j → i = j) ∧ Nst s ∧ va_Z "PairsStand" "ABOVE" "[I" (.ref bA) (AL L n) s H ∧ va_T .int bA 6 fAb (AL L n) s H
def Wd (D : va_G) (cy : Nat → ClassId) (L : Nat → Nat) (sh : Nat → Dsc) (n : Nat) (S : Sg) (s : State) (H : Heap) (locs : List Loc) : Prop :=
  va_P D vwCl (wl cy L sh n S) H ∧ va_S (AL L n) s.heap H locs
def Wc (D : va_G) (cy : Nat → ClassId) (L : Nat → Nat) (sh : Nat → Dsc) (n bA : Nat) (S : Sg) (U : State) : Prop :=
  va_P D vwCl (wl cy L sh n S) U.heap ∧ Cst D cy L n bA U U.heap
/-- a method's end: its answer, and the world behind it -/
def xQ (D : va_G) (cy : Nat → ClassId) (L : Nat → Nat) (sh : Nat → Dsc) (n bA : Nat) (v : Option Value) (S' : Sg) : Array Value → State → Outcome → State → Prop :=
  fun _ st oc t => oc = .returned v ∧ Wc D cy L sh n bA S' t ∧ va_F (AL L n) st t
def WS (y : MethodName) (bytes : ByteArray) (maxL : Nat) (ret : Option FieldType) : List Cond := Cond.code y bytes maxL ret :: tb
def rmk (f n : Nat) : Room := { frames := f, cells := 0, slots := 0, locals := n }
def MetX (l : Launch) (D : va_G) (cy : Nat → ClassId) (L : Nat → Nat) (sh : Nat → Dsc) (n bA : Nat) (y : MethodName) (bytes : ByteArray) (maxL : Nat) (ret : Option FieldType) (fr lo : Nat) (cargs : List Value) (v : Option Value) (S S' : Sg) : Prop :=
  Met l y (WS y bytes maxL ret) (rmk fr lo) (va_Pc cargs (Wc D cy L sh n bA S)) (xQ D cy L sh n bA v S') 0 0 (AL L n)
theorem Cst.go {D : va_G} {cy : Nat → ClassId} {L : Nat → Nat} {n bA : Nat} {s U : State} {H0 H : Heap} {locs : List Loc} (h : Cst D cy L n bA s H0) (hW : s.WarmedH U.vm) (hS : va_S (AL L n) H0 H locs) : Cst D cy L n bA U H := by
  obtain ⟨h1, h2, h3, h4, h5⟩ := h
  exact ⟨va_K.moved hW.alike h1, h2, h3.warm hW, (h4.moved hW.alike).kept (fun a ha hn => hS.2.1 a ha hn), (h5.moved hW.alike).kept (fun a ha hn => hS.2.1 a ha hn)⟩
section XR
variable {p : Program} {l : Launch} {e : Env} {R : Room} {s : State} {m : MethodId} {args : Array Value} {below : List Frame} {meth : Method} {c : Code} {H : Heap} {locs : List Loc} {cells slots : Nat} {Q : State → Prop}
variable {cc : ByteArray} {pc : Nat} {ls : Array Slot} {rest : List Value} {own : String} {D : va_G} {cy : Nat → ClassId} {L : Nat → Nat} {sh : Nat → Dsc} {n bA : Nat} {S : Sg}
/-- where a method stands: the machine, its code, its class, the words -/
def En (p : Program) (m : MethodId) (c : Code) (cc : ByteArray) (nL : Nat) (s : State) (args : Array Value) (own : String) : Prop := CallFix p m c cc nL s args tb own
/-- a field's words -/
def FL (own : String) (index ci j : Nat) (C : String) (T : u_T) (N : Nat) : Prop := vwCl[ci]? = some (C, T, N) ∧ (∀ w ∈ u_ws C T N, w ∈ tb) ∧ j < N ∧ Cond.fieldLink own index (T j).1 (T j).2.1 (T j).2.2.1 ∈ tb
def PL (T : u_T) (N j : Nat) (ty : FieldType) : Prop := (∃ ty0 : Nat → FieldType, ∀ k, k < N → parseFieldDescriptor (T k).2.2.1 = some (ty0 k)) ∧ (∀ a, a < N → ∀ b, b < N → a ≠ b → (T a).2.1 ≠ (T b).2.1) ∧ (T j).2.2.2 = false ∧ parseFieldDescriptor (T j).2.2.1 = some ty
theorem x_geti {nL index ci j k N : Nat} {C : String} {T : u_T} {fds : List (Option Nat)} (E : En p m c cc nL s args own) (hC : Cst D cy L n bA s s.heap) (hW : Wd D cy L sh n S s H locs) (F : FL own index ci j C T N) (hk : k < n) (hs : sh k = .inl (ci, fds)) (hf : fds[j]? = some none) (hdg : decode cc pc = .ok (.getfield index, 3))
    (kk : W p l e R s m args below meth c H locs cells slots Q (F0 m (pc + 3) ls (.int (S.1 k j) :: rest))) : W p l e R s m args below meth c H locs cells slots Q (F0 m pc ls (.ref (L k) :: rest)) := by
  obtain ⟨hx, hb, -, hown, hts⟩ := E
  obtain ⟨f1, f2, f3, f4⟩ := F
  have he := wl_get (cy := cy) (L := L) (sh := sh) (S := S) hk
  rw [hs] at he
  refine va_get (v := .int (S.1 k j)) hx hb hts f2 hown hC.1 hW.1 k he f1 j f3 (hts _ f4) (fun _ h => h) ?_ hdg kk
  show (mkF L (S.1 k) 0 fds)[j]? = _
  rw [mkF_get, hf]
  simp
theorem x_getr {nL index ci j k N k' : Nat} {C : String} {T : u_T} {fds : List (Option Nat)} (E : En p m c cc nL s args own) (hC : Cst D cy L n bA s s.heap) (hW : Wd D cy L sh n S s H locs) (F : FL own index ci j C T N) (hk : k < n) (hs : sh k = .inl (ci, fds)) (hf : fds[j]? = some (some k')) (hdg : decode cc pc = .ok (.getfield index, 3))
    (kk : W p l e R s m args below meth c H locs cells slots Q (F0 m (pc + 3) ls (.ref (L k') :: rest))) : W p l e R s m args below meth c H locs cells slots Q (F0 m pc ls (.ref (L k) :: rest)) := by
  obtain ⟨hx, hb, -, hown, hts⟩ := E
  obtain ⟨f1, f2, f3, f4⟩ := F
  have he := wl_get (cy := cy) (L := L) (sh := sh) (S := S) hk
  rw [hs] at he
  refine va_get (v := .ref (L k')) hx hb hts f2 hown hC.1 hW.1 k he f1 j f3 (hts _ f4) (fun _ h => h) ?_ hdg kk
  show (mkF L (S.1 k) 0 fds)[j]? = _
  rw [mkF_get, hf]
  simp
theorem x_put {nL index ci j k N : Nat} {C : String} {T : u_T} {fds : List (Option Nat)} {v : Int32} {ty : FieldType} (E : En p m c cc nL s args own) (hC : Cst D cy L n bA s s.heap) (hW : Wd D cy L sh n S s H locs) (F : FL own index ci j C T N) (G : PL T N j ty) (hk : k < n) (hs : sh k = .inl (ci, fds)) (hf : fds[j]? = some none) (hn : narrow ty (.int v) = .int v) (hfit : fits ty (.int v) = true) (hdg : decode cc pc = .ok (.putfield index, 3))
    (kk : ∀ (H1 : Heap) (locs1 : List Loc), Wd D cy L sh n (si S k j v) s H1 locs1 → W p l e R s m args below meth c H1 locs1 cells slots Q (F0 m (pc + 3) ls rest)) : W p l e R s m args below meth c H locs cells slots Q (F0 m pc ls (.int v :: .ref (L k) :: rest)) := by
  obtain ⟨hx, hb, -, hown, hts⟩ := E
  obtain ⟨f1, f2, f3, f4⟩ := F
  obtain ⟨⟨ty0, g1⟩, g2, g3, g4⟩ := G
  have he := wl_get (cy := cy) (L := L) (sh := sh) (S := S) hk
  rw [hs] at he
  have hj : j < fds.length := (List.getElem?_eq_some_iff.mp hf).1
  refine va_put (v := .int v) (ty := ty) hx hb hts f2 ty0 g1 g2 hown hC.1 hW.1 (wl_D hC.2.1) hW.2 k he f1 j f3 (hts _ f4) (fun _ h => h) g3 g4 hn hfit (by rw [mkF_len]; exact hj) hdg (fun H1 locs1 hP hD hS => kk H1 locs1 ⟨?_, hS⟩)
  rw [mkF_set fds j hf, wl_set (S' := si S k j v) hk (by rw [hs]; simp [mkE, si]) (fun a ha => by simp [si, ha])] at hP
  exact hP
theorem x_iald {nL k len : Nat} {i : Int32} (E : En p m c cc nL s args own) (hC : Cst D cy L n bA s s.heap) (hW : Wd D cy L sh n S s H locs) (hk : k < n) (hs : sh k = .inr (.inl (0, len))) (hi : vp_in i len) (hdg : decode cc pc = .ok (.iaload, 1))
    (kk : W p l e R s m args below meth c H locs cells slots Q (F0 m (pc + 1) ls (.int (S.1 k i.toNatClampNeg) :: rest))) : W p l e R s m args below meth c H locs cells slots Q (F0 m pc ls (.int i :: .ref (L k) :: rest)) := by
  have he := wl_get (cy := cy) (L := L) (sh := sh) (S := S) hk
  rw [hs] at he
  exact va_iald (f := S.1 k) E.1 E.2.1 hC.1 hW.1 k 0 he rfl hi hdg kk
theorem x_zald {nL k len : Nat} {i : Int32} (E : En p m c cc nL s args own) (hC : Cst D cy L n bA s s.heap) (hW : Wd D cy L sh n S s H locs) (hk : k < n) (hs : sh k = .inr (.inl (2, len))) (hi : vp_in i len) (hdg : decode cc pc = .ok (.baload, 1))
    (kk : W p l e R s m args below meth c H locs cells slots Q (F0 m (pc + 1) ls (.int (S.1 k i.toNatClampNeg) :: rest))) : W p l e R s m args below meth c H locs cells slots Q (F0 m pc ls (.int i :: .ref (L k) :: rest)) := by
  have he := wl_get (cy := cy) (L := L) (sh := sh) (S := S) hk
  rw [hs] at he
  exact va_zald (f := S.1 k) E.1 E.2.1 hC.1 hW.1 k 2 he rfl hi hdg kk
theorem x_lald {nL k len : Nat} {i : Int32} (E : En p m c cc nL s args own) (hC : Cst D cy L n bA s s.heap) (hW : Wd D cy L sh n S s H locs) (hk : k < n) (hs : sh k = .inr (.inl (1, len))) (hi : vp_in i len) (hdg : decode cc pc = .ok (.laload, 1))
    (kk : W p l e R s m args below meth c H locs cells slots Q (F0 m (pc + 1) ls (.long (S.2 k i.toNatClampNeg) :: rest))) : W p l e R s m args below meth c H locs cells slots Q (F0 m pc ls (.int i :: .ref (L k) :: rest)) := by
  have he := wl_get (cy := cy) (L := L) (sh := sh) (S := S) hk
  rw [hs] at he
  exact va_lald (f := S.2 k) E.1 E.2.1 hC.1 hW.1 k 1 he rfl hi hdg kk
theorem x_iast {nL k len : Nat} {i x : Int32} (E : En p m c cc nL s args own) (hC : Cst D cy L n bA s s.heap) (hW : Wd D cy L sh n S s H locs) (hk : k < n) (hs : sh k = .inr (.inl (0, len))) (hi : vp_in i len) (hdg : decode cc pc = .ok (.iastore, 1))
    (kk : ∀ (H1 : Heap) (locs1 : List Loc), Wd D cy L sh n (si S k i.toNatClampNeg x) s H1 locs1 → W p l e R s m args below meth c H1 locs1 cells slots Q (F0 m (pc + 1) ls rest)) : W p l e R s m args below meth c H locs cells slots Q (F0 m pc ls (.int x :: .int i :: .ref (L k) :: rest)) := by
  have he := wl_get (cy := cy) (L := L) (sh := sh) (S := S) hk
  rw [hs] at he
  refine va_iast (f := S.1 k) E.1 E.2.1 hC.1 hW.1 (wl_D hC.2.1) hW.2 k 0 he rfl hi hdg (fun H1 locs1 hP hD hS => kk H1 locs1 ⟨?_, hS⟩)
  rw [wl_set (S' := si S k i.toNatClampNeg x) hk (by rw [hs]; simp [mkE, si]) (fun a ha => by simp [si, ha])] at hP
  exact hP
def zb (x : Int32) : Int32 := vp_nar .boolean x
theorem x_zast {nL k len : Nat} {i x : Int32} (E : En p m c cc nL s args own) (hC : Cst D cy L n bA s s.heap) (hW : Wd D cy L sh n S s H locs) (hk : k < n) (hs : sh k = .inr (.inl (2, len))) (hi : vp_in i len) (hdg : decode cc pc = .ok (.bastore, 1))
    (kk : ∀ (H1 : Heap) (locs1 : List Loc), Wd D cy L sh n (si S k i.toNatClampNeg (zb x)) s H1 locs1 → W p l e R s m args below meth c H1 locs1 cells slots Q (F0 m (pc + 1) ls rest)) : W p l e R s m args below meth c H locs cells slots Q (F0 m pc ls (.int x :: .int i :: .ref (L k) :: rest)) := by
  have he := wl_get (cy := cy) (L := L) (sh := sh) (S := S) hk
  rw [hs] at he
  refine va_zast (f := S.1 k) E.1 E.2.1 hC.1 hW.1 (wl_D hC.2.1) hW.2 k 2 he rfl hi hdg (fun H1 locs1 hP hD hS => kk H1 locs1 ⟨?_, hS⟩)
  rw [wl_set (S' := si S k i.toNatClampNeg (zb x)) hk (by rw [hs]; simp [mkE, si, zb]) (fun a ha => by simp [si, ha])] at hP
  exact hP
theorem x_last {nL k len : Nat} {i : Int32} {x : Int64} (E : En p m c cc nL s args own) (hC : Cst D cy L n bA s s.heap) (hW : Wd D cy L sh n S s H locs) (hk : k < n) (hs : sh k = .inr (.inl (1, len))) (hi : vp_in i len) (hdg : decode cc pc = .ok (.lastore, 1))
    (kk : ∀ (H1 : Heap) (locs1 : List Loc), Wd D cy L sh n (sl S k i.toNatClampNeg x) s H1 locs1 → W p l e R s m args below meth c H1 locs1 cells slots Q (F0 m (pc + 1) ls rest)) : W p l e R s m args below meth c H locs cells slots Q (F0 m pc ls (.long x :: .int i :: .ref (L k) :: rest)) := by
  have he := wl_get (cy := cy) (L := L) (sh := sh) (S := S) hk
  rw [hs] at he
  refine va_last (f := S.2 k) E.1 E.2.1 hC.1 hW.1 (wl_D hC.2.1) hW.2 k 1 he rfl hi hdg (fun H1 locs1 hP hD hS => kk H1 locs1 ⟨?_, hS⟩)
  rw [wl_set (S' := sl S k i.toNatClampNeg x) hk (by rw [hs]; simp [mkE, sl]) (fun a ha => by simp [sl, ha])] at hP
  exact hP
theorem x_aald {nL k len t b : Nat} {i : Int32} {C : String} (E : En p m c cc nL s args own) (hC : Cst D cy L n bA s s.heap) (hW : Wd D cy L sh n S s H locs) (hk : k < n) (hs : sh k = .inr (.inr (t, len, b))) (ht : (tyl cy)[t]? = some (cy t, .object C)) (hi : vp_in i len) (hdg : decode cc pc = .ok (.aaload, 1))
    (kk : W p l e R s m args below meth c H locs cells slots Q (F0 m (pc + 1) ls (.ref (L (b + 2 * i.toNatClampNeg)) :: rest))) : W p l e R s m args below meth c H locs cells slots Q (F0 m pc ls (.int i :: .ref (L k) :: rest)) := by
  have he := wl_get (cy := cy) (L := L) (sh := sh) (S := S) hk
  rw [hs] at he
  exact va_aldq (f := fun i => some (L (b + 2 * i))) E.1 E.2.1 hC.1 hW.1 k t he ht hi hdg kk
theorem x_alen {nL k t len : Nat} {v : Int32} (E : En p m c cc nL s args own) (hC : Cst D cy L n bA s s.heap) (hW : Wd D cy L sh n S s H locs) (hk : k < n) (hs : sh k = .inr (.inl (t, len))) (ht : t < 3) (hv : Int32.ofNat len = v) (hdg : decode cc pc = .ok (.arraylength, 1))
    (kk : W p l e R s m args below meth c H locs cells slots Q (F0 m (pc + 1) ls (.int v :: rest))) : W p l e R s m args below meth c H locs cells slots Q (F0 m pc ls (.ref (L k) :: rest)) := by
  have he := wl_get (cy := cy) (L := L) (sh := sh) (S := S) hk
  rw [hs] at he
  rcases (show t = 0 ∨ t = 1 ∨ t = 2 by omega) with rfl | rfl | rfl
  · exact va_alen E.1 E.2.1 hC.1 hW.1 k 0 he rfl hv hdg kk
  · exact va_alen E.1 E.2.1 hC.1 hW.1 k 1 he rfl hv hdg kk
  · exact va_alen E.1 E.2.1 hC.1 hW.1 k 2 he rfl hv hdg kk
end XR
end
section
/-! a method's entry and end, calls, the static table, copies -/
/-- an instance call's words: (own, index) names y; its code stands in the words -/
def CV (own : String) (index : Nat) (C : String) (y : MethodName) (bytes : ByteArray) (maxL : Nat) (ret : Option FieldType) (nn : Nat) : Prop :=
  GoodIn tb (wsV own index C y (WS y bytes maxL ret)) ∧ (y.cls = C ∧ y.cls ≠ "java/lang/invoke/MethodHandle" ∧ y.cls ≠ "java/lang/invoke/VarHandle" ∧ (parseMethodDescriptor y.desc).map (fun d => d.parameters.length) = some nn)
def CS (own : String) (index : Nat) (y : MethodName) (bytes : ByteArray) (maxL : Nat) (ret : Option FieldType) (nn : Nat) : Prop :=
  GoodIn tb (va_wsS own index y (WS y bytes maxL ret)) ∧ (y.cls ≠ "java/lang/invoke/MethodHandle" ∧ y.cls ≠ "java/lang/invoke/VarHandle" ∧ (parseMethodDescriptor y.desc).map (fun d => d.parameters.length) = some nn)
def CN (own : String) (index : Nat) (y : MethodName) (bytes : ByteArray) (maxL : Nat) (ret : Option FieldType) (nn : Nat) : Prop :=
  (own, index, y) ∈ nests ∧ GoodIn tb (WS y bytes maxL ret) ∧ Cond.static y ∈ tb ∧ Cond.initialized y.cls ∈ tb ∧ (y.cls ≠ "java/lang/invoke/MethodHandle" ∧ y.cls ≠ "java/lang/invoke/VarHandle" ∧ (parseMethodDescriptor y.desc).map (fun d => d.parameters.length) = some nn)
theorem ws_good {y : MethodName} {bytes : ByteArray} {maxL : Nat} {ret : Option FieldType} (h : Cond.code y bytes maxL ret ∈ tb) : GoodIn tb (WS y bytes maxL ret) := by
  intro w hw
  rcases List.mem_cons.mp hw with rfl | hw
  · exact tb_goodIn _ h
  · exact tb_goodIn w hw
theorem cv_good {own : String} {index : Nat} {C : String} {y : MethodName} {bytes : ByteArray} {maxL : Nat} {ret : Option FieldType} (h1 : Cond.methodLink own index y ∈ tb) (h2 : Cond.instanceMethod y ∈ tb) (h3 : Cond.selects C y y ∈ tb) (h4 : Cond.initialized C ∈ tb) (h5 : Cond.code y bytes maxL ret ∈ tb) : GoodIn tb (wsV own index C y (WS y bytes maxL ret)) := by
  intro w hw
  rcases List.mem_append.mp hw with hw | hw
  · simp only [List.mem_cons, List.not_mem_nil, or_false] at hw
    rcases hw with rfl | rfl | rfl | rfl
    · exact tb_goodIn _ h1
    · exact tb_goodIn _ h2
    · exact tb_goodIn _ h3
    · exact tb_goodIn _ h4
  · exact ws_good h5 w hw
theorem cs_good {own : String} {index : Nat} {y : MethodName} {bytes : ByteArray} {maxL : Nat} {ret : Option FieldType} (h1 : Cond.methodLink own index y ∈ tb) (h2 : Cond.static y ∈ tb) (h4 : Cond.initialized y.cls ∈ tb) (h5 : Cond.code y bytes maxL ret ∈ tb) : GoodIn tb (va_wsS own index y (WS y bytes maxL ret)) := by
  intro w hw
  rcases List.mem_append.mp hw with hw | hw
  · simp only [List.mem_cons, List.not_mem_nil, or_false] at hw
    rcases hw with rfl | rfl | rfl
    · exact tb_goodIn _ h1
    · exact tb_goodIn _ h2
    · exact tb_goodIn _ h4
  · exact ws_good h5 w hw
section XC
variable {p : Program} {l : Launch} {e : Env} {R : Room} {s : State} {m : MethodId} {args : Array Value} {below : List Frame} {meth : Method} {c : Code} {H : Heap} {locs : List Loc} {cells slots : Nat} {Q : State → Prop}
variable {cc : ByteArray} {pc : Nat} {ls : Array Slot} {rest st0 : List Value} {own : String} {D : va_G} {cy : Nat → ClassId} {L : Nat → Nat} {sh : Nat → Dsc} {n bA : Nat} {S S' : Sg}
theorem x_blind {cargs : List Value} : FrameBlind (va_Pc cargs (Wc D cy L sh n bA S)) := by
  intro a U g mk h
  obtain ⟨h1, h2, h3, h4, h5, h6, h7⟩ := h
  have hA : U.vm.Alike (U.calling g mk a).vm := Vm.Alike.refl U.vm
  exact ⟨h1, h2, va_K.moved hA h3, h4, fun q hq => va_Nw.same rfl rfl (h5 q hq), h6.moved hA, h7.moved hA⟩
theorem x_back {v : Option Value} {a : Array Value} (hr : va_Run p l e R s m args below meth c H locs cells slots 0 0 (F0 m pc ls st0) rest (xQ D cy L sh n bA v S' a) (AL L n)) (hW : Wd D cy L sh n S s H locs)
    (kk : ∀ (H1 : Heap) (locs1 : List Loc), Wd D cy L sh n S' s H1 locs1 → W p l e R s m args below meth c H1 locs1 cells slots Q (F0 m (pc + 3) ls (v.toList ++ rest))) : W p l e R s m args below meth c H locs cells slots Q (F0 m pc ls st0) := by
  intro T hT X
  obtain ⟨v', st₀, t, T', L', h0, X', hL, e1, e2, ⟨hv, ⟨hP, hC⟩, hz, hk⟩, st⟩ := hr T hT X
  cases hv
  rw [h0] at hz hk
  have hS := hW.2
  obtain ⟨t2, a1, b1⟩ := kk T'.heap (locs ++ L') ⟨by rw [e1]; exact hP, Nat.le_trans hS.1 (by rw [e1]; exact hz), fun q h1 h2 => by rw [e1, hk q (Nat.lt_of_lt_of_le h1 hS.1) h2]; exact hS.2.1 q h1 h2, fun q hq => by
      rcases List.mem_append.mp hq with h | h
      · exact hS.2.2 q h
      · exact hL q h⟩ T' rfl X'
  exact ⟨t2, st t2 a1, b1⟩
theorem x_V {nL index ci k nn fr lo maxL N : Nat} {C : String} {T : u_T} {fds : List (Option Nat)} {y : MethodName} {bytes : ByteArray} {ret : Option FieldType} {As : List Value} {v : Option Value} (E : En p m c cc nL s args own) (hC : Cst D cy L n bA s s.heap) (hW : Wd D cy L sh n S s H locs) (hl : ls.size = nL)
    (hM : MetX l D cy L sh n bA y bytes maxL ret fr lo (.ref (L k) :: As) v S S') (V : CV own index C y bytes maxL ret nn) (hcl : vwCl[ci]? = some (C, T, N)) (hk : k < n) (hs : sh k = .inl (ci, fds)) (hn : As.length = nn) (hst : st0 = As.reverse ++ .ref (L k) :: rest) (hR : fr + 1 ≤ R.frames ∧ 8 + (maxL + 11) + lo ≤ R.locals) (hcs : cells ≤ R.cells ∧ slots ≤ R.slots)
    (hrm : (rest.map fun v => v.category).sum ≤ 8) (hdg : decode cc pc = .ok (.invokevirtual index, 3))
    (kk : ∀ (H1 : Heap) (locs1 : List Loc), Wd D cy L sh n S' s H1 locs1 → W p l e R s m args below meth c H1 locs1 cells slots Q (F0 m (pc + 3) ls (v.toList ++ rest))) : W p l e R s m args below meth c H locs cells slots Q (F0 m pc ls st0) := by
  have he := wl_get (cy := cy) (L := L) (sh := sh) (S := S) hk
  rw [hs] at he
  refine x_back (va_runV (g := F0 m pc ls st0) (As := As) (rest := rest) (b := L k) E hM (cwV nn E.2.2.2.2 V.1 rfl rfl rfl V.2 hR) ⟨x_blind, va_recv hC.1 hW.1 hcl he, fun U hU hWm => ⟨rfl, by rw [hU]; exact hW.1, ?_⟩⟩ rfl hn hl hst (lv_room hrm) hdg hcs) hW kk
  rw [hU]
  exact hC.go hWm hW.2
theorem x_S {nL index nn fr lo maxL : Nat} {y : MethodName} {bytes : ByteArray} {ret : Option FieldType} {As : List Value} {v : Option Value} (E : En p m c cc nL s args own) (hC : Cst D cy L n bA s s.heap) (hW : Wd D cy L sh n S s H locs) (hl : ls.size = nL)
    (hM : MetX l D cy L sh n bA y bytes maxL ret fr lo As v S S') (V : CS own index y bytes maxL ret nn) (hn : As.length = nn) (hst : st0 = As.reverse ++ rest) (hR : fr + 1 ≤ R.frames ∧ 8 + (maxL + 11) + lo ≤ R.locals) (hcs : cells ≤ R.cells ∧ slots ≤ R.slots)
    (hrm : (rest.map fun v => v.category).sum ≤ 8) (hdg : decode cc pc = .ok (.invokestatic index, 3))
    (kk : ∀ (H1 : Heap) (locs1 : List Loc), Wd D cy L sh n S' s H1 locs1 → W p l e R s m args below meth c H1 locs1 cells slots Q (F0 m (pc + 3) ls (v.toList ++ rest))) : W p l e R s m args below meth c H locs cells slots Q (F0 m pc ls st0) := by
  refine x_back (va_runS (g := F0 m pc ls st0) (As := As) (rest := rest) E hM (va_cwS nn E.2.2.2.2 V.1 rfl rfl rfl V.2 hR) ⟨x_blind, fun U hU hWm => ⟨rfl, by rw [hU]; exact hW.1, ?_⟩⟩ rfl hn hl hst (lv_room hrm) hdg hcs) hW kk
  rw [hU]
  exact hC.go hWm hW.2
theorem x_N {nL index nn fr lo maxL : Nat} {y : MethodName} {bytes : ByteArray} {ret : Option FieldType} {As : List Value} {v : Option Value} (E : En p m c cc nL s args own) (hC : Cst D cy L n bA s s.heap) (hW : Wd D cy L sh n S s H locs) (hl : ls.size = nL)
    (hM : MetX l D cy L sh n bA y bytes maxL ret fr lo As v S S') (V : CN own index y bytes maxL ret nn) (hn : As.length = nn) (hst : st0 = As.reverse ++ rest) (hR : fr + 1 ≤ R.frames ∧ 8 + (maxL + 11) + lo ≤ R.locals) (hcs : cells ≤ R.cells ∧ slots ≤ R.slots)
    (hrm : (rest.map fun v => v.category).sum ≤ 8) (hdg : decode cc pc = .ok (.invokestatic index, 3))
    (kk : ∀ (H1 : Heap) (locs1 : List Loc), Wd D cy L sh n S' s H1 locs1 → W p l e R s m args below meth c H1 locs1 cells slots Q (F0 m (pc + 3) ls (v.toList ++ rest))) : W p l e R s m args below meth c H locs cells slots Q (F0 m pc ls st0) := by
  obtain ⟨v1, v2, v3, v4, v5⟩ := V
  have hts := E.2.2.2.2
  refine x_back (va_runSN (host := "PairsStand") (g := F0 m pc ls st0) (As := As) (rest := rest) E hM ⟨va_cnB nn hts v2 rfl rfl rfl (hC.2.2.1 _ v1) (hts _ v4) v5 hR, hts _ v3, trivial⟩ ⟨x_blind, fun U hU hWm => ⟨rfl, by rw [hU]; exact hW.1, ?_⟩⟩ rfl hn hl hst (lv_room hrm) hdg hcs) hW kk
  rw [hU]
  exact hC.go hWm hW.2
theorem x_q {v : Option Value} (hC : Cst D cy L n bA s s.heap) (hW : Wd D cy L sh n S s H locs) : ∀ t : State, t.heap = H → s.WarmedH t.vm → xQ D cy L sh n bA v S args s (.returned v) t :=
  fun t ht hWm => ⟨rfl, ⟨by rw [ht]; exact hW.1, by rw [ht]; exact hC.go hWm hW.2⟩, hW.2.F ht⟩
/-- a method's body, from its entry; its end by 'ret' -/
theorem x_met {y : MethodName} {maxL fr lo : Nat} {ret : Option FieldType} {vs : List Value} {v : Option Value} (hy : plainName y.cls = true) (hown : y.cls = own) (hlen : (lg_sl vs).length ≤ maxL)
    (body : ∀ (p : Program) (e : Env) (s : State) (m : MethodId) (below : List Frame) (meth : Method) (c : Code) (ls : Array Slot), En p m c cc maxL s vs.toArray own → Cst D cy L n bA s s.heap → meth.sig.returnType = ret → meth.locks = false → lv_has ls maxL (lv_args 0 vs) → Wd D cy L sh n S s s.heap [] →
      W p l e (rmk fr lo) s m vs.toArray below meth c s.heap [] 0 0 (MQ below (xQ D cy L sh n bA v S') vs.toArray s 0 0 (AL L n)) (F0 m 0 ls [])) : MetX l D cy L sh n bA y cc maxL ret fr lo vs v S S' := by
  refine Met.ofW (cc := cc) (maxL := maxL) (ret := ret) hy rfl ?_
  intro p e s m args below meth c s₁ B hml hv
  obtain ⟨rfl, hP, hC⟩ := hv
  have hts := atoms_spec (ws := WS y cc maxL ret) B.pre
  have ho : s.vm.findClass own = some m.cls := by rw [← hown]; exact findClass_of_methodNamed B.named
  rw [lg_entry_eq]
  exact body p e s m below meth c _ ⟨B.exec, B.bytes, hml, ho, fun w hw => hts w (List.mem_cons_of_mem _ hw)⟩ hC B.returns B.notSynchronized (lv_entry vs hlen) ⟨hP, va_S.rf⟩
theorem x_iret {nL : Nat} {x : Int32} (E : En p m c cc nL s args own) (hC : Cst D cy L n bA s s.heap) (hW : Wd D cy L sh n S' s H locs) (hr : meth.sig.returnType = some .int) (hk : meth.locks = false) (hdg : decode cc pc = .ok (.ireturn, 1)) : W p l e R s m args below meth c H locs 0 0 (MQ below (xQ D cy L sh n bA (some (.int x)) S') args s 0 0 (AL L n)) (F0 m pc ls [.int x]) :=
  W.iret E.1 E.2.1 hr (x_q hC hW) hW.2.2.2 hdg hk
def isB (x : Int32) : Bool := x == 0 || x == 1
theorem isB_cases {x : Int32} (h : isB x = true) : x = 0 ∨ x = 1 := by
  simpa [isB] using h
theorem isB_narrow {x : Int32} (h : isB x = true) : narrow .boolean (.int x) = .int x := by
  rcases isB_cases h with rfl | rfl <;> decide +kernel
theorem isB_fits {x : Int32} (h : isB x = true) : fits .boolean (.int x) = true := by
  rcases isB_cases h with rfl | rfl <;> decide +kernel
theorem x_zret {nL : Nat} {x : Int32} (E : En p m c cc nL s args own) (hC : Cst D cy L n bA s s.heap) (hW : Wd D cy L sh n S' s H locs) (hr : meth.sig.returnType = some .boolean) (hk : meth.locks = false) (hx : isB x = true) (hdg : decode cc pc = .ok (.ireturn, 1)) : W p l e R s m args below meth c H locs 0 0 (MQ below (xQ D cy L sh n bA (some (.int x)) S') args s 0 0 (AL L n)) (F0 m pc ls [.int x]) :=
  W.zret E.1 E.2.1 hr (isB_narrow hx) (x_q hC hW) hW.2.2.2 hdg hk
theorem x_lret {nL : Nat} {x : Int64} (E : En p m c cc nL s args own) (hC : Cst D cy L n bA s s.heap) (hW : Wd D cy L sh n S' s H locs) (hr : meth.sig.returnType = some .long) (hk : meth.locks = false) (hdg : decode cc pc = .ok (.lreturn, 1)) : W p l e R s m args below meth c H locs 0 0 (MQ below (xQ D cy L sh n bA (some (.long x)) S') args s 0 0 (AL L n)) (F0 m pc ls [.long x]) :=
  W.lret E.1 E.2.1 hr (x_q hC hW) hW.2.2.2 hdg hk
theorem x_vret {nL : Nat} (E : En p m c cc nL s args own) (hC : Cst D cy L n bA s s.heap) (hW : Wd D cy L sh n S' s H locs) (hr : meth.sig.returnType = none) (hk : meth.locks = false) (hdg : decode cc pc = .ok (.return_, 1)) : W p l e R s m args below meth c H locs 0 0 (MQ below (xQ D cy L sh n bA none S') args s 0 0 (AL L n)) (F0 m pc ls []) :=
  W.vret E.1 E.2.1 hr (x_q hC hW) hW.2.2.2 hdg hk
theorem x_gets {nL index : Nat} (E : En p m c cc nL s args own) (hC : Cst D cy L n bA s s.heap) (hW : Wd D cy L sh n S s H locs) (hl : Cond.fieldLink own index "PairsStand" "ABOVE" "[I" ∈ tb) (hdg : decode cc pc = .ok (.getstatic index, 3))
    (kk : W p l e R s m args below meth c H locs cells slots Q (F0 m (pc + 3) ls (.ref bA :: rest))) : W p l e R s m args below meth c H locs cells slots Q (F0 m pc ls rest) :=
  va_gets E.1 E.2.1 hC.2.2.2.1 hW.2 E.2.2.2.1 (E.2.2.2.2 _ hl) (fun _ h => h) hdg kk
theorem x_tlen {nL : Nat} (E : En p m c cc nL s args own) (hC : Cst D cy L n bA s s.heap) (hW : Wd D cy L sh n S s H locs) (hdg : decode cc pc = .ok (.arraylength, 1))
    (kk : W p l e R s m args below meth c H locs cells slots Q (F0 m (pc + 1) ls (.int 6 :: rest))) : W p l e R s m args below meth c H locs cells slots Q (F0 m pc ls (.ref bA :: rest)) :=
  va_tlen E.1 E.2.1 hC.2.2.2.2 hW.2 (by decide +kernel) hdg kk
def aboveAt (j : Nat) : Int32 := ([-1, 0, 0, 1, 2, 0] : List Int32).getD j 0
theorem x_ti {nL : Nat} {i : Int32} (E : En p m c cc nL s args own) (hC : Cst D cy L n bA s s.heap) (hW : Wd D cy L sh n S s H locs) (hi : vp_in i 6) (hdg : decode cc pc = .ok (.iaload, 1))
    (kk : W p l e R s m args below meth c H locs cells slots Q (F0 m (pc + 1) ls (.int (aboveAt i.toNatClampNeg) :: rest))) : W p l e R s m args below meth c H locs cells slots Q (F0 m pc ls (.int i :: .ref bA :: rest)) :=
  va_ti E.1 E.2.1 hC.2.2.2.2 hW.2 hi rfl hdg kk
def cpI (S : Sg) (k0 k1 N : Nat) : Sg := (fun a => if a = k1 then va_cpy (S.1 k0) (S.1 k1) 0 0 N else S.1 a, S.2)
def cpL (S : Sg) (k0 k1 N : Nat) : Sg := (S.1, fun a => if a = k1 then va_cpy (S.2 k0) (S.2 k1) 0 0 N else S.2 a)
/-- the words of a copy -/
def CP (own : String) (index : Nat) : Prop := Cond.methodLink own index arraycopyName ∈ tb ∧ Cond.native arraycopyName ∈ tb ∧ Cond.static arraycopyName ∈ tb ∧ Cond.initialized "java/lang/System" ∈ tb
theorem x_copyi {nL index k0 k1 len : Nat} {N : Int32} (E : En p m c cc nL s args own) (hC : Cst D cy L n bA s s.heap) (hW : Wd D cy L sh n S s H locs) (hl : ls.size = nL) (V : CP own index) (hk0 : k0 < n) (hs0 : sh k0 = .inr (.inl (0, len))) (hk1 : k1 < n) (hs1 : sh k1 = .inr (.inl (0, len))) (hN : ¬ N < 0) (hN2 : N.toNatClampNeg ≤ len) (hfr : 1 ≤ R.frames) (hlo : (rest.map fun v => v.category).sum + (nativeFrameWords "java/lang/System" "arraycopy" 5 + 11) ≤ R.locals) (hdg : decode cc pc = .ok (.invokestatic index, 3))
    (kk : ∀ (H1 : Heap) (locs1 : List Loc), Wd D cy L sh n (cpI S k0 k1 N.toNatClampNeg) s H1 locs1 → W p l e R s m args below meth c H1 locs1 cells slots Q (F0 m (pc + 3) ls rest)) : W p l e R s m args below meth c H locs cells slots Q (F0 m pc ls (.int N :: .int 0 :: .ref (L k1) :: .int 0 :: .ref (L k0) :: rest)) := by
  obtain ⟨hx, hb, hml, hown, hts⟩ := E
  have he0 := wl_get (cy := cy) (L := L) (sh := sh) (S := S) hk0
  have he1 := wl_get (cy := cy) (L := L) (sh := sh) (S := S) hk1
  rw [hs0] at he0
  rw [hs1] at he1
  have z : (0 : Int32).toNatClampNeg = 0 := by decide +kernel
  refine va_copyi (f := S.1 k0) (g := S.1 k1) (ty := .int) hx hb (hml.trans hl.symm) hown (hts _ V.1) (hts _ V.2.1) (hts _ V.2.2.1) (hts _ V.2.2.2) hC.1 hW.1 (wl_D hC.2.1) hW.2 k0 k1 0 0 he0 he1 rfl rfl rfl (by decide) (by decide) hN (by rw [z, Nat.zero_add]; exact hN2) (by rw [z, Nat.zero_add]; exact hN2) (fun _ _ => rfl) hfr hlo hdg (fun H1 locs1 hP hD hS => kk H1 locs1 ⟨?_, hS⟩)
  rw [wl_set (S' := cpI S k0 k1 N.toNatClampNeg) hk1 (by rw [hs1]; simp [mkE, cpI, z]) (fun a ha => by simp [cpI, ha])] at hP
  exact hP
theorem x_copyl {nL index k0 k1 len : Nat} {N : Int32} (E : En p m c cc nL s args own) (hC : Cst D cy L n bA s s.heap) (hW : Wd D cy L sh n S s H locs) (hl : ls.size = nL) (V : CP own index) (hk0 : k0 < n) (hs0 : sh k0 = .inr (.inl (1, len))) (hk1 : k1 < n) (hs1 : sh k1 = .inr (.inl (1, len))) (hN : ¬ N < 0) (hN2 : N.toNatClampNeg ≤ len) (hfr : 1 ≤ R.frames) (hlo : (rest.map fun v => v.category).sum + (nativeFrameWords "java/lang/System" "arraycopy" 5 + 11) ≤ R.locals) (hdg : decode cc pc = .ok (.invokestatic index, 3))
    (kk : ∀ (H1 : Heap) (locs1 : List Loc), Wd D cy L sh n (cpL S k0 k1 N.toNatClampNeg) s H1 locs1 → W p l e R s m args below meth c H1 locs1 cells slots Q (F0 m (pc + 3) ls rest)) : W p l e R s m args below meth c H locs cells slots Q (F0 m pc ls (.int N :: .int 0 :: .ref (L k1) :: .int 0 :: .ref (L k0) :: rest)) := by
  obtain ⟨hx, hb, hml, hown, hts⟩ := E
  have he0 := wl_get (cy := cy) (L := L) (sh := sh) (S := S) hk0
  have he1 := wl_get (cy := cy) (L := L) (sh := sh) (S := S) hk1
  rw [hs0] at he0
  rw [hs1] at he1
  have z : (0 : Int32).toNatClampNeg = 0 := by decide +kernel
  refine va_copyl (f := S.2 k0) (g := S.2 k1) (ty := .long) hx hb (hml.trans hl.symm) hown (hts _ V.1) (hts _ V.2.1) (hts _ V.2.2.1) (hts _ V.2.2.2) hC.1 hW.1 (wl_D hC.2.1) hW.2 k0 k1 1 1 he0 he1 rfl rfl rfl (by decide) (by decide) hN (by rw [z, Nat.zero_add]; exact hN2) (by rw [z, Nat.zero_add]; exact hN2) (fun _ _ => rfl) hfr hlo hdg (fun H1 locs1 hP hD hS => kk H1 locs1 ⟨?_, hS⟩)
  rw [wl_set (S' := cpL S k0 k1 N.toNatClampNeg) hk1 (by rw [hs1]; simp [mkE, cpL, z]) (fun a ha => by simp [cpL, ha])] at hP
  exact hP
end XC
end
section
/-! the models' words: guards, named values, calls, joins, loops; what a walk takes from them -/
def gd {α : Type} (b : Bool) (k : Option α) : Option α := if b = true then k else none
theorem gdS {α : Type} {b : Bool} {k : Option α} {r : α} (h : gd b k = some r) : b = true ∧ k = some r := by
  cases b with
  | true => exact ⟨rfl, h⟩
  | false => cases h
def bv {α β : Type} (a : α) (k : α → β) : β := k a
theorem bvS {α β : Type} {a : α} {k : α → Option β} {r : β} (h : bv a k = some r) {y : α} (e : y = a) : k y = some r := by subst e; exact h
def cl {α β γ : Type} (o : Option (α × β)) (k : α → β → Option γ) : Option γ := match o with
  | some (a, b) => k a b
  | none => none
theorem clS {α β γ : Type} {o : Option (α × β)} {k : α → β → Option γ} {r : γ} (h : cl o k = some r) : ∃ a b, o = some (a, b) ∧ k a b = some r := by
  match o, h with
  | some (a, b), h => exact ⟨a, b, rfl, h⟩
def cl1 {α γ : Type} (o : Option α) (k : α → Option γ) : Option γ := match o with
  | some a => k a
  | none => none
theorem cl1S {α γ : Type} {o : Option α} {k : α → Option γ} {r : γ} (h : cl1 o k = some r) : ∃ a, o = some a ∧ k a = some r := by
  match o, h with
  | some a, h => exact ⟨a, rfl, h⟩
def jn {α β : Type} (k : α) (b : α → β) : β := b k
theorem jnS {α β : Type} {k : α} {b : α → Option β} {r : β} (h : jn k b = some r) (P : α → Prop) {G : Prop} (hk : P k) (hb : ∀ j, P j → b j = some r → G) : G := hb k hk h
theorem xt {α : Type} {c : Prop} {d : Decidable c} {x y r : α} (h : (if c then x else y) = r) (hc : c) : x = r := by rw [if_pos hc] at h; exact h
theorem xf {α : Type} {c : Prop} {d : Decidable c} {x y r : α} (h : (if c then x else y) = r) (hc : ¬ c) : y = r := by rw [if_neg hc] at h; exact h
def inb (i : Int32) (n : Nat) : Bool := decide (¬ (i < 0 ∨ n ≤ i.toNatClampNeg))
theorem inbS {i : Int32} {n : Nat} (h : inb i n = true) : vp_in i n := of_decide_eq_true (p := ¬ (i < 0 ∨ n ≤ i.toNatClampNeg)) h
def nz (x : Int32) : Bool := decide (¬ x = 0)
theorem nzS {x : Int32} (h : nz x = true) : ¬ x = 0 := of_decide_eq_true h
def nzl (x : Int64) : Bool := decide (¬ x = 0)
theorem nzlS {x : Int64} (h : nzl x = true) : ¬ x = 0 := of_decide_eq_true h
abbrev ix (i : Int32) : Nat := i.toNatClampNeg
def ush (x y : Int32) : Int32 := (x.toUInt32 >>> (y.toUInt32 &&& Int32.toUInt32 31)).toInt32
def lush (x : Int64) (y : Int32) : Int64 := (x.toUInt64 >>> (y.toInt64.toUInt64 &&& Int64.toUInt64 63)).toInt64
def lsh (x : Int64) (y : Int32) : Int64 := x <<< (y.toInt64 &&& 63)
abbrev irm (x y : Int32) : Int32 := x - x / y * y
abbrev lrm (x y : Int64) : Int64 := x - x / y * y
def FU : Nat := 2000
def wp1 {ρ A0 : Type} (F : (A0 → Option ρ) → A0 → Option ρ) : Nat → A0 → Option ρ
  | 0, _ => none
  | n + 1, a0 => F (wp1 F n) a0
theorem wp1s {ρ A0 : Type} (F : (A0 → Option ρ) → A0 → Option ρ) (n : Nat) (a0 : A0) : wp1 F (n + 1) a0 = F (wp1 F n) a0 := rfl
theorem wp1S {ρ A0 : Type} {F : (A0 → Option ρ) → A0 → Option ρ} {r : ρ} (P : A0 → Prop) (hs : ∀ self : A0 → Option ρ, (∀ a0, self a0 = some r → P a0) → ∀ a0, F self a0 = some r → P a0) : ∀ {n : Nat} {a0}, wp1 F n a0 = some r → P a0
  | 0, _, h => by cases h
  | n + 1, _, h => hs (wp1 F n) (fun a0 h => wp1S P hs h) _ h
theorem wp1K {ρ κ A0 : Type} {F : κ → (A0 → Option ρ) → A0 → Option ρ} {k : κ} {r : ρ} {n : Nat} {a0} (h : wp1 (F k) n a0 = some r) (P : A0 → Prop) (Pk : κ → Prop) (hk : Pk k) (hs : ∀ k, Pk k → ∀ self : A0 → Option ρ, (∀ a0, self a0 = some r → P a0) → ∀ a0, F k self a0 = some r → P a0) : P a0 := wp1S P (hs k hk) h
def wp2 {ρ A0 A1 : Type} (F : (A0 → A1 → Option ρ) → A0 → A1 → Option ρ) : Nat → A0 → A1 → Option ρ
  | 0, _, _ => none
  | n + 1, a0, a1 => F (wp2 F n) a0 a1
theorem wp2s {ρ A0 A1 : Type} (F : (A0 → A1 → Option ρ) → A0 → A1 → Option ρ) (n : Nat) (a0 : A0) (a1 : A1) : wp2 F (n + 1) a0 a1 = F (wp2 F n) a0 a1 := rfl
theorem wp2S {ρ A0 A1 : Type} {F : (A0 → A1 → Option ρ) → A0 → A1 → Option ρ} {r : ρ} (P : A0 → A1 → Prop) (hs : ∀ self : A0 → A1 → Option ρ, (∀ a0 a1, self a0 a1 = some r → P a0 a1) → ∀ a0 a1, F self a0 a1 = some r → P a0 a1) : ∀ {n : Nat} {a0 a1}, wp2 F n a0 a1 = some r → P a0 a1
  | 0, _, _, h => by cases h
  | n + 1, _, _, h => hs (wp2 F n) (fun a0 a1 h => wp2S P hs h) _ _ h
theorem wp2K {ρ κ A0 A1 : Type} {F : κ → (A0 → A1 → Option ρ) → A0 → A1 → Option ρ} {k : κ} {r : ρ} {n : Nat} {a0 a1} (h : wp2 (F k) n a0 a1 = some r) (P : A0 → A1 → Prop) (Pk : κ → Prop) (hk : Pk k) (hs : ∀ k, Pk k → ∀ self : A0 → A1 → Option ρ, (∀ a0 a1, self a0 a1 = some r → P a0 a1) → ∀ a0 a1, F k self a0 a1 = some r → P a0 a1) : P a0 a1 := wp2S P (hs k hk) h
def wp3 {ρ A0 A1 A2 : Type} (F : (A0 → A1 → A2 → Option ρ) → A0 → A1 → A2 → Option ρ) : Nat → A0 → A1 → A2 → Option ρ
  | 0, _, _, _ => none
  | n + 1, a0, a1, a2 => F (wp3 F n) a0 a1 a2
theorem wp3s {ρ A0 A1 A2 : Type} (F : (A0 → A1 → A2 → Option ρ) → A0 → A1 → A2 → Option ρ) (n : Nat) (a0 : A0) (a1 : A1) (a2 : A2) : wp3 F (n + 1) a0 a1 a2 = F (wp3 F n) a0 a1 a2 := rfl
theorem wp3S {ρ A0 A1 A2 : Type} {F : (A0 → A1 → A2 → Option ρ) → A0 → A1 → A2 → Option ρ} {r : ρ} (P : A0 → A1 → A2 → Prop) (hs : ∀ self : A0 → A1 → A2 → Option ρ, (∀ a0 a1 a2, self a0 a1 a2 = some r → P a0 a1 a2) → ∀ a0 a1 a2, F self a0 a1 a2 = some r → P a0 a1 a2) : ∀ {n : Nat} {a0 a1 a2}, wp3 F n a0 a1 a2 = some r → P a0 a1 a2
  | 0, _, _, _, h => by cases h
  | n + 1, _, _, _, h => hs (wp3 F n) (fun a0 a1 a2 h => wp3S P hs h) _ _ _ h
theorem wp3K {ρ κ A0 A1 A2 : Type} {F : κ → (A0 → A1 → A2 → Option ρ) → A0 → A1 → A2 → Option ρ} {k : κ} {r : ρ} {n : Nat} {a0 a1 a2} (h : wp3 (F k) n a0 a1 a2 = some r) (P : A0 → A1 → A2 → Prop) (Pk : κ → Prop) (hk : Pk k) (hs : ∀ k, Pk k → ∀ self : A0 → A1 → A2 → Option ρ, (∀ a0 a1 a2, self a0 a1 a2 = some r → P a0 a1 a2) → ∀ a0 a1 a2, F k self a0 a1 a2 = some r → P a0 a1 a2) : P a0 a1 a2 := wp3S P (hs k hk) h
def wp4 {ρ A0 A1 A2 A3 : Type} (F : (A0 → A1 → A2 → A3 → Option ρ) → A0 → A1 → A2 → A3 → Option ρ) : Nat → A0 → A1 → A2 → A3 → Option ρ
  | 0, _, _, _, _ => none
  | n + 1, a0, a1, a2, a3 => F (wp4 F n) a0 a1 a2 a3
theorem wp4s {ρ A0 A1 A2 A3 : Type} (F : (A0 → A1 → A2 → A3 → Option ρ) → A0 → A1 → A2 → A3 → Option ρ) (n : Nat) (a0 : A0) (a1 : A1) (a2 : A2) (a3 : A3) : wp4 F (n + 1) a0 a1 a2 a3 = F (wp4 F n) a0 a1 a2 a3 := rfl
theorem wp4S {ρ A0 A1 A2 A3 : Type} {F : (A0 → A1 → A2 → A3 → Option ρ) → A0 → A1 → A2 → A3 → Option ρ} {r : ρ} (P : A0 → A1 → A2 → A3 → Prop) (hs : ∀ self : A0 → A1 → A2 → A3 → Option ρ, (∀ a0 a1 a2 a3, self a0 a1 a2 a3 = some r → P a0 a1 a2 a3) → ∀ a0 a1 a2 a3, F self a0 a1 a2 a3 = some r → P a0 a1 a2 a3) : ∀ {n : Nat} {a0 a1 a2 a3}, wp4 F n a0 a1 a2 a3 = some r → P a0 a1 a2 a3
  | 0, _, _, _, _, h => by cases h
  | n + 1, _, _, _, _, h => hs (wp4 F n) (fun a0 a1 a2 a3 h => wp4S P hs h) _ _ _ _ h
theorem wp4K {ρ κ A0 A1 A2 A3 : Type} {F : κ → (A0 → A1 → A2 → A3 → Option ρ) → A0 → A1 → A2 → A3 → Option ρ} {k : κ} {r : ρ} {n : Nat} {a0 a1 a2 a3} (h : wp4 (F k) n a0 a1 a2 a3 = some r) (P : A0 → A1 → A2 → A3 → Prop) (Pk : κ → Prop) (hk : Pk k) (hs : ∀ k, Pk k → ∀ self : A0 → A1 → A2 → A3 → Option ρ, (∀ a0 a1 a2 a3, self a0 a1 a2 a3 = some r → P a0 a1 a2 a3) → ∀ a0 a1 a2 a3, F k self a0 a1 a2 a3 = some r → P a0 a1 a2 a3) : P a0 a1 a2 a3 := wp4S P (hs k hk) h
def wp5 {ρ A0 A1 A2 A3 A4 : Type} (F : (A0 → A1 → A2 → A3 → A4 → Option ρ) → A0 → A1 → A2 → A3 → A4 → Option ρ) : Nat → A0 → A1 → A2 → A3 → A4 → Option ρ
  | 0, _, _, _, _, _ => none
  | n + 1, a0, a1, a2, a3, a4 => F (wp5 F n) a0 a1 a2 a3 a4
theorem wp5s {ρ A0 A1 A2 A3 A4 : Type} (F : (A0 → A1 → A2 → A3 → A4 → Option ρ) → A0 → A1 → A2 → A3 → A4 → Option ρ) (n : Nat) (a0 : A0) (a1 : A1) (a2 : A2) (a3 : A3) (a4 : A4) : wp5 F (n + 1) a0 a1 a2 a3 a4 = F (wp5 F n) a0 a1 a2 a3 a4 := rfl
theorem wp5S {ρ A0 A1 A2 A3 A4 : Type} {F : (A0 → A1 → A2 → A3 → A4 → Option ρ) → A0 → A1 → A2 → A3 → A4 → Option ρ} {r : ρ} (P : A0 → A1 → A2 → A3 → A4 → Prop) (hs : ∀ self : A0 → A1 → A2 → A3 → A4 → Option ρ, (∀ a0 a1 a2 a3 a4, self a0 a1 a2 a3 a4 = some r → P a0 a1 a2 a3 a4) → ∀ a0 a1 a2 a3 a4, F self a0 a1 a2 a3 a4 = some r → P a0 a1 a2 a3 a4) : ∀ {n : Nat} {a0 a1 a2 a3 a4}, wp5 F n a0 a1 a2 a3 a4 = some r → P a0 a1 a2 a3 a4
  | 0, _, _, _, _, _, h => by cases h
  | n + 1, _, _, _, _, _, h => hs (wp5 F n) (fun a0 a1 a2 a3 a4 h => wp5S P hs h) _ _ _ _ _ h
theorem wp5K {ρ κ A0 A1 A2 A3 A4 : Type} {F : κ → (A0 → A1 → A2 → A3 → A4 → Option ρ) → A0 → A1 → A2 → A3 → A4 → Option ρ} {k : κ} {r : ρ} {n : Nat} {a0 a1 a2 a3 a4} (h : wp5 (F k) n a0 a1 a2 a3 a4 = some r) (P : A0 → A1 → A2 → A3 → A4 → Prop) (Pk : κ → Prop) (hk : Pk k) (hs : ∀ k, Pk k → ∀ self : A0 → A1 → A2 → A3 → A4 → Option ρ, (∀ a0 a1 a2 a3 a4, self a0 a1 a2 a3 a4 = some r → P a0 a1 a2 a3 a4) → ∀ a0 a1 a2 a3 a4, F k self a0 a1 a2 a3 a4 = some r → P a0 a1 a2 a3 a4) : P a0 a1 a2 a3 a4 := wp5S P (hs k hk) h
def wp6 {ρ A0 A1 A2 A3 A4 A5 : Type} (F : (A0 → A1 → A2 → A3 → A4 → A5 → Option ρ) → A0 → A1 → A2 → A3 → A4 → A5 → Option ρ) : Nat → A0 → A1 → A2 → A3 → A4 → A5 → Option ρ
  | 0, _, _, _, _, _, _ => none
  | n + 1, a0, a1, a2, a3, a4, a5 => F (wp6 F n) a0 a1 a2 a3 a4 a5
theorem wp6s {ρ A0 A1 A2 A3 A4 A5 : Type} (F : (A0 → A1 → A2 → A3 → A4 → A5 → Option ρ) → A0 → A1 → A2 → A3 → A4 → A5 → Option ρ) (n : Nat) (a0 : A0) (a1 : A1) (a2 : A2) (a3 : A3) (a4 : A4) (a5 : A5) : wp6 F (n + 1) a0 a1 a2 a3 a4 a5 = F (wp6 F n) a0 a1 a2 a3 a4 a5 := rfl
theorem wp6S {ρ A0 A1 A2 A3 A4 A5 : Type} {F : (A0 → A1 → A2 → A3 → A4 → A5 → Option ρ) → A0 → A1 → A2 → A3 → A4 → A5 → Option ρ} {r : ρ} (P : A0 → A1 → A2 → A3 → A4 → A5 → Prop) (hs : ∀ self : A0 → A1 → A2 → A3 → A4 → A5 → Option ρ, (∀ a0 a1 a2 a3 a4 a5, self a0 a1 a2 a3 a4 a5 = some r → P a0 a1 a2 a3 a4 a5) → ∀ a0 a1 a2 a3 a4 a5, F self a0 a1 a2 a3 a4 a5 = some r → P a0 a1 a2 a3 a4 a5) : ∀ {n : Nat} {a0 a1 a2 a3 a4 a5}, wp6 F n a0 a1 a2 a3 a4 a5 = some r → P a0 a1 a2 a3 a4 a5
  | 0, _, _, _, _, _, _, h => by cases h
  | n + 1, _, _, _, _, _, _, h => hs (wp6 F n) (fun a0 a1 a2 a3 a4 a5 h => wp6S P hs h) _ _ _ _ _ _ h
theorem wp6K {ρ κ A0 A1 A2 A3 A4 A5 : Type} {F : κ → (A0 → A1 → A2 → A3 → A4 → A5 → Option ρ) → A0 → A1 → A2 → A3 → A4 → A5 → Option ρ} {k : κ} {r : ρ} {n : Nat} {a0 a1 a2 a3 a4 a5} (h : wp6 (F k) n a0 a1 a2 a3 a4 a5 = some r) (P : A0 → A1 → A2 → A3 → A4 → A5 → Prop) (Pk : κ → Prop) (hk : Pk k) (hs : ∀ k, Pk k → ∀ self : A0 → A1 → A2 → A3 → A4 → A5 → Option ρ, (∀ a0 a1 a2 a3 a4 a5, self a0 a1 a2 a3 a4 a5 = some r → P a0 a1 a2 a3 a4 a5) → ∀ a0 a1 a2 a3 a4 a5, F k self a0 a1 a2 a3 a4 a5 = some r → P a0 a1 a2 a3 a4 a5) : P a0 a1 a2 a3 a4 a5 := wp6S P (hs k hk) h
def wp7 {ρ A0 A1 A2 A3 A4 A5 A6 : Type} (F : (A0 → A1 → A2 → A3 → A4 → A5 → A6 → Option ρ) → A0 → A1 → A2 → A3 → A4 → A5 → A6 → Option ρ) : Nat → A0 → A1 → A2 → A3 → A4 → A5 → A6 → Option ρ
  | 0, _, _, _, _, _, _, _ => none
  | n + 1, a0, a1, a2, a3, a4, a5, a6 => F (wp7 F n) a0 a1 a2 a3 a4 a5 a6
theorem wp7s {ρ A0 A1 A2 A3 A4 A5 A6 : Type} (F : (A0 → A1 → A2 → A3 → A4 → A5 → A6 → Option ρ) → A0 → A1 → A2 → A3 → A4 → A5 → A6 → Option ρ) (n : Nat) (a0 : A0) (a1 : A1) (a2 : A2) (a3 : A3) (a4 : A4) (a5 : A5) (a6 : A6) : wp7 F (n + 1) a0 a1 a2 a3 a4 a5 a6 = F (wp7 F n) a0 a1 a2 a3 a4 a5 a6 := rfl
theorem wp7S {ρ A0 A1 A2 A3 A4 A5 A6 : Type} {F : (A0 → A1 → A2 → A3 → A4 → A5 → A6 → Option ρ) → A0 → A1 → A2 → A3 → A4 → A5 → A6 → Option ρ} {r : ρ} (P : A0 → A1 → A2 → A3 → A4 → A5 → A6 → Prop) (hs : ∀ self : A0 → A1 → A2 → A3 → A4 → A5 → A6 → Option ρ, (∀ a0 a1 a2 a3 a4 a5 a6, self a0 a1 a2 a3 a4 a5 a6 = some r → P a0 a1 a2 a3 a4 a5 a6) → ∀ a0 a1 a2 a3 a4 a5 a6, F self a0 a1 a2 a3 a4 a5 a6 = some r → P a0 a1 a2 a3 a4 a5 a6) : ∀ {n : Nat} {a0 a1 a2 a3 a4 a5 a6}, wp7 F n a0 a1 a2 a3 a4 a5 a6 = some r → P a0 a1 a2 a3 a4 a5 a6
  | 0, _, _, _, _, _, _, _, h => by cases h
  | n + 1, _, _, _, _, _, _, _, h => hs (wp7 F n) (fun a0 a1 a2 a3 a4 a5 a6 h => wp7S P hs h) _ _ _ _ _ _ _ h
theorem wp7K {ρ κ A0 A1 A2 A3 A4 A5 A6 : Type} {F : κ → (A0 → A1 → A2 → A3 → A4 → A5 → A6 → Option ρ) → A0 → A1 → A2 → A3 → A4 → A5 → A6 → Option ρ} {k : κ} {r : ρ} {n : Nat} {a0 a1 a2 a3 a4 a5 a6} (h : wp7 (F k) n a0 a1 a2 a3 a4 a5 a6 = some r) (P : A0 → A1 → A2 → A3 → A4 → A5 → A6 → Prop) (Pk : κ → Prop) (hk : Pk k) (hs : ∀ k, Pk k → ∀ self : A0 → A1 → A2 → A3 → A4 → A5 → A6 → Option ρ, (∀ a0 a1 a2 a3 a4 a5 a6, self a0 a1 a2 a3 a4 a5 a6 = some r → P a0 a1 a2 a3 a4 a5 a6) → ∀ a0 a1 a2 a3 a4 a5 a6, F k self a0 a1 a2 a3 a4 a5 a6 = some r → P a0 a1 a2 a3 a4 a5 a6) : P a0 a1 a2 a3 a4 a5 a6 := wp7S P (hs k hk) h
def wp8 {ρ A0 A1 A2 A3 A4 A5 A6 A7 : Type} (F : (A0 → A1 → A2 → A3 → A4 → A5 → A6 → A7 → Option ρ) → A0 → A1 → A2 → A3 → A4 → A5 → A6 → A7 → Option ρ) : Nat → A0 → A1 → A2 → A3 → A4 → A5 → A6 → A7 → Option ρ
  | 0, _, _, _, _, _, _, _, _ => none
  | n + 1, a0, a1, a2, a3, a4, a5, a6, a7 => F (wp8 F n) a0 a1 a2 a3 a4 a5 a6 a7
theorem wp8s {ρ A0 A1 A2 A3 A4 A5 A6 A7 : Type} (F : (A0 → A1 → A2 → A3 → A4 → A5 → A6 → A7 → Option ρ) → A0 → A1 → A2 → A3 → A4 → A5 → A6 → A7 → Option ρ) (n : Nat) (a0 : A0) (a1 : A1) (a2 : A2) (a3 : A3) (a4 : A4) (a5 : A5) (a6 : A6) (a7 : A7) : wp8 F (n + 1) a0 a1 a2 a3 a4 a5 a6 a7 = F (wp8 F n) a0 a1 a2 a3 a4 a5 a6 a7 := rfl
theorem wp8S {ρ A0 A1 A2 A3 A4 A5 A6 A7 : Type} {F : (A0 → A1 → A2 → A3 → A4 → A5 → A6 → A7 → Option ρ) → A0 → A1 → A2 → A3 → A4 → A5 → A6 → A7 → Option ρ} {r : ρ} (P : A0 → A1 → A2 → A3 → A4 → A5 → A6 → A7 → Prop) (hs : ∀ self : A0 → A1 → A2 → A3 → A4 → A5 → A6 → A7 → Option ρ, (∀ a0 a1 a2 a3 a4 a5 a6 a7, self a0 a1 a2 a3 a4 a5 a6 a7 = some r → P a0 a1 a2 a3 a4 a5 a6 a7) → ∀ a0 a1 a2 a3 a4 a5 a6 a7, F self a0 a1 a2 a3 a4 a5 a6 a7 = some r → P a0 a1 a2 a3 a4 a5 a6 a7) : ∀ {n : Nat} {a0 a1 a2 a3 a4 a5 a6 a7}, wp8 F n a0 a1 a2 a3 a4 a5 a6 a7 = some r → P a0 a1 a2 a3 a4 a5 a6 a7
  | 0, _, _, _, _, _, _, _, _, h => by cases h
  | n + 1, _, _, _, _, _, _, _, _, h => hs (wp8 F n) (fun a0 a1 a2 a3 a4 a5 a6 a7 h => wp8S P hs h) _ _ _ _ _ _ _ _ h
theorem wp8K {ρ κ A0 A1 A2 A3 A4 A5 A6 A7 : Type} {F : κ → (A0 → A1 → A2 → A3 → A4 → A5 → A6 → A7 → Option ρ) → A0 → A1 → A2 → A3 → A4 → A5 → A6 → A7 → Option ρ} {k : κ} {r : ρ} {n : Nat} {a0 a1 a2 a3 a4 a5 a6 a7} (h : wp8 (F k) n a0 a1 a2 a3 a4 a5 a6 a7 = some r) (P : A0 → A1 → A2 → A3 → A4 → A5 → A6 → A7 → Prop) (Pk : κ → Prop) (hk : Pk k) (hs : ∀ k, Pk k → ∀ self : A0 → A1 → A2 → A3 → A4 → A5 → A6 → A7 → Option ρ, (∀ a0 a1 a2 a3 a4 a5 a6 a7, self a0 a1 a2 a3 a4 a5 a6 a7 = some r → P a0 a1 a2 a3 a4 a5 a6 a7) → ∀ a0 a1 a2 a3 a4 a5 a6 a7, F k self a0 a1 a2 a3 a4 a5 a6 a7 = some r → P a0 a1 a2 a3 a4 a5 a6 a7) : P a0 a1 a2 a3 a4 a5 a6 a7 := wp8S P (hs k hk) h
section XV
variable {p : Program} {l : Launch} {e : Env} {R : Room} {s : State} {m : MethodId} {args : Array Value} {below : List Frame} {meth : Method} {c : Code} {H : Heap} {locs : List Loc} {cells slots : Nat} {Q : State → Prop}
variable {cc : ByteArray} {pc : Nat} {ls : Array Slot} {rest st0 : List Value} {own : String} {D : va_G} {cy : Nat → ClassId} {L : Nat → Nat} {sh : Nat → Dsc} {n bA : Nat} {S S' : Sg}
theorem x_Vr {nL index ci k nn fr lo maxL N : Nat} {C : String} {T : u_T} {fds : List (Option Nat)} {w : Value} {y : MethodName} {bytes : ByteArray} {ret : Option FieldType} {As : List Value} (E : En p m c cc nL s args own) (hC : Cst D cy L n bA s s.heap) (hW : Wd D cy L sh n S s H locs) (hl : ls.size = nL) (hM : MetX l D cy L sh n bA y bytes maxL ret fr lo (.ref (L k) :: As) (some w) S S') (V : CV own index C y bytes maxL ret nn) (hcl : vwCl[ci]? = some (C, T, N)) (hk : k < n) (hs : sh k = .inl (ci, fds)) (hn : As.length = nn) (hst : st0 = As.reverse ++ .ref (L k) :: rest) (hR : fr + 1 ≤ R.frames ∧ 8 + (maxL + 11) + lo ≤ R.locals) (hcs : cells ≤ R.cells ∧ slots ≤ R.slots) (hrm : (rest.map fun v => v.category).sum ≤ 8) (hdg : decode cc pc = .ok (.invokevirtual index, 3))
    (kk : ∀ (H1 : Heap) (locs1 : List Loc), Wd D cy L sh n S' s H1 locs1 → W p l e R s m args below meth c H1 locs1 cells slots Q (F0 m (pc + 3) ls (w :: rest))) : W p l e R s m args below meth c H locs cells slots Q (F0 m pc ls st0) := x_V E hC hW hl hM V hcl hk hs hn hst hR hcs hrm hdg kk
theorem x_Vv {nL index ci k nn fr lo maxL N : Nat} {C : String} {T : u_T} {fds : List (Option Nat)} {y : MethodName} {bytes : ByteArray} {ret : Option FieldType} {As : List Value} (E : En p m c cc nL s args own) (hC : Cst D cy L n bA s s.heap) (hW : Wd D cy L sh n S s H locs) (hl : ls.size = nL) (hM : MetX l D cy L sh n bA y bytes maxL ret fr lo (.ref (L k) :: As) none S S') (V : CV own index C y bytes maxL ret nn) (hcl : vwCl[ci]? = some (C, T, N)) (hk : k < n) (hs : sh k = .inl (ci, fds)) (hn : As.length = nn) (hst : st0 = As.reverse ++ .ref (L k) :: rest) (hR : fr + 1 ≤ R.frames ∧ 8 + (maxL + 11) + lo ≤ R.locals) (hcs : cells ≤ R.cells ∧ slots ≤ R.slots) (hrm : (rest.map fun v => v.category).sum ≤ 8) (hdg : decode cc pc = .ok (.invokevirtual index, 3))
    (kk : ∀ (H1 : Heap) (locs1 : List Loc), Wd D cy L sh n S' s H1 locs1 → W p l e R s m args below meth c H1 locs1 cells slots Q (F0 m (pc + 3) ls (rest))) : W p l e R s m args below meth c H locs cells slots Q (F0 m pc ls st0) := x_V E hC hW hl hM V hcl hk hs hn hst hR hcs hrm hdg kk
theorem x_Sr {nL index nn fr lo maxL : Nat} {w : Value} {y : MethodName} {bytes : ByteArray} {ret : Option FieldType} {As : List Value} (E : En p m c cc nL s args own) (hC : Cst D cy L n bA s s.heap) (hW : Wd D cy L sh n S s H locs) (hl : ls.size = nL) (hM : MetX l D cy L sh n bA y bytes maxL ret fr lo As (some w) S S') (V : CS own index y bytes maxL ret nn) (hn : As.length = nn) (hst : st0 = As.reverse ++ rest) (hR : fr + 1 ≤ R.frames ∧ 8 + (maxL + 11) + lo ≤ R.locals) (hcs : cells ≤ R.cells ∧ slots ≤ R.slots) (hrm : (rest.map fun v => v.category).sum ≤ 8) (hdg : decode cc pc = .ok (.invokestatic index, 3))
    (kk : ∀ (H1 : Heap) (locs1 : List Loc), Wd D cy L sh n S' s H1 locs1 → W p l e R s m args below meth c H1 locs1 cells slots Q (F0 m (pc + 3) ls (w :: rest))) : W p l e R s m args below meth c H locs cells slots Q (F0 m pc ls st0) := x_S E hC hW hl hM V hn hst hR hcs hrm hdg kk
theorem x_Sv {nL index nn fr lo maxL : Nat} {y : MethodName} {bytes : ByteArray} {ret : Option FieldType} {As : List Value} (E : En p m c cc nL s args own) (hC : Cst D cy L n bA s s.heap) (hW : Wd D cy L sh n S s H locs) (hl : ls.size = nL) (hM : MetX l D cy L sh n bA y bytes maxL ret fr lo As none S S') (V : CS own index y bytes maxL ret nn) (hn : As.length = nn) (hst : st0 = As.reverse ++ rest) (hR : fr + 1 ≤ R.frames ∧ 8 + (maxL + 11) + lo ≤ R.locals) (hcs : cells ≤ R.cells ∧ slots ≤ R.slots) (hrm : (rest.map fun v => v.category).sum ≤ 8) (hdg : decode cc pc = .ok (.invokestatic index, 3))
    (kk : ∀ (H1 : Heap) (locs1 : List Loc), Wd D cy L sh n S' s H1 locs1 → W p l e R s m args below meth c H1 locs1 cells slots Q (F0 m (pc + 3) ls (rest))) : W p l e R s m args below meth c H locs cells slots Q (F0 m pc ls st0) := x_S E hC hW hl hM V hn hst hR hcs hrm hdg kk
theorem x_Nr {nL index nn fr lo maxL : Nat} {w : Value} {y : MethodName} {bytes : ByteArray} {ret : Option FieldType} {As : List Value} (E : En p m c cc nL s args own) (hC : Cst D cy L n bA s s.heap) (hW : Wd D cy L sh n S s H locs) (hl : ls.size = nL) (hM : MetX l D cy L sh n bA y bytes maxL ret fr lo As (some w) S S') (V : CN own index y bytes maxL ret nn) (hn : As.length = nn) (hst : st0 = As.reverse ++ rest) (hR : fr + 1 ≤ R.frames ∧ 8 + (maxL + 11) + lo ≤ R.locals) (hcs : cells ≤ R.cells ∧ slots ≤ R.slots) (hrm : (rest.map fun v => v.category).sum ≤ 8) (hdg : decode cc pc = .ok (.invokestatic index, 3))
    (kk : ∀ (H1 : Heap) (locs1 : List Loc), Wd D cy L sh n S' s H1 locs1 → W p l e R s m args below meth c H1 locs1 cells slots Q (F0 m (pc + 3) ls (w :: rest))) : W p l e R s m args below meth c H locs cells slots Q (F0 m pc ls st0) := x_N E hC hW hl hM V hn hst hR hcs hrm hdg kk
theorem x_Nv {nL index nn fr lo maxL : Nat} {y : MethodName} {bytes : ByteArray} {ret : Option FieldType} {As : List Value} (E : En p m c cc nL s args own) (hC : Cst D cy L n bA s s.heap) (hW : Wd D cy L sh n S s H locs) (hl : ls.size = nL) (hM : MetX l D cy L sh n bA y bytes maxL ret fr lo As none S S') (V : CN own index y bytes maxL ret nn) (hn : As.length = nn) (hst : st0 = As.reverse ++ rest) (hR : fr + 1 ≤ R.frames ∧ 8 + (maxL + 11) + lo ≤ R.locals) (hcs : cells ≤ R.cells ∧ slots ≤ R.slots) (hrm : (rest.map fun v => v.category).sum ≤ 8) (hdg : decode cc pc = .ok (.invokestatic index, 3))
    (kk : ∀ (H1 : Heap) (locs1 : List Loc), Wd D cy L sh n S' s H1 locs1 → W p l e R s m args below meth c H1 locs1 cells slots Q (F0 m (pc + 3) ls (rest))) : W p l e R s m args below meth c H locs cells slots Q (F0 m pc ls st0) := x_N E hC hW hl hM V hn hst hR hcs hrm hdg kk
theorem x_iretI {nL : Nat} {x r : Int32} (E : En p m c cc nL s args own) (hC : Cst D cy L n bA s s.heap) (hW : Wd D cy L sh n S s H locs) (hr : meth.sig.returnType = some .int) (hk : meth.locks = false) (hQ : MQ below (xQ D cy L sh n bA (some (.int r)) S') args s 0 0 (AL L n) = Q) (hdg : decode cc pc = .ok (.ireturn, 1)) (hf : some (x, S) = some (r, S')) : W p l e R s m args below meth c H locs 0 0 Q (F0 m pc ls [.int x]) := by
  cases hf; subst hQ; exact x_iret E hC hW hr hk hdg
theorem x_iretP {nL : Nat} {x r : Int32} (E : En p m c cc nL s args own) (hC : Cst D cy L n bA s s.heap) (hW : Wd D cy L sh n S s H locs) (hr : meth.sig.returnType = some .int) (hk : meth.locks = false) (hQ : MQ below (xQ D cy L sh n bA (some (.int r)) S) args s 0 0 (AL L n) = Q) (hdg : decode cc pc = .ok (.ireturn, 1)) (hf : some x = some r) : W p l e R s m args below meth c H locs 0 0 Q (F0 m pc ls [.int x]) := by
  cases hf; subst hQ; exact x_iret E hC hW hr hk hdg
theorem x_zretI {nL : Nat} {x r : Int32} (E : En p m c cc nL s args own) (hC : Cst D cy L n bA s s.heap) (hW : Wd D cy L sh n S s H locs) (hr : meth.sig.returnType = some .boolean) (hk : meth.locks = false) (hQ : MQ below (xQ D cy L sh n bA (some (.int r)) S') args s 0 0 (AL L n) = Q) (hx : isB x = true) (hdg : decode cc pc = .ok (.ireturn, 1)) (hf : some (x, S) = some (r, S')) : W p l e R s m args below meth c H locs 0 0 Q (F0 m pc ls [.int x]) := by
  cases hf; subst hQ; exact x_zret E hC hW hr hk hx hdg
theorem x_zretP {nL : Nat} {x r : Int32} (E : En p m c cc nL s args own) (hC : Cst D cy L n bA s s.heap) (hW : Wd D cy L sh n S s H locs) (hr : meth.sig.returnType = some .boolean) (hk : meth.locks = false) (hQ : MQ below (xQ D cy L sh n bA (some (.int r)) S) args s 0 0 (AL L n) = Q) (hx : isB x = true) (hdg : decode cc pc = .ok (.ireturn, 1)) (hf : some x = some r) : W p l e R s m args below meth c H locs 0 0 Q (F0 m pc ls [.int x]) := by
  cases hf; subst hQ; exact x_zret E hC hW hr hk hx hdg
theorem x_lretI {nL : Nat} {x r : Int64} (E : En p m c cc nL s args own) (hC : Cst D cy L n bA s s.heap) (hW : Wd D cy L sh n S s H locs) (hr : meth.sig.returnType = some .long) (hk : meth.locks = false) (hQ : MQ below (xQ D cy L sh n bA (some (.long r)) S') args s 0 0 (AL L n) = Q) (hdg : decode cc pc = .ok (.lreturn, 1)) (hf : some (x, S) = some (r, S')) : W p l e R s m args below meth c H locs 0 0 Q (F0 m pc ls [.long x]) := by
  cases hf; subst hQ; exact x_lret E hC hW hr hk hdg
theorem x_lretP {nL : Nat} {x r : Int64} (E : En p m c cc nL s args own) (hC : Cst D cy L n bA s s.heap) (hW : Wd D cy L sh n S s H locs) (hr : meth.sig.returnType = some .long) (hk : meth.locks = false) (hQ : MQ below (xQ D cy L sh n bA (some (.long r)) S) args s 0 0 (AL L n) = Q) (hdg : decode cc pc = .ok (.lreturn, 1)) (hf : some x = some r) : W p l e R s m args below meth c H locs 0 0 Q (F0 m pc ls [.long x]) := by
  cases hf; subst hQ; exact x_lret E hC hW hr hk hdg
theorem x_vretI {nL : Nat} (E : En p m c cc nL s args own) (hC : Cst D cy L n bA s s.heap) (hW : Wd D cy L sh n S s H locs) (hr : meth.sig.returnType = none) (hk : meth.locks = false) (hQ : MQ below (xQ D cy L sh n bA none S') args s 0 0 (AL L n) = Q) (hdg : decode cc pc = .ok (.return_, 1)) (hf : some S = some S') : W p l e R s m args below meth c H locs 0 0 Q (F0 m pc ls []) := by
  cases hf; subst hQ; exact x_vret E hC hW hr hk hdg
end XV
/-! the class's world and the reference's -/
def dKept (k : Nat) : Dsc := .inl (2, [none, none, none, some (k + 1), some (k + 2), some (k + 3), some (k + 4), some (k + 5)])
def dBasis (k : Nat) : Dsc := .inl (0, [none, none, none, none, some (k + 1), some (k + 2), some (k + 3)])
def dSheet (k : Nat) : Dsc := .inl (6, [none, none, some (k + 1)])
def dHand (k : Nat) : Dsc := .inl (1, [none, none, none, none, some (k + 1)])
abbrev aI (n : Nat) : Dsc := .inr (.inl (0, n))
abbrev aJ (n : Nat) : Dsc := .inr (.inl (1, n))
abbrev aZ (n : Nat) : Dsc := .inr (.inl (2, n))
def shCl : List Dsc := [.inl (9, [some 1, some 7, none, some 13, some 19, some 21, some 27, some 29, some 31, some 40, some 49, some 50, some 51]),
  dKept 1, aI 10, aI 10, aJ 10, aI 120, aI 8, dKept 7, aI 10, aI 10, aJ 10, aI 120, aI 8,
  .inl (5, [none, none, none, some 14, some 15]), aI 120, dBasis 15, aI 36, aZ 6, aI 6,
  .inl (8, [none, none, some 20]), aZ 1024, .inl (7, [some 22, some 23]), aI 6, dBasis 23, aI 36, aZ 6, aI 6,
  .inl (4, [none, none, some 28]), aJ 36, .inl (3, [none, some 30]), aJ 20,
  .inr (.inr (3, 4, 32)), dSheet 32, aJ 30, dSheet 34, aJ 30, dSheet 36, aJ 30, dSheet 38, aJ 30,
  .inr (.inr (4, 4, 41)), dHand 41, aI 6, dHand 43, aI 6, dHand 45, aI 6, dHand 47, aI 6, aI 10, aI 10, aI 10]
def shC (k : Nat) : Dsc := shCl.getD k (aI 0)
def shMl : List Dsc := [.inl (10, [none, none, none, some 1, some 2, some 3, some 4, some 5, some 6, none, some 7, none, some 8, none, some 9, none, some 10, some 11, some 12, some 13, some 14, some 15, some 16, some 17, none, some 18, some 19]),
  aI 10, aI 10, aJ 10, aI 120, aI 8, aI 156, aJ 10, aJ 36, aJ 20, aI 4, aI 4, aI 4, aI 4, aI 24, aI 4, aI 4, aJ 120, aI 151, aJ 10]
def shM (k : Nat) : Dsc := shMl.getD k (aI 0)
def okB (k : Nat) : Prop := k < 52 ∧ shC k = dBasis k ∧ k + 1 < 52 ∧ shC (k + 1) = aI 36 ∧ k + 2 < 52 ∧ shC (k + 2) = aZ 6 ∧ k + 3 < 52 ∧ shC (k + 3) = aI 6
def okS (k : Nat) : Prop := k < 52 ∧ shC k = dSheet k ∧ k + 1 < 52 ∧ shC (k + 1) = aJ 30
def okH (k : Nat) : Prop := k < 52 ∧ shC k = dHand k ∧ k + 1 < 52 ∧ shC (k + 1) = aI 6
def okK (k : Nat) : Prop := k < 52 ∧ shC k = dKept k ∧ k + 1 < 52 ∧ shC (k + 1) = aI 10 ∧ k + 2 < 52 ∧ shC (k + 2) = aI 10 ∧ k + 3 < 52 ∧ shC (k + 3) = aJ 10 ∧ k + 4 < 52 ∧ shC (k + 4) = aI 120 ∧ k + 5 < 52 ∧ shC (k + 5) = aI 8
def okA (k n : Nat) : Prop := k < 52 ∧ shC k = aI n
theorem okS_ix {i : Int32} (h : inb i 4 = true) : okS (32 + 2 * ix i) := by
  have h1 : ix i < 4 := Nat.not_le.mp fun q => (inbS h) (Or.inr q)
  rcases (show ix i = 0 ∨ ix i = 1 ∨ ix i = 2 ∨ ix i = 3 by omega) with e | e | e | e <;> rw [e] <;> exact ⟨by decide, rfl, by decide, rfl⟩
theorem okH_ix {i : Int32} (h : inb i 4 = true) : okH (41 + 2 * ix i) := by
  have h1 : ix i < 4 := Nat.not_le.mp fun q => (inbS h) (Or.inr q)
  rcases (show ix i = 0 ∨ ix i = 1 ∨ ix i = 2 ∨ ix i = 3 by omega) with e | e | e | e <;> rw [e] <;> exact ⟨by decide, rfl, by decide, rfl⟩
theorem okB_15 : okB 15 := ⟨by decide, rfl, by decide, rfl, by decide, rfl, by decide, rfl⟩
theorem okB_23 : okB 23 := ⟨by decide, rfl, by decide, rfl, by decide, rfl, by decide, rfl⟩
theorem okK_1 : okK 1 := ⟨by decide, rfl, by decide, rfl, by decide, rfl, by decide, rfl, by decide, rfl, by decide, rfl⟩
theorem okK_7 : okK 7 := ⟨by decide, rfl, by decide, rfl, by decide, rfl, by decide, rfl, by decide, rfl, by decide, rfl⟩
end
section
/-! the words of the tables that the walks use, by their places -/
theorem in_places {ws : List Cond} (ps : List Nat) (hp : ws = ps.filterMap (fun i => lw_tbl[i]?)) (h : ws.all goodWord = true) : ∀ w ∈ ws, w ∈ tb := by
  intro w hw
  have h1 := List.all_eq_true.mp h w hw
  rw [hp] at hw
  obtain ⟨i, -, hi⟩ := List.mem_filterMap.mp hw
  exact tb_good (List.mem_of_getElem? hi) h1
theorem at_place {w : Cond} (i : Nat) (h : lw_tbl[i]? = some w) (g : goodWord w = true) : w ∈ tb := tb_good (List.mem_of_getElem? h) g
theorem inT0 : ∀ w ∈ u_ws RX0 TX0 7, w ∈ tb := in_places [144, 146, 148, 150, 152, 154, 156] (by decide +kernel) (by decide +kernel)
theorem pl_0_0 : PL TX0 7 0 .int := ⟨⟨tyX0, tyX0_ok⟩, nmX0, rfl, by decide +kernel⟩
theorem pl_0_1 : PL TX0 7 1 .int := ⟨⟨tyX0, tyX0_ok⟩, nmX0, rfl, by decide +kernel⟩
theorem pl_0_2 : PL TX0 7 2 .int := ⟨⟨tyX0, tyX0_ok⟩, nmX0, rfl, by decide +kernel⟩
theorem pl_0_3 : PL TX0 7 3 .int := ⟨⟨tyX0, tyX0_ok⟩, nmX0, rfl, by decide +kernel⟩
theorem inT1 : ∀ w ∈ u_ws RX1 TX1 5, w ∈ tb := in_places [287, 289, 291, 293, 295] (by decide +kernel) (by decide +kernel)
theorem pl_1_0 : PL TX1 5 0 .int := ⟨⟨tyX1, tyX1_ok⟩, nmX1, rfl, by decide +kernel⟩
theorem pl_1_1 : PL TX1 5 1 .int := ⟨⟨tyX1, tyX1_ok⟩, nmX1, rfl, by decide +kernel⟩
theorem pl_1_2 : PL TX1 5 2 .int := ⟨⟨tyX1, tyX1_ok⟩, nmX1, rfl, by decide +kernel⟩
theorem pl_1_3 : PL TX1 5 3 .int := ⟨⟨tyX1, tyX1_ok⟩, nmX1, rfl, by decide +kernel⟩
theorem inT2 : ∀ w ∈ u_ws RX2 TX2 8, w ∈ tb := in_places [104, 106, 108, 110, 112, 114, 116, 118] (by decide +kernel) (by decide +kernel)
theorem pl_2_0 : PL TX2 8 0 .int := ⟨⟨tyX2, tyX2_ok⟩, nmX2, rfl, by decide +kernel⟩
theorem pl_2_1 : PL TX2 8 1 .int := ⟨⟨tyX2, tyX2_ok⟩, nmX2, rfl, by decide +kernel⟩
theorem pl_2_2 : PL TX2 8 2 .int := ⟨⟨tyX2, tyX2_ok⟩, nmX2, rfl, by decide +kernel⟩
theorem inT3 : ∀ w ∈ u_ws RX3 TX3 2, w ∈ tb := in_places [245, 247] (by decide +kernel) (by decide +kernel)
theorem pl_3_0 : PL TX3 2 0 .int := ⟨⟨tyX3, tyX3_ok⟩, nmX3, rfl, by decide +kernel⟩
theorem inT4 : ∀ w ∈ u_ws RX4 TX4 3, w ∈ tb := in_places [228, 230, 232] (by decide +kernel) (by decide +kernel)
theorem pl_4_0 : PL TX4 3 0 .int := ⟨⟨tyX4, tyX4_ok⟩, nmX4, rfl, by decide +kernel⟩
theorem pl_4_1 : PL TX4 3 1 .boolean := ⟨⟨tyX4, tyX4_ok⟩, nmX4, rfl, by decide +kernel⟩
theorem inT5 : ∀ w ∈ u_ws RX5 TX5 5, w ∈ tb := in_places [175, 177, 179, 181, 183] (by decide +kernel) (by decide +kernel)
theorem pl_5_0 : PL TX5 5 0 .int := ⟨⟨tyX5, tyX5_ok⟩, nmX5, rfl, by decide +kernel⟩
theorem pl_5_1 : PL TX5 5 1 .int := ⟨⟨tyX5, tyX5_ok⟩, nmX5, rfl, by decide +kernel⟩
theorem pl_5_2 : PL TX5 5 2 .int := ⟨⟨tyX5, tyX5_ok⟩, nmX5, rfl, by decide +kernel⟩
theorem inT6 : ∀ w ∈ u_ws RX6 TX6 3, w ∈ tb := in_places [265, 267, 269] (by decide +kernel) (by decide +kernel)
theorem pl_6_0 : PL TX6 3 0 .int := ⟨⟨tyX6, tyX6_ok⟩, nmX6, rfl, by decide +kernel⟩
theorem pl_6_1 : PL TX6 3 1 .int := ⟨⟨tyX6, tyX6_ok⟩, nmX6, rfl, by decide +kernel⟩
theorem inT7 : ∀ w ∈ u_ws RX7 TX7 2, w ∈ tb := in_places [214, 216] (by decide +kernel) (by decide +kernel)
theorem inT8 : ∀ w ∈ u_ws RX8 TX8 3, w ∈ tb := in_places [197, 199, 201] (by decide +kernel) (by decide +kernel)
theorem pl_8_0 : PL TX8 3 0 .int := ⟨⟨tyX8, tyX8_ok⟩, nmX8, rfl, by decide +kernel⟩
theorem pl_8_1 : PL TX8 3 1 .int := ⟨⟨tyX8, tyX8_ok⟩, nmX8, rfl, by decide +kernel⟩
theorem inT9 : ∀ w ∈ u_ws RX9 TX9 13, w ∈ tb := in_places [311, 313, 315, 317, 319, 321, 323, 325, 327, 329, 331, 333, 335] (by decide +kernel) (by decide +kernel)
theorem pl_9_2 : PL TX9 13 2 .boolean := ⟨⟨tyX9, tyX9_ok⟩, nmX9, rfl, by decide +kernel⟩
theorem inT10 : ∀ w ∈ u_ws RX10 TX10 27, w ∈ tb := in_places [862, 864, 866, 868, 870, 872, 874, 876, 878, 880, 882, 884, 886, 888, 890, 892, 894, 896, 898, 900, 902, 904, 906, 908, 910, 912, 914] (by decide +kernel) (by decide +kernel)
theorem pl_10_0 : PL TX10 27 0 .int := ⟨⟨tyX10, tyX10_ok⟩, nmX10, rfl, by decide +kernel⟩
theorem pl_10_1 : PL TX10 27 1 .int := ⟨⟨tyX10, tyX10_ok⟩, nmX10, rfl, by decide +kernel⟩
theorem pl_10_2 : PL TX10 27 2 .int := ⟨⟨tyX10, tyX10_ok⟩, nmX10, rfl, by decide +kernel⟩
theorem pl_10_9 : PL TX10 27 9 .int := ⟨⟨tyX10, tyX10_ok⟩, nmX10, rfl, by decide +kernel⟩
theorem pl_10_11 : PL TX10 27 11 .boolean := ⟨⟨tyX10, tyX10_ok⟩, nmX10, rfl, by decide +kernel⟩
theorem pl_10_13 : PL TX10 27 13 .int := ⟨⟨tyX10, tyX10_ok⟩, nmX10, rfl, by decide +kernel⟩
theorem pl_10_15 : PL TX10 27 15 .int := ⟨⟨tyX10, tyX10_ok⟩, nmX10, rfl, by decide +kernel⟩
theorem pl_10_24 : PL TX10 27 24 .boolean := ⟨⟨tyX10, tyX10_ok⟩, nmX10, rfl, by decide +kernel⟩
theorem fl_X2_9 : FL RX2 9 2 0 RX2 TX2 8 := ⟨rfl, inT2, by decide, at_place 85 (by decide +kernel) rfl⟩
theorem fl_X5_32 : FL RX5 32 2 0 RX2 TX2 8 := ⟨rfl, inT2, by decide, at_place 86 (by decide +kernel) rfl⟩
theorem fl_X9_86 : FL RX9 86 2 0 RX2 TX2 8 := ⟨rfl, inT2, by decide, at_place 87 (by decide +kernel) rfl⟩
theorem fl_X2_15 : FL RX2 15 2 1 RX2 TX2 8 := ⟨rfl, inT2, by decide, at_place 88 (by decide +kernel) rfl⟩
theorem fl_X5_35 : FL RX5 35 2 1 RX2 TX2 8 := ⟨rfl, inT2, by decide, at_place 89 (by decide +kernel) rfl⟩
theorem fl_X9_90 : FL RX9 90 2 1 RX2 TX2 8 := ⟨rfl, inT2, by decide, at_place 90 (by decide +kernel) rfl⟩
theorem fl_X2_18 : FL RX2 18 2 2 RX2 TX2 8 := ⟨rfl, inT2, by decide, at_place 91 (by decide +kernel) rfl⟩
theorem fl_X5_36 : FL RX5 36 2 2 RX2 TX2 8 := ⟨rfl, inT2, by decide, at_place 92 (by decide +kernel) rfl⟩
theorem fl_X9_107 : FL RX9 107 2 2 RX2 TX2 8 := ⟨rfl, inT2, by decide, at_place 93 (by decide +kernel) rfl⟩
theorem fl_X2_21 : FL RX2 21 2 3 RX2 TX2 8 := ⟨rfl, inT2, by decide, at_place 94 (by decide +kernel) rfl⟩
theorem fl_X9_123 : FL RX9 123 2 3 RX2 TX2 8 := ⟨rfl, inT2, by decide, at_place 95 (by decide +kernel) rfl⟩
theorem fl_X2_25 : FL RX2 25 2 4 RX2 TX2 8 := ⟨rfl, inT2, by decide, at_place 96 (by decide +kernel) rfl⟩
theorem fl_X9_126 : FL RX9 126 2 4 RX2 TX2 8 := ⟨rfl, inT2, by decide, at_place 97 (by decide +kernel) rfl⟩
theorem fl_X2_28 : FL RX2 28 2 5 RX2 TX2 8 := ⟨rfl, inT2, by decide, at_place 98 (by decide +kernel) rfl⟩
theorem fl_X9_133 : FL RX9 133 2 5 RX2 TX2 8 := ⟨rfl, inT2, by decide, at_place 99 (by decide +kernel) rfl⟩
theorem fl_X2_32 : FL RX2 32 2 6 RX2 TX2 8 := ⟨rfl, inT2, by decide, at_place 100 (by decide +kernel) rfl⟩
theorem fl_X9_120 : FL RX9 120 2 6 RX2 TX2 8 := ⟨rfl, inT2, by decide, at_place 101 (by decide +kernel) rfl⟩
theorem fl_X2_35 : FL RX2 35 2 7 RX2 TX2 8 := ⟨rfl, inT2, by decide, at_place 102 (by decide +kernel) rfl⟩
theorem fl_X9_258 : FL RX9 258 2 7 RX2 TX2 8 := ⟨rfl, inT2, by decide, at_place 103 (by decide +kernel) rfl⟩
theorem fl_X0_9 : FL RX0 9 0 0 RX0 TX0 7 := ⟨rfl, inT0, by decide, at_place 135 (by decide +kernel) rfl⟩
theorem fl_X5_49 : FL RX5 49 0 0 RX0 TX0 7 := ⟨rfl, inT0, by decide, at_place 136 (by decide +kernel) rfl⟩
theorem fl_X7_54 : FL RX7 54 0 0 RX0 TX0 7 := ⟨rfl, inT0, by decide, at_place 137 (by decide +kernel) rfl⟩
theorem fl_X0_15 : FL RX0 15 0 1 RX0 TX0 7 := ⟨rfl, inT0, by decide, at_place 138 (by decide +kernel) rfl⟩
theorem fl_X0_18 : FL RX0 18 0 2 RX0 TX0 7 := ⟨rfl, inT0, by decide, at_place 139 (by decide +kernel) rfl⟩
theorem fl_X0_21 : FL RX0 21 0 3 RX0 TX0 7 := ⟨rfl, inT0, by decide, at_place 140 (by decide +kernel) rfl⟩
theorem fl_X0_24 : FL RX0 24 0 4 RX0 TX0 7 := ⟨rfl, inT0, by decide, at_place 141 (by decide +kernel) rfl⟩
theorem fl_X0_28 : FL RX0 28 0 5 RX0 TX0 7 := ⟨rfl, inT0, by decide, at_place 142 (by decide +kernel) rfl⟩
theorem fl_X0_32 : FL RX0 32 0 6 RX0 TX0 7 := ⟨rfl, inT0, by decide, at_place 143 (by decide +kernel) rfl⟩
theorem fl_X5_9 : FL RX5 9 5 0 RX5 TX5 5 := ⟨rfl, inT5, by decide, at_place 160 (by decide +kernel) rfl⟩
theorem fl_X7_32 : FL RX7 32 5 0 RX5 TX5 5 := ⟨rfl, inT5, by decide, at_place 161 (by decide +kernel) rfl⟩
theorem fl_X3_39 : FL RX3 39 5 0 RX5 TX5 5 := ⟨rfl, inT5, by decide, at_place 162 (by decide +kernel) rfl⟩
theorem fl_X5_15 : FL RX5 15 5 1 RX5 TX5 5 := ⟨rfl, inT5, by decide, at_place 163 (by decide +kernel) rfl⟩
theorem fl_X4_23 : FL RX4 23 5 1 RX5 TX5 5 := ⟨rfl, inT5, by decide, at_place 164 (by decide +kernel) rfl⟩
theorem fl_X7_39 : FL RX7 39 5 1 RX5 TX5 5 := ⟨rfl, inT5, by decide, at_place 165 (by decide +kernel) rfl⟩
theorem fl_X3_32 : FL RX3 32 5 1 RX5 TX5 5 := ⟨rfl, inT5, by decide, at_place 166 (by decide +kernel) rfl⟩
theorem fl_X5_18 : FL RX5 18 5 2 RX5 TX5 5 := ⟨rfl, inT5, by decide, at_place 167 (by decide +kernel) rfl⟩
theorem fl_X8_22 : FL RX8 22 5 2 RX5 TX5 5 := ⟨rfl, inT5, by decide, at_place 168 (by decide +kernel) rfl⟩
theorem fl_X7_22 : FL RX7 22 5 2 RX5 TX5 5 := ⟨rfl, inT5, by decide, at_place 169 (by decide +kernel) rfl⟩
theorem fl_X3_19 : FL RX3 19 5 2 RX5 TX5 5 := ⟨rfl, inT5, by decide, at_place 170 (by decide +kernel) rfl⟩
theorem fl_X4_36 : FL RX4 36 5 2 RX5 TX5 5 := ⟨rfl, inT5, by decide, at_place 171 (by decide +kernel) rfl⟩
theorem fl_X5_21 : FL RX5 21 5 3 RX5 TX5 5 := ⟨rfl, inT5, by decide, at_place 172 (by decide +kernel) rfl⟩
theorem fl_X3_35 : FL RX3 35 5 3 RX5 TX5 5 := ⟨rfl, inT5, by decide, at_place 173 (by decide +kernel) rfl⟩
theorem fl_X5_28 : FL RX5 28 5 4 RX5 TX5 5 := ⟨rfl, inT5, by decide, at_place 174 (by decide +kernel) rfl⟩
theorem fl_X8_9 : FL RX8 9 8 0 RX8 TX8 3 := ⟨rfl, inT8, by decide, at_place 192 (by decide +kernel) rfl⟩
theorem fl_X9_173 : FL RX9 173 8 0 RX8 TX8 3 := ⟨rfl, inT8, by decide, at_place 193 (by decide +kernel) rfl⟩
theorem fl_X8_15 : FL RX8 15 8 1 RX8 TX8 3 := ⟨rfl, inT8, by decide, at_place 194 (by decide +kernel) rfl⟩
theorem fl_X8_18 : FL RX8 18 8 2 RX8 TX8 3 := ⟨rfl, inT8, by decide, at_place 195 (by decide +kernel) rfl⟩
theorem fl_X9_176 : FL RX9 176 8 2 RX8 TX8 3 := ⟨rfl, inT8, by decide, at_place 196 (by decide +kernel) rfl⟩
theorem fl_X7_9 : FL RX7 9 7 0 RX7 TX7 2 := ⟨rfl, inT7, by decide, at_place 212 (by decide +kernel) rfl⟩
theorem fl_X7_18 : FL RX7 18 7 1 RX7 TX7 2 := ⟨rfl, inT7, by decide, at_place 213 (by decide +kernel) rfl⟩
theorem fl_X4_9 : FL RX4 9 4 0 RX4 TX4 3 := ⟨rfl, inT4, by decide, at_place 225 (by decide +kernel) rfl⟩
theorem fl_X4_15 : FL RX4 15 4 1 RX4 TX4 3 := ⟨rfl, inT4, by decide, at_place 226 (by decide +kernel) rfl⟩
theorem fl_X4_19 : FL RX4 19 4 2 RX4 TX4 3 := ⟨rfl, inT4, by decide, at_place 227 (by decide +kernel) rfl⟩
theorem fl_X3_9 : FL RX3 9 3 0 RX3 TX3 2 := ⟨rfl, inT3, by decide, at_place 241 (by decide +kernel) rfl⟩
theorem fl_X9_241 : FL RX9 241 3 0 RX3 TX3 2 := ⟨rfl, inT3, by decide, at_place 242 (by decide +kernel) rfl⟩
theorem fl_X3_15 : FL RX3 15 3 1 RX3 TX3 2 := ⟨rfl, inT3, by decide, at_place 243 (by decide +kernel) rfl⟩
theorem fl_X9_245 : FL RX9 245 3 1 RX3 TX3 2 := ⟨rfl, inT3, by decide, at_place 244 (by decide +kernel) rfl⟩
theorem fl_X6_9 : FL RX6 9 6 0 RX6 TX6 3 := ⟨rfl, inT6, by decide, at_place 259 (by decide +kernel) rfl⟩
theorem fl_X9_303 : FL RX9 303 6 0 RX6 TX6 3 := ⟨rfl, inT6, by decide, at_place 260 (by decide +kernel) rfl⟩
theorem fl_X6_15 : FL RX6 15 6 1 RX6 TX6 3 := ⟨rfl, inT6, by decide, at_place 261 (by decide +kernel) rfl⟩
theorem fl_X9_310 : FL RX9 310 6 1 RX6 TX6 3 := ⟨rfl, inT6, by decide, at_place 262 (by decide +kernel) rfl⟩
theorem fl_X6_18 : FL RX6 18 6 2 RX6 TX6 3 := ⟨rfl, inT6, by decide, at_place 263 (by decide +kernel) rfl⟩
theorem fl_X9_307 : FL RX9 307 6 2 RX6 TX6 3 := ⟨rfl, inT6, by decide, at_place 264 (by decide +kernel) rfl⟩
theorem fl_X1_9 : FL RX1 9 1 0 RX1 TX1 5 := ⟨rfl, inT1, by decide, at_place 277 (by decide +kernel) rfl⟩
theorem fl_X9_270 : FL RX9 270 1 0 RX1 TX1 5 := ⟨rfl, inT1, by decide, at_place 278 (by decide +kernel) rfl⟩
theorem fl_X1_15 : FL RX1 15 1 1 RX1 TX1 5 := ⟨rfl, inT1, by decide, at_place 279 (by decide +kernel) rfl⟩
theorem fl_X9_281 : FL RX9 281 1 1 RX1 TX1 5 := ⟨rfl, inT1, by decide, at_place 280 (by decide +kernel) rfl⟩
theorem fl_X1_18 : FL RX1 18 1 2 RX1 TX1 5 := ⟨rfl, inT1, by decide, at_place 281 (by decide +kernel) rfl⟩
theorem fl_X9_288 : FL RX9 288 1 2 RX1 TX1 5 := ⟨rfl, inT1, by decide, at_place 282 (by decide +kernel) rfl⟩
theorem fl_X1_21 : FL RX1 21 1 3 RX1 TX1 5 := ⟨rfl, inT1, by decide, at_place 283 (by decide +kernel) rfl⟩
theorem fl_X9_291 : FL RX9 291 1 3 RX1 TX1 5 := ⟨rfl, inT1, by decide, at_place 284 (by decide +kernel) rfl⟩
theorem fl_X1_24 : FL RX1 24 1 4 RX1 TX1 5 := ⟨rfl, inT1, by decide, at_place 285 (by decide +kernel) rfl⟩
theorem fl_X9_292 : FL RX9 292 1 4 RX1 TX1 5 := ⟨rfl, inT1, by decide, at_place 286 (by decide +kernel) rfl⟩
theorem fl_X9_12 : FL RX9 12 9 0 RX9 TX9 13 := ⟨rfl, inT9, by decide, at_place 298 (by decide +kernel) rfl⟩
theorem fl_X9_16 : FL RX9 16 9 1 RX9 TX9 13 := ⟨rfl, inT9, by decide, at_place 299 (by decide +kernel) rfl⟩
theorem fl_X9_19 : FL RX9 19 9 2 RX9 TX9 13 := ⟨rfl, inT9, by decide, at_place 300 (by decide +kernel) rfl⟩
theorem fl_X9_26 : FL RX9 26 9 3 RX9 TX9 13 := ⟨rfl, inT9, by decide, at_place 301 (by decide +kernel) rfl⟩
theorem fl_X9_33 : FL RX9 33 9 4 RX9 TX9 13 := ⟨rfl, inT9, by decide, at_place 302 (by decide +kernel) rfl⟩
theorem fl_X9_40 : FL RX9 40 9 5 RX9 TX9 13 := ⟨rfl, inT9, by decide, at_place 303 (by decide +kernel) rfl⟩
theorem fl_X9_47 : FL RX9 47 9 6 RX9 TX9 13 := ⟨rfl, inT9, by decide, at_place 304 (by decide +kernel) rfl⟩
theorem fl_X9_54 : FL RX9 54 9 7 RX9 TX9 13 := ⟨rfl, inT9, by decide, at_place 305 (by decide +kernel) rfl⟩
theorem fl_X9_60 : FL RX9 60 9 8 RX9 TX9 13 := ⟨rfl, inT9, by decide, at_place 306 (by decide +kernel) rfl⟩
theorem fl_X9_66 : FL RX9 66 9 9 RX9 TX9 13 := ⟨rfl, inT9, by decide, at_place 307 (by decide +kernel) rfl⟩
theorem fl_X9_70 : FL RX9 70 9 10 RX9 TX9 13 := ⟨rfl, inT9, by decide, at_place 308 (by decide +kernel) rfl⟩
theorem fl_X9_74 : FL RX9 74 9 11 RX9 TX9 13 := ⟨rfl, inT9, by decide, at_place 309 (by decide +kernel) rfl⟩
theorem fl_X9_77 : FL RX9 77 9 12 RX9 TX9 13 := ⟨rfl, inT9, by decide, at_place 310 (by decide +kernel) rfl⟩
theorem ml_above_X9_334 : Cond.fieldLink RX9 334 "PairsStand" "ABOVE" "[I" ∈ tb := at_place 362 (by decide +kernel) rfl
theorem fl_X10_7 : FL RX10 7 10 0 RX10 TX10 27 := ⟨rfl, inT10, by decide, at_place 835 (by decide +kernel) rfl⟩
theorem fl_X10_13 : FL RX10 13 10 1 RX10 TX10 27 := ⟨rfl, inT10, by decide, at_place 836 (by decide +kernel) rfl⟩
theorem fl_X10_75 : FL RX10 75 10 2 RX10 TX10 27 := ⟨rfl, inT10, by decide, at_place 837 (by decide +kernel) rfl⟩
theorem fl_X10_16 : FL RX10 16 10 3 RX10 TX10 27 := ⟨rfl, inT10, by decide, at_place 838 (by decide +kernel) rfl⟩
theorem fl_X10_20 : FL RX10 20 10 4 RX10 TX10 27 := ⟨rfl, inT10, by decide, at_place 839 (by decide +kernel) rfl⟩
theorem fl_X10_23 : FL RX10 23 10 5 RX10 TX10 27 := ⟨rfl, inT10, by decide, at_place 840 (by decide +kernel) rfl⟩
theorem fl_X10_27 : FL RX10 27 10 6 RX10 TX10 27 := ⟨rfl, inT10, by decide, at_place 841 (by decide +kernel) rfl⟩
theorem fl_X10_30 : FL RX10 30 10 7 RX10 TX10 27 := ⟨rfl, inT10, by decide, at_place 842 (by decide +kernel) rfl⟩
theorem fl_X10_33 : FL RX10 33 10 8 RX10 TX10 27 := ⟨rfl, inT10, by decide, at_place 843 (by decide +kernel) rfl⟩
theorem fl_X10_138 : FL RX10 138 10 9 RX10 TX10 27 := ⟨rfl, inT10, by decide, at_place 844 (by decide +kernel) rfl⟩
theorem fl_X10_36 : FL RX10 36 10 10 RX10 TX10 27 := ⟨rfl, inT10, by decide, at_place 845 (by decide +kernel) rfl⟩
theorem fl_X10_202 : FL RX10 202 10 11 RX10 TX10 27 := ⟨rfl, inT10, by decide, at_place 846 (by decide +kernel) rfl⟩
theorem fl_X10_39 : FL RX10 39 10 12 RX10 TX10 27 := ⟨rfl, inT10, by decide, at_place 847 (by decide +kernel) rfl⟩
theorem fl_X10_229 : FL RX10 229 10 13 RX10 TX10 27 := ⟨rfl, inT10, by decide, at_place 848 (by decide +kernel) rfl⟩
theorem fl_X10_42 : FL RX10 42 10 14 RX10 TX10 27 := ⟨rfl, inT10, by decide, at_place 849 (by decide +kernel) rfl⟩
theorem fl_X10_244 : FL RX10 244 10 15 RX10 TX10 27 := ⟨rfl, inT10, by decide, at_place 850 (by decide +kernel) rfl⟩
theorem fl_X10_45 : FL RX10 45 10 16 RX10 TX10 27 := ⟨rfl, inT10, by decide, at_place 851 (by decide +kernel) rfl⟩
theorem fl_X10_48 : FL RX10 48 10 17 RX10 TX10 27 := ⟨rfl, inT10, by decide, at_place 852 (by decide +kernel) rfl⟩
theorem fl_X10_51 : FL RX10 51 10 18 RX10 TX10 27 := ⟨rfl, inT10, by decide, at_place 853 (by decide +kernel) rfl⟩
theorem fl_X10_54 : FL RX10 54 10 19 RX10 TX10 27 := ⟨rfl, inT10, by decide, at_place 854 (by decide +kernel) rfl⟩
theorem fl_X10_57 : FL RX10 57 10 20 RX10 TX10 27 := ⟨rfl, inT10, by decide, at_place 855 (by decide +kernel) rfl⟩
theorem fl_X10_60 : FL RX10 60 10 21 RX10 TX10 27 := ⟨rfl, inT10, by decide, at_place 856 (by decide +kernel) rfl⟩
theorem fl_X10_63 : FL RX10 63 10 22 RX10 TX10 27 := ⟨rfl, inT10, by decide, at_place 857 (by decide +kernel) rfl⟩
theorem fl_X10_66 : FL RX10 66 10 23 RX10 TX10 27 := ⟨rfl, inT10, by decide, at_place 858 (by decide +kernel) rfl⟩
theorem fl_X10_276 : FL RX10 276 10 24 RX10 TX10 27 := ⟨rfl, inT10, by decide, at_place 859 (by decide +kernel) rfl⟩
theorem fl_X10_69 : FL RX10 69 10 25 RX10 TX10 27 := ⟨rfl, inT10, by decide, at_place 860 (by decide +kernel) rfl⟩
theorem fl_X10_72 : FL RX10 72 10 26 RX10 TX10 27 := ⟨rfl, inT10, by decide, at_place 861 (by decide +kernel) rfl⟩
theorem ww_75 : Cond.code yX9_init cX9_init 2 none ∈ tb := at_place 75 (by decide +kernel) rfl
theorem ww_57 : Cond.initialized RX9 ∈ tb := at_place 57 (by decide +kernel) rfl
theorem ww_74 : Cond.instanceMethod yX9_init ∈ tb := at_place 74 (by decide +kernel) rfl
theorem ww_73 : Cond.methodLink RL 9 yX9_init ∈ tb := at_place 73 (by decide +kernel) rfl
theorem ww_83 : Cond.code yX2_init cX2_init 1 none ∈ tb := at_place 83 (by decide +kernel) rfl
theorem ww_58 : Cond.initialized RX2 ∈ tb := at_place 58 (by decide +kernel) rfl
theorem ww_82 : Cond.instanceMethod yX2_init ∈ tb := at_place 82 (by decide +kernel) rfl
theorem ww_127 : Cond.code yX5_init cX5_init 1 none ∈ tb := at_place 127 (by decide +kernel) rfl
theorem ww_59 : Cond.initialized RX5 ∈ tb := at_place 59 (by decide +kernel) rfl
theorem ww_126 : Cond.instanceMethod yX5_init ∈ tb := at_place 126 (by decide +kernel) rfl
theorem ww_133 : Cond.code yX0_init cX0_init 1 none ∈ tb := at_place 133 (by decide +kernel) rfl
theorem ww_60 : Cond.initialized RX0 ∈ tb := at_place 60 (by decide +kernel) rfl
theorem ww_132 : Cond.instanceMethod yX0_init ∈ tb := at_place 132 (by decide +kernel) rfl
theorem ww_190 : Cond.code yX8_init cX8_init 1 none ∈ tb := at_place 190 (by decide +kernel) rfl
theorem ww_61 : Cond.initialized RX8 ∈ tb := at_place 61 (by decide +kernel) rfl
theorem ww_189 : Cond.instanceMethod yX8_init ∈ tb := at_place 189 (by decide +kernel) rfl
theorem ww_208 : Cond.code yX7_init cX7_init 1 none ∈ tb := at_place 208 (by decide +kernel) rfl
theorem ww_62 : Cond.initialized RX7 ∈ tb := at_place 62 (by decide +kernel) rfl
theorem ww_207 : Cond.instanceMethod yX7_init ∈ tb := at_place 207 (by decide +kernel) rfl
theorem ww_223 : Cond.code yX4_init cX4_init 1 none ∈ tb := at_place 223 (by decide +kernel) rfl
theorem ww_63 : Cond.initialized RX4 ∈ tb := at_place 63 (by decide +kernel) rfl
theorem ww_222 : Cond.instanceMethod yX4_init ∈ tb := at_place 222 (by decide +kernel) rfl
theorem ww_239 : Cond.code yX3_init cX3_init 1 none ∈ tb := at_place 239 (by decide +kernel) rfl
theorem ww_64 : Cond.initialized RX3 ∈ tb := at_place 64 (by decide +kernel) rfl
theorem ww_238 : Cond.instanceMethod yX3_init ∈ tb := at_place 238 (by decide +kernel) rfl
theorem ww_257 : Cond.code yX6_init cX6_init 1 none ∈ tb := at_place 257 (by decide +kernel) rfl
theorem ww_65 : Cond.initialized RX6 ∈ tb := at_place 65 (by decide +kernel) rfl
theorem ww_256 : Cond.instanceMethod yX6_init ∈ tb := at_place 256 (by decide +kernel) rfl
theorem ww_275 : Cond.code yX1_init cX1_init 1 none ∈ tb := at_place 275 (by decide +kernel) rfl
theorem ww_66 : Cond.initialized RX1 ∈ tb := at_place 66 (by decide +kernel) rfl
theorem ww_274 : Cond.instanceMethod yX1_init ∈ tb := at_place 274 (by decide +kernel) rfl
theorem ww_341 : Cond.code yX9_field cX9_field 4 (some .int) ∈ tb := at_place 341 (by decide +kernel) rfl
theorem ww_338 : Cond.methodLink RL 13 yX9_field ∈ tb := at_place 338 (by decide +kernel) rfl
theorem ww_339 : Cond.instanceMethod yX9_field ∈ tb := at_place 339 (by decide +kernel) rfl
theorem ww_340 : Cond.selects RX9 yX9_field yX9_field ∈ tb := at_place 340 (by decide +kernel) rfl
theorem cv_L_13 : CV RL 13 RX9 yX9_field cX9_field 4 (some .int) 2 := ⟨cv_good ww_338 ww_339 ww_340 ww_57 ww_341, by decide +kernel⟩
theorem ww_344 : Cond.code yX9_isPrime cX9_isPrime 2 (some .boolean) ∈ tb := at_place 344 (by decide +kernel) rfl
theorem ww_342 : Cond.methodLink RX9 82 yX9_isPrime ∈ tb := at_place 342 (by decide +kernel) rfl
theorem ww_343 : Cond.static yX9_isPrime ∈ tb := at_place 343 (by decide +kernel) rfl
theorem cs_X9_82 : CS RX9 82 yX9_isPrime cX9_isPrime 2 (some .boolean) 1 := ⟨cs_good ww_342 ww_343 ww_57 ww_344, by decide +kernel⟩
theorem ww_348 : Cond.code yX9_divided cX9_divided 4 (some .int) ∈ tb := at_place 348 (by decide +kernel) rfl
theorem ww_345 : Cond.methodLink RL 18 yX9_divided ∈ tb := at_place 345 (by decide +kernel) rfl
theorem ww_346 : Cond.instanceMethod yX9_divided ∈ tb := at_place 346 (by decide +kernel) rfl
theorem ww_347 : Cond.selects RX9 yX9_divided yX9_divided ∈ tb := at_place 347 (by decide +kernel) rfl
theorem cv_L_18 : CV RL 18 RX9 yX9_divided cX9_divided 4 (some .int) 2 := ⟨cv_good ww_345 ww_346 ww_347 ww_57 ww_348, by decide +kernel⟩
theorem ww_351 : Cond.code yX9_restOf cX9_restOf 4 (some .int) ∈ tb := at_place 351 (by decide +kernel) rfl
theorem ww_349 : Cond.methodLink RX9 93 yX9_restOf ∈ tb := at_place 349 (by decide +kernel) rfl
theorem ww_350 : Cond.static yX9_restOf ∈ tb := at_place 350 (by decide +kernel) rfl
theorem cs_X9_93 : CS RX9 93 yX9_restOf cX9_restOf 4 (some .int) 2 := ⟨cs_good ww_349 ww_350 ww_57 ww_351, by decide +kernel⟩
theorem ww_354 : Cond.code yX9_quotient cX9_quotient 4 (some .int) ∈ tb := at_place 354 (by decide +kernel) rfl
theorem ww_352 : Cond.methodLink RX9 97 yX9_quotient ∈ tb := at_place 352 (by decide +kernel) rfl
theorem ww_353 : Cond.static yX9_quotient ∈ tb := at_place 353 (by decide +kernel) rfl
theorem cs_X9_97 : CS RX9 97 yX9_quotient cX9_quotient 4 (some .int) 3 := ⟨cs_good ww_352 ww_353 ww_57 ww_354, by decide +kernel⟩
theorem ww_358 : Cond.code yX9_pair cX9_pair 3 (some .int) ∈ tb := at_place 358 (by decide +kernel) rfl
theorem ww_355 : Cond.methodLink RL 22 yX9_pair ∈ tb := at_place 355 (by decide +kernel) rfl
theorem ww_356 : Cond.instanceMethod yX9_pair ∈ tb := at_place 356 (by decide +kernel) rfl
theorem ww_357 : Cond.selects RX9 yX9_pair yX9_pair ∈ tb := at_place 357 (by decide +kernel) rfl
theorem cv_L_22 : CV RL 22 RX9 yX9_pair cX9_pair 3 (some .int) 2 := ⟨cv_good ww_355 ww_356 ww_357 ww_57 ww_358, by decide +kernel⟩
theorem ww_361 : Cond.code yX9_isKind cX9_isKind 1 (some .boolean) ∈ tb := at_place 361 (by decide +kernel) rfl
theorem ww_359 : Cond.methodLink RX9 101 yX9_isKind ∈ tb := at_place 359 (by decide +kernel) rfl
theorem ww_360 : Cond.static yX9_isKind ∈ tb := at_place 360 (by decide +kernel) rfl
theorem cs_X9_101 : CS RX9 101 yX9_isKind cX9_isKind 1 (some .boolean) 1 := ⟨cs_good ww_359 ww_360 ww_57 ww_361, by decide +kernel⟩
theorem ww_366 : Cond.code yX9_isWeight cX9_isWeight 1 (some .boolean) ∈ tb := at_place 366 (by decide +kernel) rfl
theorem ww_364 : Cond.methodLink RX9 104 yX9_isWeight ∈ tb := at_place 364 (by decide +kernel) rfl
theorem ww_365 : Cond.static yX9_isWeight ∈ tb := at_place 365 (by decide +kernel) rfl
theorem cs_X9_104 : CS RX9 104 yX9_isWeight cX9_isWeight 1 (some .boolean) 1 := ⟨cs_good ww_364 ww_365 ww_57 ww_366, by decide +kernel⟩
theorem ww_370 : Cond.code yX2_append cX2_append 5 (some .int) ∈ tb := at_place 370 (by decide +kernel) rfl
theorem ww_367 : Cond.methodLink RX9 110 yX2_append ∈ tb := at_place 367 (by decide +kernel) rfl
theorem ww_368 : Cond.instanceMethod yX2_append ∈ tb := at_place 368 (by decide +kernel) rfl
theorem ww_369 : Cond.selects RX2 yX2_append yX2_append ∈ tb := at_place 369 (by decide +kernel) rfl
theorem cv_X9_110 : CV RX9 110 RX2 yX2_append cX2_append 5 (some .int) 2 := ⟨cv_good ww_367 ww_368 ww_369 ww_58 ww_370, by decide +kernel⟩
theorem ww_374 : Cond.code yX9_entry cX9_entry 7 (some .int) ∈ tb := at_place 374 (by decide +kernel) rfl
theorem ww_371 : Cond.methodLink RL 26 yX9_entry ∈ tb := at_place 371 (by decide +kernel) rfl
theorem ww_372 : Cond.instanceMethod yX9_entry ∈ tb := at_place 372 (by decide +kernel) rfl
theorem ww_373 : Cond.selects RX9 yX9_entry yX9_entry ∈ tb := at_place 373 (by decide +kernel) rfl
theorem cv_L_26 : CV RL 26 RX9 yX9_entry cX9_entry 7 (some .int) 4 := ⟨cv_good ww_371 ww_372 ww_373 ww_57 ww_374, by decide +kernel⟩
theorem ww_378 : Cond.code yX2_has cX2_has 2 (some .boolean) ∈ tb := at_place 378 (by decide +kernel) rfl
theorem ww_375 : Cond.methodLink RX9 114 yX2_has ∈ tb := at_place 375 (by decide +kernel) rfl
theorem ww_376 : Cond.instanceMethod yX2_has ∈ tb := at_place 376 (by decide +kernel) rfl
theorem ww_377 : Cond.selects RX2 yX2_has yX2_has ∈ tb := at_place 377 (by decide +kernel) rfl
theorem cv_X9_114 : CV RX9 114 RX2 yX2_has cX2_has 2 (some .boolean) 1 := ⟨cv_good ww_375 ww_376 ww_377 ww_58 ww_378, by decide +kernel⟩
theorem ww_381 : Cond.code yX9_isBit cX9_isBit 1 (some .boolean) ∈ tb := at_place 381 (by decide +kernel) rfl
theorem ww_379 : Cond.methodLink RX9 117 yX9_isBit ∈ tb := at_place 379 (by decide +kernel) rfl
theorem ww_380 : Cond.static yX9_isBit ∈ tb := at_place 380 (by decide +kernel) rfl
theorem cs_X9_117 : CS RX9 117 yX9_isBit cX9_isBit 1 (some .boolean) 1 := ⟨cs_good ww_379 ww_380 ww_57 ww_381, by decide +kernel⟩
theorem ww_385 : Cond.code yX9_set cX9_set 6 (some .int) ∈ tb := at_place 385 (by decide +kernel) rfl
theorem ww_382 : Cond.methodLink RL 31 yX9_set ∈ tb := at_place 382 (by decide +kernel) rfl
theorem ww_383 : Cond.instanceMethod yX9_set ∈ tb := at_place 383 (by decide +kernel) rfl
theorem ww_384 : Cond.selects RX9 yX9_set yX9_set ∈ tb := at_place 384 (by decide +kernel) rfl
theorem cv_L_31 : CV RL 31 RX9 yX9_set cX9_set 6 (some .int) 3 := ⟨cv_good ww_382 ww_383 ww_384 ww_57 ww_385, by decide +kernel⟩
theorem ww_389 : Cond.code yX9_told cX9_told 3 (some .int) ∈ tb := at_place 389 (by decide +kernel) rfl
theorem ww_386 : Cond.methodLink RL 36 yX9_told ∈ tb := at_place 386 (by decide +kernel) rfl
theorem ww_387 : Cond.instanceMethod yX9_told ∈ tb := at_place 387 (by decide +kernel) rfl
theorem ww_388 : Cond.selects RX9 yX9_told yX9_told ∈ tb := at_place 388 (by decide +kernel) rfl
theorem cv_L_36 : CV RL 36 RX9 yX9_told cX9_told 3 (some .int) 2 := ⟨cv_good ww_386 ww_387 ww_388 ww_57 ww_389, by decide +kernel⟩
theorem ww_393 : Cond.code yX2_placeInQueue cX2_placeInQueue 4 (some .int) ∈ tb := at_place 393 (by decide +kernel) rfl
theorem ww_390 : Cond.methodLink RX9 129 yX2_placeInQueue ∈ tb := at_place 390 (by decide +kernel) rfl
theorem ww_391 : Cond.instanceMethod yX2_placeInQueue ∈ tb := at_place 391 (by decide +kernel) rfl
theorem ww_392 : Cond.selects RX2 yX2_placeInQueue yX2_placeInQueue ∈ tb := at_place 392 (by decide +kernel) rfl
theorem cv_X9_129 : CV RX9 129 RX2 yX2_placeInQueue cX2_placeInQueue 4 (some .int) 1 := ⟨cv_good ww_390 ww_391 ww_392 ww_58 ww_393, by decide +kernel⟩
theorem ww_397 : Cond.code yX2_isAhead cX2_isAhead 3 (some .boolean) ∈ tb := at_place 397 (by decide +kernel) rfl
theorem ww_394 : Cond.methodLink RX2 56 yX2_isAhead ∈ tb := at_place 394 (by decide +kernel) rfl
theorem ww_396 : Cond.instanceMethod yX2_isAhead ∈ tb := at_place 396 (by decide +kernel) rfl
theorem ww_0 : Cond.selects RX2 yX2_isAhead yX2_isAhead ∈ tb := at_place 0 (by decide +kernel) rfl
theorem cv_X2_56 : CV RX2 56 RX2 yX2_isAhead cX2_isAhead 3 (some .boolean) 2 := ⟨cv_good ww_394 ww_396 ww_0 ww_58 ww_397, by decide +kernel⟩
theorem ww_401 : Cond.code yX2_namesBelow cX2_namesBelow 5 (some .int) ∈ tb := at_place 401 (by decide +kernel) rfl
theorem ww_398 : Cond.methodLink RX9 137 yX2_namesBelow ∈ tb := at_place 398 (by decide +kernel) rfl
theorem ww_399 : Cond.instanceMethod yX2_namesBelow ∈ tb := at_place 399 (by decide +kernel) rfl
theorem ww_400 : Cond.selects RX2 yX2_namesBelow yX2_namesBelow ∈ tb := at_place 400 (by decide +kernel) rfl
theorem cv_X9_137 : CV RX9 137 RX2 yX2_namesBelow cX2_namesBelow 5 (some .int) 1 := ⟨cv_good ww_398 ww_399 ww_400 ww_58 ww_401, by decide +kernel⟩
theorem ww_405 : Cond.code yX5_fill cX5_fill 4 none ∈ tb := at_place 405 (by decide +kernel) rfl
theorem ww_402 : Cond.methodLink RX9 141 yX5_fill ∈ tb := at_place 402 (by decide +kernel) rfl
theorem ww_403 : Cond.instanceMethod yX5_fill ∈ tb := at_place 403 (by decide +kernel) rfl
theorem ww_404 : Cond.selects RX5 yX5_fill yX5_fill ∈ tb := at_place 404 (by decide +kernel) rfl
theorem cv_X9_141 : CV RX9 141 RX5 yX5_fill cX5_fill 4 none 1 := ⟨cv_good ww_402 ww_403 ww_404 ww_59 ww_405, by decide +kernel⟩
theorem ww_409 : Cond.code yX2_rowNumber cX2_rowNumber 7 (some .int) ∈ tb := at_place 409 (by decide +kernel) rfl
theorem ww_406 : Cond.methodLink RX5 37 yX2_rowNumber ∈ tb := at_place 406 (by decide +kernel) rfl
theorem ww_407 : Cond.instanceMethod yX2_rowNumber ∈ tb := at_place 407 (by decide +kernel) rfl
theorem ww_408 : Cond.selects RX2 yX2_rowNumber yX2_rowNumber ∈ tb := at_place 408 (by decide +kernel) rfl
theorem cv_X5_37 : CV RX5 37 RX2 yX2_rowNumber cX2_rowNumber 7 (some .int) 3 := ⟨cv_good ww_406 ww_407 ww_408 ww_58 ww_409, by decide +kernel⟩
theorem ww_412 : Cond.code yX2_inFirst cX2_inFirst 4 (some .int) ∈ tb := at_place 412 (by decide +kernel) rfl
theorem ww_410 : Cond.methodLink RX2 44 yX2_inFirst ∈ tb := at_place 410 (by decide +kernel) rfl
theorem ww_411 : Cond.static yX2_inFirst ∈ tb := at_place 411 (by decide +kernel) rfl
theorem cs_X2_44 : CS RX2 44 yX2_inFirst cX2_inFirst 4 (some .int) 4 := ⟨cs_good ww_410 ww_411 ww_58 ww_412, by decide +kernel⟩
theorem ww_415 : Cond.code yX2_inSecond cX2_inSecond 3 (some .int) ∈ tb := at_place 415 (by decide +kernel) rfl
theorem ww_413 : Cond.methodLink RX2 48 yX2_inSecond ∈ tb := at_place 413 (by decide +kernel) rfl
theorem ww_414 : Cond.static yX2_inSecond ∈ tb := at_place 414 (by decide +kernel) rfl
theorem cs_X2_48 : CS RX2 48 yX2_inSecond cX2_inSecond 3 (some .int) 3 := ⟨cs_good ww_413 ww_414 ww_58 ww_415, by decide +kernel⟩
theorem cn_X2_52 : CN RX2 52 yX9_restOf cX9_restOf 4 (some .int) 2 := ⟨by simp [nests], ws_good ww_351, ww_350, ww_57, by decide +kernel⟩
theorem ww_420 : Cond.code yX5_rankOf cX5_rankOf 4 (some .int) ∈ tb := at_place 420 (by decide +kernel) rfl
theorem ww_417 : Cond.methodLink RX9 145 yX5_rankOf ∈ tb := at_place 417 (by decide +kernel) rfl
theorem ww_418 : Cond.instanceMethod yX5_rankOf ∈ tb := at_place 418 (by decide +kernel) rfl
theorem ww_419 : Cond.selects RX5 yX5_rankOf yX5_rankOf ∈ tb := at_place 419 (by decide +kernel) rfl
theorem cv_X9_145 : CV RX9 145 RX5 yX5_rankOf cX5_rankOf 4 (some .int) 2 := ⟨cv_good ww_417 ww_418 ww_419 ww_59 ww_420, by decide +kernel⟩
theorem ww_424 : Cond.code yX0_clear cX0_clear 5 none ∈ tb := at_place 424 (by decide +kernel) rfl
theorem ww_421 : Cond.methodLink RX5 41 yX0_clear ∈ tb := at_place 421 (by decide +kernel) rfl
theorem ww_422 : Cond.instanceMethod yX0_clear ∈ tb := at_place 422 (by decide +kernel) rfl
theorem ww_423 : Cond.selects RX0 yX0_clear yX0_clear ∈ tb := at_place 423 (by decide +kernel) rfl
theorem cv_X5_41 : CV RX5 41 RX0 yX0_clear cX0_clear 5 none 3 := ⟨cv_good ww_421 ww_422 ww_423 ww_60 ww_424, by decide +kernel⟩
theorem ww_428 : Cond.code yX0_add cX0_add 4 none ∈ tb := at_place 428 (by decide +kernel) rfl
theorem ww_425 : Cond.methodLink RX5 45 yX0_add ∈ tb := at_place 425 (by decide +kernel) rfl
theorem ww_426 : Cond.instanceMethod yX0_add ∈ tb := at_place 426 (by decide +kernel) rfl
theorem ww_427 : Cond.selects RX0 yX0_add yX0_add ∈ tb := at_place 427 (by decide +kernel) rfl
theorem cv_X5_45 : CV RX5 45 RX0 yX0_add cX0_add 4 none 2 := ⟨cv_good ww_425 ww_426 ww_427 ww_60 ww_428, by decide +kernel⟩
theorem ww_432 : Cond.code yX0_keepWork cX0_keepWork 3 none ∈ tb := at_place 432 (by decide +kernel) rfl
theorem ww_429 : Cond.methodLink RX0 35 yX0_keepWork ∈ tb := at_place 429 (by decide +kernel) rfl
theorem ww_431 : Cond.instanceMethod yX0_keepWork ∈ tb := at_place 431 (by decide +kernel) rfl
theorem ww_1 : Cond.selects RX0 yX0_keepWork yX0_keepWork ∈ tb := at_place 1 (by decide +kernel) rfl
theorem cv_X0_35 : CV RX0 35 RX0 yX0_keepWork cX0_keepWork 3 none 1 := ⟨cv_good ww_429 ww_431 ww_1 ww_60 ww_432, by decide +kernel⟩
theorem ww_436 : Cond.code yX0_clearPlace cX0_clearPlace 5 none ∈ tb := at_place 436 (by decide +kernel) rfl
theorem ww_433 : Cond.methodLink RX0 39 yX0_clearPlace ∈ tb := at_place 433 (by decide +kernel) rfl
theorem ww_435 : Cond.instanceMethod yX0_clearPlace ∈ tb := at_place 435 (by decide +kernel) rfl
theorem ww_2 : Cond.selects RX0 yX0_clearPlace yX0_clearPlace ∈ tb := at_place 2 (by decide +kernel) rfl
theorem cv_X0_39 : CV RX0 39 RX0 yX0_clearPlace cX0_clearPlace 5 none 1 := ⟨cv_good ww_433 ww_435 ww_2 ww_60 ww_436, by decide +kernel⟩
theorem ww_440 : Cond.code yX9_number cX9_number 4 (some .int) ∈ tb := at_place 440 (by decide +kernel) rfl
theorem ww_437 : Cond.methodLink RL 40 yX9_number ∈ tb := at_place 437 (by decide +kernel) rfl
theorem ww_438 : Cond.instanceMethod yX9_number ∈ tb := at_place 438 (by decide +kernel) rfl
theorem ww_439 : Cond.selects RX9 yX9_number yX9_number ∈ tb := at_place 439 (by decide +kernel) rfl
theorem cv_L_40 : CV RL 40 RX9 yX9_number cX9_number 4 (some .int) 3 := ⟨cv_good ww_437 ww_438 ww_439 ww_57 ww_440, by decide +kernel⟩
theorem ww_441 : Cond.methodLink RX9 148 yX2_rowNumber ∈ tb := at_place 441 (by decide +kernel) rfl
theorem cv_X9_148 : CV RX9 148 RX2 yX2_rowNumber cX2_rowNumber 7 (some .int) 3 := ⟨cv_good ww_441 ww_407 ww_408 ww_58 ww_409, by decide +kernel⟩
theorem ww_445 : Cond.code yX9_drop cX9_drop 1 (some .int) ∈ tb := at_place 445 (by decide +kernel) rfl
theorem ww_442 : Cond.methodLink RL 44 yX9_drop ∈ tb := at_place 442 (by decide +kernel) rfl
theorem ww_443 : Cond.instanceMethod yX9_drop ∈ tb := at_place 443 (by decide +kernel) rfl
theorem ww_444 : Cond.selects RX9 yX9_drop yX9_drop ∈ tb := at_place 444 (by decide +kernel) rfl
theorem cv_L_44 : CV RL 44 RX9 yX9_drop cX9_drop 1 (some .int) 0 := ⟨cv_good ww_442 ww_443 ww_444 ww_57 ww_445, by decide +kernel⟩
theorem ww_449 : Cond.code yX9_name cX9_name 5 (some .int) ∈ tb := at_place 449 (by decide +kernel) rfl
theorem ww_446 : Cond.methodLink RL 51 yX9_name ∈ tb := at_place 446 (by decide +kernel) rfl
theorem ww_447 : Cond.instanceMethod yX9_name ∈ tb := at_place 447 (by decide +kernel) rfl
theorem ww_448 : Cond.selects RX9 yX9_name yX9_name ∈ tb := at_place 448 (by decide +kernel) rfl
theorem cv_L_51 : CV RL 51 RX9 yX9_name cX9_name 5 (some .int) 2 := ⟨cv_good ww_446 ww_447 ww_448 ww_57 ww_449, by decide +kernel⟩
theorem ww_452 : Cond.code yX9_isName cX9_isName 5 (some .boolean) ∈ tb := at_place 452 (by decide +kernel) rfl
theorem ww_450 : Cond.methodLink RX9 151 yX9_isName ∈ tb := at_place 450 (by decide +kernel) rfl
theorem ww_451 : Cond.static yX9_isName ∈ tb := at_place 451 (by decide +kernel) rfl
theorem cs_X9_151 : CS RX9 151 yX9_isName cX9_isName 5 (some .boolean) 1 := ⟨cs_good ww_450 ww_451 ww_57 ww_452, by decide +kernel⟩
theorem ww_457 : Cond.code yX2_ownerOf cX2_ownerOf 4 (some .int) ∈ tb := at_place 457 (by decide +kernel) rfl
theorem ww_454 : Cond.methodLink RX9 155 yX2_ownerOf ∈ tb := at_place 454 (by decide +kernel) rfl
theorem ww_455 : Cond.instanceMethod yX2_ownerOf ∈ tb := at_place 455 (by decide +kernel) rfl
theorem ww_456 : Cond.selects RX2 yX2_ownerOf yX2_ownerOf ∈ tb := at_place 456 (by decide +kernel) rfl
theorem cv_X9_155 : CV RX9 155 RX2 yX2_ownerOf cX2_ownerOf 4 (some .int) 1 := ⟨cv_good ww_454 ww_455 ww_456 ww_58 ww_457, by decide +kernel⟩
theorem ww_461 : Cond.code yX9_named cX9_named 3 (some .int) ∈ tb := at_place 461 (by decide +kernel) rfl
theorem ww_458 : Cond.methodLink RL 56 yX9_named ∈ tb := at_place 458 (by decide +kernel) rfl
theorem ww_459 : Cond.instanceMethod yX9_named ∈ tb := at_place 459 (by decide +kernel) rfl
theorem ww_460 : Cond.selects RX9 yX9_named yX9_named ∈ tb := at_place 460 (by decide +kernel) rfl
theorem cv_L_56 : CV RL 56 RX9 yX9_named cX9_named 3 (some .int) 1 := ⟨cv_good ww_458 ww_459 ww_460 ww_57 ww_461, by decide +kernel⟩
theorem ww_465 : Cond.code yX9_unname cX9_unname 3 (some .int) ∈ tb := at_place 465 (by decide +kernel) rfl
theorem ww_462 : Cond.methodLink RL 61 yX9_unname ∈ tb := at_place 462 (by decide +kernel) rfl
theorem ww_463 : Cond.instanceMethod yX9_unname ∈ tb := at_place 463 (by decide +kernel) rfl
theorem ww_464 : Cond.selects RX9 yX9_unname yX9_unname ∈ tb := at_place 464 (by decide +kernel) rfl
theorem cv_L_61 : CV RL 61 RX9 yX9_unname cX9_unname 3 (some .int) 1 := ⟨cv_good ww_462 ww_463 ww_464 ww_57 ww_465, by decide +kernel⟩
theorem ww_469 : Cond.code yX9_nameAt cX9_nameAt 5 (some .long) ∈ tb := at_place 469 (by decide +kernel) rfl
theorem ww_466 : Cond.methodLink RL 66 yX9_nameAt ∈ tb := at_place 466 (by decide +kernel) rfl
theorem ww_467 : Cond.instanceMethod yX9_nameAt ∈ tb := at_place 467 (by decide +kernel) rfl
theorem ww_468 : Cond.selects RX9 yX9_nameAt yX9_nameAt ∈ tb := at_place 468 (by decide +kernel) rfl
theorem cv_L_66 : CV RL 66 RX9 yX9_nameAt cX9_nameAt 5 (some .long) 1 := ⟨cv_good ww_466 ww_467 ww_468 ww_57 ww_469, by decide +kernel⟩
theorem ww_474 : Cond.code yX9_rank cX9_rank 2 (some .int) ∈ tb := at_place 474 (by decide +kernel) rfl
theorem ww_471 : Cond.methodLink RL 71 yX9_rank ∈ tb := at_place 471 (by decide +kernel) rfl
theorem ww_472 : Cond.instanceMethod yX9_rank ∈ tb := at_place 472 (by decide +kernel) rfl
theorem ww_473 : Cond.selects RX9 yX9_rank yX9_rank ∈ tb := at_place 473 (by decide +kernel) rfl
theorem cv_L_71 : CV RL 71 RX9 yX9_rank cX9_rank 2 (some .int) 1 := ⟨cv_good ww_471 ww_472 ww_473 ww_57 ww_474, by decide +kernel⟩
theorem ww_478 : Cond.code yX2_hasAll cX2_hasAll 2 (some .boolean) ∈ tb := at_place 478 (by decide +kernel) rfl
theorem ww_475 : Cond.methodLink RX9 160 yX2_hasAll ∈ tb := at_place 475 (by decide +kernel) rfl
theorem ww_476 : Cond.instanceMethod yX2_hasAll ∈ tb := at_place 476 (by decide +kernel) rfl
theorem ww_477 : Cond.selects RX2 yX2_hasAll yX2_hasAll ∈ tb := at_place 477 (by decide +kernel) rfl
theorem cv_X9_160 : CV RX9 160 RX2 yX2_hasAll cX2_hasAll 2 (some .boolean) 1 := ⟨cv_good ww_475 ww_476 ww_477 ww_58 ww_478, by decide +kernel⟩
theorem ww_482 : Cond.code yX9_stands cX9_stands 2 (some .int) ∈ tb := at_place 482 (by decide +kernel) rfl
theorem ww_479 : Cond.methodLink RL 75 yX9_stands ∈ tb := at_place 479 (by decide +kernel) rfl
theorem ww_480 : Cond.instanceMethod yX9_stands ∈ tb := at_place 480 (by decide +kernel) rfl
theorem ww_481 : Cond.selects RX9 yX9_stands yX9_stands ∈ tb := at_place 481 (by decide +kernel) rfl
theorem cv_L_75 : CV RL 75 RX9 yX9_stands cX9_stands 2 (some .int) 1 := ⟨cv_good ww_479 ww_480 ww_481 ww_57 ww_482, by decide +kernel⟩
theorem ww_486 : Cond.code yX5_isStanding cX5_isStanding 3 (some .boolean) ∈ tb := at_place 486 (by decide +kernel) rfl
theorem ww_483 : Cond.methodLink RX9 163 yX5_isStanding ∈ tb := at_place 483 (by decide +kernel) rfl
theorem ww_484 : Cond.instanceMethod yX5_isStanding ∈ tb := at_place 484 (by decide +kernel) rfl
theorem ww_485 : Cond.selects RX5 yX5_isStanding yX5_isStanding ∈ tb := at_place 485 (by decide +kernel) rfl
theorem cv_X9_163 : CV RX9 163 RX5 yX5_isStanding cX5_isStanding 3 (some .boolean) 1 := ⟨cv_good ww_483 ww_484 ww_485 ww_59 ww_486, by decide +kernel⟩
theorem ww_489 : Cond.code yJ6_bitCount_0f7a4 cJ6_bitCount_0f7a4 1 (some .int) ∈ tb := at_place 489 (by decide +kernel) rfl
theorem ww_68 : Cond.initialized RJ6 ∈ tb := at_place 68 (by decide +kernel) rfl
theorem ww_487 : Cond.methodLink RX5 52 yJ6_bitCount_0f7a4 ∈ tb := at_place 487 (by decide +kernel) rfl
theorem ww_488 : Cond.static yJ6_bitCount_0f7a4 ∈ tb := at_place 488 (by decide +kernel) rfl
theorem cs_X5_52 : CS RX5 52 yJ6_bitCount_0f7a4 cJ6_bitCount_0f7a4 1 (some .int) 1 := ⟨cs_good ww_487 ww_488 ww_68 ww_489, by decide +kernel⟩
theorem ww_493 : Cond.methodLink RX5 58 yX5_rankOf ∈ tb := at_place 493 (by decide +kernel) rfl
theorem cv_X5_58 : CV RX5 58 RX5 yX5_rankOf cX5_rankOf 4 (some .int) 2 := ⟨cv_good ww_493 ww_418 ww_419 ww_59 ww_420, by decide +kernel⟩
theorem ww_497 : Cond.code yX9_most cX9_most 1 (some .int) ∈ tb := at_place 497 (by decide +kernel) rfl
theorem ww_494 : Cond.methodLink RL 79 yX9_most ∈ tb := at_place 494 (by decide +kernel) rfl
theorem ww_495 : Cond.instanceMethod yX9_most ∈ tb := at_place 495 (by decide +kernel) rfl
theorem ww_496 : Cond.selects RX9 yX9_most yX9_most ∈ tb := at_place 496 (by decide +kernel) rfl
theorem cv_L_79 : CV RL 79 RX9 yX9_most cX9_most 1 (some .int) 0 := ⟨cv_good ww_494 ww_495 ww_496 ww_57 ww_497, by decide +kernel⟩
theorem ww_501 : Cond.code yX9_fillStanding cX9_fillStanding 1 none ∈ tb := at_place 501 (by decide +kernel) rfl
theorem ww_498 : Cond.methodLink RX9 166 yX9_fillStanding ∈ tb := at_place 498 (by decide +kernel) rfl
theorem ww_500 : Cond.instanceMethod yX9_fillStanding ∈ tb := at_place 500 (by decide +kernel) rfl
theorem ww_3 : Cond.selects RX9 yX9_fillStanding yX9_fillStanding ∈ tb := at_place 3 (by decide +kernel) rfl
theorem cv_X9_166 : CV RX9 166 RX9 yX9_fillStanding cX9_fillStanding 1 none 0 := ⟨cv_good ww_498 ww_500 ww_3 ww_57 ww_501, by decide +kernel⟩
theorem ww_505 : Cond.code yX8_fill cX8_fill 3 none ∈ tb := at_place 505 (by decide +kernel) rfl
theorem ww_502 : Cond.methodLink RX9 321 yX8_fill ∈ tb := at_place 502 (by decide +kernel) rfl
theorem ww_503 : Cond.instanceMethod yX8_fill ∈ tb := at_place 503 (by decide +kernel) rfl
theorem ww_504 : Cond.selects RX8 yX8_fill yX8_fill ∈ tb := at_place 504 (by decide +kernel) rfl
theorem cv_X9_321 : CV RX9 321 RX8 yX8_fill cX8_fill 3 none 1 := ⟨cv_good ww_502 ww_503 ww_504 ww_61 ww_505, by decide +kernel⟩
theorem ww_506 : Cond.methodLink RX8 25 yX5_isStanding ∈ tb := at_place 506 (by decide +kernel) rfl
theorem cv_X8_25 : CV RX8 25 RX5 yX5_isStanding cX5_isStanding 3 (some .boolean) 1 := ⟨cv_good ww_506 ww_484 ww_485 ww_59 ww_486, by decide +kernel⟩
theorem ww_510 : Cond.code yX8_greatest cX8_greatest 3 (some .int) ∈ tb := at_place 510 (by decide +kernel) rfl
theorem ww_507 : Cond.methodLink RX9 169 yX8_greatest ∈ tb := at_place 507 (by decide +kernel) rfl
theorem ww_508 : Cond.instanceMethod yX8_greatest ∈ tb := at_place 508 (by decide +kernel) rfl
theorem ww_509 : Cond.selects RX8 yX8_greatest yX8_greatest ∈ tb := at_place 509 (by decide +kernel) rfl
theorem cv_X9_169 : CV RX9 169 RX8 yX8_greatest cX8_greatest 3 (some .int) 0 := ⟨cv_good ww_507 ww_508 ww_509 ww_61 ww_510, by decide +kernel⟩
theorem ww_511 : Cond.methodLink RX8 29 yJ6_bitCount_0f7a4 ∈ tb := at_place 511 (by decide +kernel) rfl
theorem cs_X8_29 : CS RX8 29 yJ6_bitCount_0f7a4 cJ6_bitCount_0f7a4 1 (some .int) 1 := ⟨cs_good ww_511 ww_488 ww_68 ww_489, by decide +kernel⟩
theorem ww_514 : Cond.code yJ9_max_7cf53 cJ9_max_7cf53 2 (some .int) ∈ tb := at_place 514 (by decide +kernel) rfl
theorem ww_69 : Cond.initialized RJ9 ∈ tb := at_place 69 (by decide +kernel) rfl
theorem ww_512 : Cond.methodLink RX8 35 yJ9_max_7cf53 ∈ tb := at_place 512 (by decide +kernel) rfl
theorem ww_513 : Cond.static yJ9_max_7cf53 ∈ tb := at_place 513 (by decide +kernel) rfl
theorem cs_X8_35 : CS RX8 35 yJ9_max_7cf53 cJ9_max_7cf53 2 (some .int) 2 := ⟨cs_good ww_512 ww_513 ww_69 ww_514, by decide +kernel⟩
theorem ww_518 : Cond.code yX9_best cX9_best 8 (some .int) ∈ tb := at_place 518 (by decide +kernel) rfl
theorem ww_515 : Cond.methodLink RL 83 yX9_best ∈ tb := at_place 515 (by decide +kernel) rfl
theorem ww_516 : Cond.instanceMethod yX9_best ∈ tb := at_place 516 (by decide +kernel) rfl
theorem ww_517 : Cond.selects RX9 yX9_best yX9_best ∈ tb := at_place 517 (by decide +kernel) rfl
theorem cv_L_83 : CV RL 83 RX9 yX9_best cX9_best 8 (some .int) 1 := ⟨cv_good ww_515 ww_516 ww_517 ww_57 ww_518, by decide +kernel⟩
theorem ww_519 : Cond.methodLink RX9 180 yJ6_bitCount_0f7a4 ∈ tb := at_place 519 (by decide +kernel) rfl
theorem cs_X9_180 : CS RX9 180 yJ6_bitCount_0f7a4 cJ6_bitCount_0f7a4 1 (some .int) 1 := ⟨cs_good ww_519 ww_488 ww_68 ww_489, by decide +kernel⟩
theorem ww_523 : Cond.code yX9_heavy cX9_heavy 5 (some .int) ∈ tb := at_place 523 (by decide +kernel) rfl
theorem ww_520 : Cond.methodLink RL 87 yX9_heavy ∈ tb := at_place 520 (by decide +kernel) rfl
theorem ww_521 : Cond.instanceMethod yX9_heavy ∈ tb := at_place 521 (by decide +kernel) rfl
theorem ww_522 : Cond.selects RX9 yX9_heavy yX9_heavy ∈ tb := at_place 522 (by decide +kernel) rfl
theorem cv_L_87 : CV RL 87 RX9 yX9_heavy cX9_heavy 5 (some .int) 1 := ⟨cv_good ww_520 ww_521 ww_522 ww_57 ww_523, by decide +kernel⟩
theorem ww_527 : Cond.code yX2_weightOf cX2_weightOf 4 (some .int) ∈ tb := at_place 527 (by decide +kernel) rfl
theorem ww_524 : Cond.methodLink RX9 185 yX2_weightOf ∈ tb := at_place 524 (by decide +kernel) rfl
theorem ww_525 : Cond.instanceMethod yX2_weightOf ∈ tb := at_place 525 (by decide +kernel) rfl
theorem ww_526 : Cond.selects RX2 yX2_weightOf yX2_weightOf ∈ tb := at_place 526 (by decide +kernel) rfl
theorem cv_X9_185 : CV RX9 185 RX2 yX2_weightOf cX2_weightOf 4 (some .int) 1 := ⟨cv_good ww_524 ww_525 ww_526 ww_58 ww_527, by decide +kernel⟩
theorem ww_531 : Cond.code yX9_queue cX9_queue 2 (some .int) ∈ tb := at_place 531 (by decide +kernel) rfl
theorem ww_528 : Cond.methodLink RL 91 yX9_queue ∈ tb := at_place 528 (by decide +kernel) rfl
theorem ww_529 : Cond.instanceMethod yX9_queue ∈ tb := at_place 529 (by decide +kernel) rfl
theorem ww_530 : Cond.selects RX9 yX9_queue yX9_queue ∈ tb := at_place 530 (by decide +kernel) rfl
theorem cv_L_91 : CV RL 91 RX9 yX9_queue cX9_queue 2 (some .int) 1 := ⟨cv_good ww_528 ww_529 ww_530 ww_57 ww_531, by decide +kernel⟩
theorem ww_535 : Cond.code yX9_fillOrder cX9_fillOrder 2 none ∈ tb := at_place 535 (by decide +kernel) rfl
theorem ww_532 : Cond.methodLink RX9 188 yX9_fillOrder ∈ tb := at_place 532 (by decide +kernel) rfl
theorem ww_534 : Cond.instanceMethod yX9_fillOrder ∈ tb := at_place 534 (by decide +kernel) rfl
theorem ww_4 : Cond.selects RX9 yX9_fillOrder yX9_fillOrder ∈ tb := at_place 4 (by decide +kernel) rfl
theorem cv_X9_188 : CV RX9 188 RX9 yX9_fillOrder cX9_fillOrder 2 none 0 := ⟨cv_good ww_532 ww_534 ww_4 ww_57 ww_535, by decide +kernel⟩
theorem ww_539 : Cond.code yX9_greedy cX9_greedy 5 (some .int) ∈ tb := at_place 539 (by decide +kernel) rfl
theorem ww_536 : Cond.methodLink RL 95 yX9_greedy ∈ tb := at_place 536 (by decide +kernel) rfl
theorem ww_537 : Cond.instanceMethod yX9_greedy ∈ tb := at_place 537 (by decide +kernel) rfl
theorem ww_538 : Cond.selects RX9 yX9_greedy yX9_greedy ∈ tb := at_place 538 (by decide +kernel) rfl
theorem cv_L_95 : CV RL 95 RX9 yX9_greedy cX9_greedy 5 (some .int) 1 := ⟨cv_good ww_536 ww_537 ww_538 ww_57 ww_539, by decide +kernel⟩
theorem ww_543 : Cond.code yX9_better cX9_better 2 (some .int) ∈ tb := at_place 543 (by decide +kernel) rfl
theorem ww_540 : Cond.methodLink RL 99 yX9_better ∈ tb := at_place 540 (by decide +kernel) rfl
theorem ww_541 : Cond.instanceMethod yX9_better ∈ tb := at_place 541 (by decide +kernel) rfl
theorem ww_542 : Cond.selects RX9 yX9_better yX9_better ∈ tb := at_place 542 (by decide +kernel) rfl
theorem cv_L_99 : CV RL 99 RX9 yX9_better cX9_better 2 (some .int) 1 := ⟨cv_good ww_540 ww_541 ww_542 ww_57 ww_543, by decide +kernel⟩
theorem ww_547 : Cond.code yX8_bettered cX8_bettered 5 (some .int) ∈ tb := at_place 547 (by decide +kernel) rfl
theorem ww_544 : Cond.methodLink RX9 191 yX8_bettered ∈ tb := at_place 544 (by decide +kernel) rfl
theorem ww_545 : Cond.instanceMethod yX8_bettered ∈ tb := at_place 545 (by decide +kernel) rfl
theorem ww_546 : Cond.selects RX8 yX8_bettered yX8_bettered ∈ tb := at_place 546 (by decide +kernel) rfl
theorem cv_X9_191 : CV RX9 191 RX8 yX8_bettered cX8_bettered 5 (some .int) 1 := ⟨cv_good ww_544 ww_545 ww_546 ww_61 ww_547, by decide +kernel⟩
theorem ww_551 : Cond.code yX8_withOneMore cX8_withOneMore 4 (some .int) ∈ tb := at_place 551 (by decide +kernel) rfl
theorem ww_548 : Cond.methodLink RX8 41 yX8_withOneMore ∈ tb := at_place 548 (by decide +kernel) rfl
theorem ww_550 : Cond.instanceMethod yX8_withOneMore ∈ tb := at_place 550 (by decide +kernel) rfl
theorem ww_5 : Cond.selects RX8 yX8_withOneMore yX8_withOneMore ∈ tb := at_place 5 (by decide +kernel) rfl
theorem cv_X8_41 : CV RX8 41 RX8 yX8_withOneMore cX8_withOneMore 4 (some .int) 1 := ⟨cv_good ww_548 ww_550 ww_5 ww_61 ww_551, by decide +kernel⟩
theorem ww_555 : Cond.code yX8_withTwoForOne cX8_withTwoForOne 4 (some .int) ∈ tb := at_place 555 (by decide +kernel) rfl
theorem ww_552 : Cond.methodLink RX8 44 yX8_withTwoForOne ∈ tb := at_place 552 (by decide +kernel) rfl
theorem ww_554 : Cond.instanceMethod yX8_withTwoForOne ∈ tb := at_place 554 (by decide +kernel) rfl
theorem ww_6 : Cond.selects RX8 yX8_withTwoForOne yX8_withTwoForOne ∈ tb := at_place 6 (by decide +kernel) rfl
theorem cv_X8_44 : CV RX8 44 RX8 yX8_withTwoForOne cX8_withTwoForOne 4 (some .int) 1 := ⟨cv_good ww_552 ww_554 ww_6 ww_61 ww_555, by decide +kernel⟩
theorem ww_559 : Cond.code yX8_twoMore cX8_twoMore 6 (some .int) ∈ tb := at_place 559 (by decide +kernel) rfl
theorem ww_556 : Cond.methodLink RX8 47 yX8_twoMore ∈ tb := at_place 556 (by decide +kernel) rfl
theorem ww_558 : Cond.instanceMethod yX8_twoMore ∈ tb := at_place 558 (by decide +kernel) rfl
theorem ww_7 : Cond.selects RX8 yX8_twoMore yX8_twoMore ∈ tb := at_place 7 (by decide +kernel) rfl
theorem cv_X8_47 : CV RX8 47 RX8 yX8_twoMore cX8_twoMore 6 (some .int) 2 := ⟨cv_good ww_556 ww_558 ww_7 ww_61 ww_559, by decide +kernel⟩
theorem ww_563 : Cond.code yX9_table cX9_table 4 (some .int) ∈ tb := at_place 563 (by decide +kernel) rfl
theorem ww_560 : Cond.methodLink RL 103 yX9_table ∈ tb := at_place 560 (by decide +kernel) rfl
theorem ww_561 : Cond.instanceMethod yX9_table ∈ tb := at_place 561 (by decide +kernel) rfl
theorem ww_562 : Cond.selects RX9 yX9_table yX9_table ∈ tb := at_place 562 (by decide +kernel) rfl
theorem cv_L_103 : CV RL 103 RX9 yX9_table cX9_table 4 (some .int) 3 := ⟨cv_good ww_560 ww_561 ww_562 ww_57 ww_563, by decide +kernel⟩
theorem ww_566 : Cond.code yX9_isSheet cX9_isSheet 1 (some .boolean) ∈ tb := at_place 566 (by decide +kernel) rfl
theorem ww_564 : Cond.methodLink RX9 194 yX9_isSheet ∈ tb := at_place 564 (by decide +kernel) rfl
theorem ww_565 : Cond.static yX9_isSheet ∈ tb := at_place 565 (by decide +kernel) rfl
theorem cs_X9_194 : CS RX9 194 yX9_isSheet cX9_isSheet 1 (some .boolean) 1 := ⟨cs_good ww_564 ww_565 ww_57 ww_566, by decide +kernel⟩
theorem ww_570 : Cond.code yX6_isMissing cX6_isMissing 1 (some .boolean) ∈ tb := at_place 570 (by decide +kernel) rfl
theorem ww_567 : Cond.methodLink RX9 197 yX6_isMissing ∈ tb := at_place 567 (by decide +kernel) rfl
theorem ww_568 : Cond.instanceMethod yX6_isMissing ∈ tb := at_place 568 (by decide +kernel) rfl
theorem ww_569 : Cond.selects RX6 yX6_isMissing yX6_isMissing ∈ tb := at_place 569 (by decide +kernel) rfl
theorem cv_X9_197 : CV RX9 197 RX6 yX6_isMissing cX6_isMissing 1 (some .boolean) 0 := ⟨cv_good ww_567 ww_568 ww_569 ww_65 ww_570, by decide +kernel⟩
theorem ww_574 : Cond.code yX9_fillTimes cX9_fillTimes 3 none ∈ tb := at_place 574 (by decide +kernel) rfl
theorem ww_571 : Cond.methodLink RX9 201 yX9_fillTimes ∈ tb := at_place 571 (by decide +kernel) rfl
theorem ww_573 : Cond.instanceMethod yX9_fillTimes ∈ tb := at_place 573 (by decide +kernel) rfl
theorem ww_8 : Cond.selects RX9 yX9_fillTimes yX9_fillTimes ∈ tb := at_place 8 (by decide +kernel) rfl
theorem cv_X9_201 : CV RX9 201 RX9 yX9_fillTimes cX9_fillTimes 3 none 1 := ⟨cv_good ww_571 ww_573 ww_8 ww_57 ww_574, by decide +kernel⟩
theorem ww_578 : Cond.code yX6_numberFor cX6_numberFor 2 (some .long) ∈ tb := at_place 578 (by decide +kernel) rfl
theorem ww_575 : Cond.methodLink RX9 325 yX6_numberFor ∈ tb := at_place 575 (by decide +kernel) rfl
theorem ww_576 : Cond.instanceMethod yX6_numberFor ∈ tb := at_place 576 (by decide +kernel) rfl
theorem ww_577 : Cond.selects RX6 yX6_numberFor yX6_numberFor ∈ tb := at_place 577 (by decide +kernel) rfl
theorem cv_X9_325 : CV RX9 325 RX6 yX6_numberFor cX6_numberFor 2 (some .long) 1 := ⟨cv_good ww_575 ww_576 ww_577 ww_65 ww_578, by decide +kernel⟩
theorem ww_582 : Cond.code yX6_has cX6_has 2 (some .boolean) ∈ tb := at_place 582 (by decide +kernel) rfl
theorem ww_579 : Cond.methodLink RX6 22 yX6_has ∈ tb := at_place 579 (by decide +kernel) rfl
theorem ww_580 : Cond.instanceMethod yX6_has ∈ tb := at_place 580 (by decide +kernel) rfl
theorem ww_581 : Cond.selects RX6 yX6_has yX6_has ∈ tb := at_place 581 (by decide +kernel) rfl
theorem cv_X6_22 : CV RX6 22 RX6 yX6_has cX6_has 2 (some .boolean) 1 := ⟨cv_good ww_579 ww_580 ww_581 ww_65 ww_582, by decide +kernel⟩
theorem ww_586 : Cond.code yX7_numberAt cX7_numberAt 7 (some .int) ∈ tb := at_place 586 (by decide +kernel) rfl
theorem ww_583 : Cond.methodLink RX9 205 yX7_numberAt ∈ tb := at_place 583 (by decide +kernel) rfl
theorem ww_584 : Cond.instanceMethod yX7_numberAt ∈ tb := at_place 584 (by decide +kernel) rfl
theorem ww_585 : Cond.selects RX7 yX7_numberAt yX7_numberAt ∈ tb := at_place 585 (by decide +kernel) rfl
theorem cv_X9_205 : CV RX9 205 RX7 yX7_numberAt cX7_numberAt 7 (some .int) 4 := ⟨cv_good ww_583 ww_584 ww_585 ww_62 ww_586, by decide +kernel⟩
theorem ww_590 : Cond.code yX5_difference cX5_difference 6 (some .int) ∈ tb := at_place 590 (by decide +kernel) rfl
theorem ww_587 : Cond.methodLink RX7 28 yX5_difference ∈ tb := at_place 587 (by decide +kernel) rfl
theorem ww_588 : Cond.instanceMethod yX5_difference ∈ tb := at_place 588 (by decide +kernel) rfl
theorem ww_589 : Cond.selects RX5 yX5_difference yX5_difference ∈ tb := at_place 589 (by decide +kernel) rfl
theorem cv_X7_28 : CV RX7 28 RX5 yX5_difference cX5_difference 6 (some .int) 3 := ⟨cv_good ww_587 ww_588 ww_589 ww_59 ww_590, by decide +kernel⟩
theorem cn_X7_35 : CN RX7 35 yX9_restOf cX9_restOf 4 (some .int) 2 := ⟨by simp [nests], ws_good ww_351, ww_350, ww_57, by decide +kernel⟩
theorem ww_595 : Cond.code yX9_half cX9_half 2 (some .int) ∈ tb := at_place 595 (by decide +kernel) rfl
theorem ww_592 : Cond.methodLink RL 107 yX9_half ∈ tb := at_place 592 (by decide +kernel) rfl
theorem ww_593 : Cond.instanceMethod yX9_half ∈ tb := at_place 593 (by decide +kernel) rfl
theorem ww_594 : Cond.selects RX9 yX9_half yX9_half ∈ tb := at_place 594 (by decide +kernel) rfl
theorem cv_L_107 : CV RL 107 RX9 yX9_half cX9_half 2 (some .int) 1 := ⟨cv_good ww_592 ww_593 ww_594 ww_57 ww_595, by decide +kernel⟩
theorem ww_599 : Cond.code yX7_halfRank cX7_halfRank 5 (some .int) ∈ tb := at_place 599 (by decide +kernel) rfl
theorem ww_596 : Cond.methodLink RX9 209 yX7_halfRank ∈ tb := at_place 596 (by decide +kernel) rfl
theorem ww_597 : Cond.instanceMethod yX7_halfRank ∈ tb := at_place 597 (by decide +kernel) rfl
theorem ww_598 : Cond.selects RX7 yX7_halfRank yX7_halfRank ∈ tb := at_place 598 (by decide +kernel) rfl
theorem cv_X9_209 : CV RX9 209 RX7 yX7_halfRank cX7_halfRank 5 (some .int) 2 := ⟨cv_good ww_596 ww_597 ww_598 ww_62 ww_599, by decide +kernel⟩
theorem ww_600 : Cond.methodLink RX7 42 yX0_clear ∈ tb := at_place 600 (by decide +kernel) rfl
theorem cv_X7_42 : CV RX7 42 RX0 yX0_clear cX0_clear 5 none 3 := ⟨cv_good ww_600 ww_422 ww_423 ww_60 ww_424, by decide +kernel⟩
theorem ww_601 : Cond.methodLink RX7 46 yX7_numberAt ∈ tb := at_place 601 (by decide +kernel) rfl
theorem cv_X7_46 : CV RX7 46 RX7 yX7_numberAt cX7_numberAt 7 (some .int) 4 := ⟨cv_good ww_601 ww_584 ww_585 ww_62 ww_586, by decide +kernel⟩
theorem ww_602 : Cond.methodLink RX7 50 yX0_add ∈ tb := at_place 602 (by decide +kernel) rfl
theorem cv_X7_50 : CV RX7 50 RX0 yX0_add cX0_add 4 none 2 := ⟨cv_good ww_602 ww_426 ww_427 ww_60 ww_428, by decide +kernel⟩
theorem ww_606 : Cond.code yX9_root cX9_root 2 (some .long) ∈ tb := at_place 606 (by decide +kernel) rfl
theorem ww_603 : Cond.methodLink RL 111 yX9_root ∈ tb := at_place 603 (by decide +kernel) rfl
theorem ww_604 : Cond.instanceMethod yX9_root ∈ tb := at_place 604 (by decide +kernel) rfl
theorem ww_605 : Cond.selects RX9 yX9_root yX9_root ∈ tb := at_place 605 (by decide +kernel) rfl
theorem cv_L_111 : CV RL 111 RX9 yX9_root cX9_root 2 (some .long) 1 := ⟨cv_good ww_603 ww_604 ww_605 ww_57 ww_606, by decide +kernel⟩
theorem ww_613 : Cond.code yX4_made cX4_made 5 (some .long) ∈ tb := at_place 613 (by decide +kernel) rfl
theorem ww_610 : Cond.methodLink RX9 219 yX4_made ∈ tb := at_place 610 (by decide +kernel) rfl
theorem ww_611 : Cond.instanceMethod yX4_made ∈ tb := at_place 611 (by decide +kernel) rfl
theorem ww_612 : Cond.selects RX4 yX4_made yX4_made ∈ tb := at_place 612 (by decide +kernel) rfl
theorem cv_X9_219 : CV RX9 219 RX4 yX4_made cX4_made 5 (some .long) 2 := ⟨cv_good ww_610 ww_611 ww_612 ww_63 ww_613, by decide +kernel⟩
theorem ww_617 : Cond.code yX4_wholeNumber cX4_wholeNumber 8 (some .long) ∈ tb := at_place 617 (by decide +kernel) rfl
theorem ww_614 : Cond.methodLink RX4 26 yX4_wholeNumber ∈ tb := at_place 614 (by decide +kernel) rfl
theorem ww_616 : Cond.instanceMethod yX4_wholeNumber ∈ tb := at_place 616 (by decide +kernel) rfl
theorem ww_9 : Cond.selects RX4 yX4_wholeNumber yX4_wholeNumber ∈ tb := at_place 9 (by decide +kernel) rfl
theorem cv_X4_26 : CV RX4 26 RX4 yX4_wholeNumber cX4_wholeNumber 8 (some .long) 4 := ⟨cv_good ww_614 ww_616 ww_9 ww_63 ww_617, by decide +kernel⟩
theorem ww_618 : Cond.methodLink RX4 39 yX6_numberFor ∈ tb := at_place 618 (by decide +kernel) rfl
theorem cv_X4_39 : CV RX4 39 RX6 yX6_numberFor cX6_numberFor 2 (some .long) 1 := ⟨cv_good ww_618 ww_576 ww_577 ww_65 ww_578, by decide +kernel⟩
theorem ww_619 : Cond.methodLink RX4 45 yX5_difference ∈ tb := at_place 619 (by decide +kernel) rfl
theorem cv_X4_45 : CV RX4 45 RX5 yX5_difference cX5_difference 6 (some .int) 3 := ⟨cv_good ww_619 ww_588 ww_589 ww_59 ww_590, by decide +kernel⟩
theorem ww_623 : Cond.code yX4_product cX4_product 7 (some .long) ∈ tb := at_place 623 (by decide +kernel) rfl
theorem ww_620 : Cond.methodLink RX4 49 yX4_product ∈ tb := at_place 620 (by decide +kernel) rfl
theorem ww_622 : Cond.instanceMethod yX4_product ∈ tb := at_place 622 (by decide +kernel) rfl
theorem ww_10 : Cond.selects RX4 yX4_product yX4_product ∈ tb := at_place 10 (by decide +kernel) rfl
theorem cv_X4_49 : CV RX4 49 RX4 yX4_product cX4_product 7 (some .long) 2 := ⟨cv_good ww_620 ww_622 ww_10 ww_63 ww_623, by decide +kernel⟩
theorem ww_629 : Cond.code yX4_plus cX4_plus 7 (some .long) ∈ tb := at_place 629 (by decide +kernel) rfl
theorem ww_626 : Cond.methodLink RX4 53 yX4_plus ∈ tb := at_place 626 (by decide +kernel) rfl
theorem ww_628 : Cond.instanceMethod yX4_plus ∈ tb := at_place 628 (by decide +kernel) rfl
theorem ww_11 : Cond.selects RX4 yX4_plus yX4_plus ∈ tb := at_place 11 (by decide +kernel) rfl
theorem cv_X4_53 : CV RX4 53 RX4 yX4_plus cX4_plus 7 (some .long) 2 := ⟨cv_good ww_626 ww_628 ww_11 ww_63 ww_629, by decide +kernel⟩
theorem ww_632 : Cond.code yX9_isInt cX9_isInt 2 (some .boolean) ∈ tb := at_place 632 (by decide +kernel) rfl
theorem ww_631 : Cond.static yX9_isInt ∈ tb := at_place 631 (by decide +kernel) rfl
theorem cn_X4_56 : CN RX4 56 yX9_isInt cX9_isInt 2 (some .boolean) 1 := ⟨by simp [nests], ws_good ww_632, ww_631, ww_57, by decide +kernel⟩
theorem ww_636 : Cond.code yX4_ofPlaces cX4_ofPlaces 12 (some .long) ∈ tb := at_place 636 (by decide +kernel) rfl
theorem ww_633 : Cond.methodLink RX4 30 yX4_ofPlaces ∈ tb := at_place 633 (by decide +kernel) rfl
theorem ww_635 : Cond.instanceMethod yX4_ofPlaces ∈ tb := at_place 635 (by decide +kernel) rfl
theorem ww_12 : Cond.selects RX4 yX4_ofPlaces yX4_ofPlaces ∈ tb := at_place 12 (by decide +kernel) rfl
theorem cv_X4_30 : CV RX4 30 RX4 yX4_ofPlaces cX4_ofPlaces 12 (some .long) 2 := ⟨cv_good ww_633 ww_635 ww_12 ww_63 ww_636, by decide +kernel⟩
theorem ww_640 : Cond.code yX4_minus cX4_minus 7 (some .long) ∈ tb := at_place 640 (by decide +kernel) rfl
theorem ww_637 : Cond.methodLink RX4 60 yX4_minus ∈ tb := at_place 637 (by decide +kernel) rfl
theorem ww_639 : Cond.instanceMethod yX4_minus ∈ tb := at_place 639 (by decide +kernel) rfl
theorem ww_13 : Cond.selects RX4 yX4_minus yX4_minus ∈ tb := at_place 13 (by decide +kernel) rfl
theorem cv_X4_60 : CV RX4 60 RX4 yX4_minus cX4_minus 7 (some .long) 2 := ⟨cv_good ww_637 ww_639 ww_13 ww_63 ww_640, by decide +kernel⟩
theorem ww_645 : Cond.code yX9_claim cX9_claim 6 (some .int) ∈ tb := at_place 645 (by decide +kernel) rfl
theorem ww_642 : Cond.methodLink RL 115 yX9_claim ∈ tb := at_place 642 (by decide +kernel) rfl
theorem ww_643 : Cond.instanceMethod yX9_claim ∈ tb := at_place 643 (by decide +kernel) rfl
theorem ww_644 : Cond.selects RX9 yX9_claim yX9_claim ∈ tb := at_place 644 (by decide +kernel) rfl
theorem cv_L_115 : CV RL 115 RX9 yX9_claim cX9_claim 6 (some .int) 2 := ⟨cv_good ww_642 ww_643 ww_644 ww_57 ww_645, by decide +kernel⟩
theorem ww_649 : Cond.code yX9_drawTimes cX9_drawTimes 4 (some .int) ∈ tb := at_place 649 (by decide +kernel) rfl
theorem ww_646 : Cond.methodLink RX9 223 yX9_drawTimes ∈ tb := at_place 646 (by decide +kernel) rfl
theorem ww_648 : Cond.instanceMethod yX9_drawTimes ∈ tb := at_place 648 (by decide +kernel) rfl
theorem ww_14 : Cond.selects RX9 yX9_drawTimes yX9_drawTimes ∈ tb := at_place 14 (by decide +kernel) rfl
theorem cv_X9_223 : CV RX9 223 RX9 yX9_drawTimes cX9_drawTimes 4 (some .int) 1 := ⟨cv_good ww_646 ww_648 ww_14 ww_57 ww_649, by decide +kernel⟩
theorem ww_651 : Cond.methodLink RX9 226 yJ9_max_7cf53 ∈ tb := at_place 651 (by decide +kernel) rfl
theorem cs_X9_226 : CS RX9 226 yJ9_max_7cf53 cJ9_max_7cf53 2 (some .int) 2 := ⟨cs_good ww_651 ww_513 ww_69 ww_514, by decide +kernel⟩
theorem ww_655 : Cond.code yX9_sure cX9_sure 7 (some .int) ∈ tb := at_place 655 (by decide +kernel) rfl
theorem ww_652 : Cond.methodLink RL 119 yX9_sure ∈ tb := at_place 652 (by decide +kernel) rfl
theorem ww_653 : Cond.instanceMethod yX9_sure ∈ tb := at_place 653 (by decide +kernel) rfl
theorem ww_654 : Cond.selects RX9 yX9_sure yX9_sure ∈ tb := at_place 654 (by decide +kernel) rfl
theorem cv_L_119 : CV RL 119 RX9 yX9_sure cX9_sure 7 (some .int) 2 := ⟨cv_good ww_652 ww_653 ww_654 ww_57 ww_655, by decide +kernel⟩
theorem ww_659 : Cond.code yX9_cover cX9_cover 3 (some .int) ∈ tb := at_place 659 (by decide +kernel) rfl
theorem ww_656 : Cond.methodLink RL 123 yX9_cover ∈ tb := at_place 656 (by decide +kernel) rfl
theorem ww_657 : Cond.instanceMethod yX9_cover ∈ tb := at_place 657 (by decide +kernel) rfl
theorem ww_658 : Cond.selects RX9 yX9_cover yX9_cover ∈ tb := at_place 658 (by decide +kernel) rfl
theorem cv_L_123 : CV RL 123 RX9 yX9_cover cX9_cover 3 (some .int) 2 := ⟨cv_good ww_656 ww_657 ww_658 ww_57 ww_659, by decide +kernel⟩
theorem ww_663 : Cond.code yX9_fillClasses cX9_fillClasses 4 none ∈ tb := at_place 663 (by decide +kernel) rfl
theorem ww_660 : Cond.methodLink RX9 231 yX9_fillClasses ∈ tb := at_place 660 (by decide +kernel) rfl
theorem ww_662 : Cond.instanceMethod yX9_fillClasses ∈ tb := at_place 662 (by decide +kernel) rfl
theorem ww_15 : Cond.selects RX9 yX9_fillClasses yX9_fillClasses ∈ tb := at_place 15 (by decide +kernel) rfl
theorem cv_X9_231 : CV RX9 231 RX9 yX9_fillClasses cX9_fillClasses 4 none 1 := ⟨cv_good ww_660 ww_662 ww_15 ww_57 ww_663, by decide +kernel⟩
theorem ww_664 : Cond.methodLink RX9 302 yX6_has ∈ tb := at_place 664 (by decide +kernel) rfl
theorem cv_X9_302 : CV RX9 302 RX6 yX6_has cX6_has 2 (some .boolean) 1 := ⟨cv_good ww_664 ww_580 ww_581 ww_65 ww_582, by decide +kernel⟩
theorem ww_668 : Cond.code yX5_coverBy cX5_coverBy 7 (some .int) ∈ tb := at_place 668 (by decide +kernel) rfl
theorem ww_665 : Cond.methodLink RX9 234 yX5_coverBy ∈ tb := at_place 665 (by decide +kernel) rfl
theorem ww_666 : Cond.instanceMethod yX5_coverBy ∈ tb := at_place 666 (by decide +kernel) rfl
theorem ww_667 : Cond.selects RX5 yX5_coverBy yX5_coverBy ∈ tb := at_place 667 (by decide +kernel) rfl
theorem cv_X9_234 : CV RX9 234 RX5 yX5_coverBy cX5_coverBy 7 (some .int) 2 := ⟨cv_good ww_665 ww_666 ww_667 ww_59 ww_668, by decide +kernel⟩
theorem ww_672 : Cond.code yX9_cheap cX9_cheap 7 (some .int) ∈ tb := at_place 672 (by decide +kernel) rfl
theorem ww_669 : Cond.methodLink RL 127 yX9_cheap ∈ tb := at_place 669 (by decide +kernel) rfl
theorem ww_670 : Cond.instanceMethod yX9_cheap ∈ tb := at_place 670 (by decide +kernel) rfl
theorem ww_671 : Cond.selects RX9 yX9_cheap yX9_cheap ∈ tb := at_place 671 (by decide +kernel) rfl
theorem cv_L_127 : CV RL 127 RX9 yX9_cheap cX9_cheap 7 (some .int) 2 := ⟨cv_good ww_669 ww_670 ww_671 ww_57 ww_672, by decide +kernel⟩
theorem ww_676 : Cond.code yX9_rays cX9_rays 1 (some .int) ∈ tb := at_place 676 (by decide +kernel) rfl
theorem ww_673 : Cond.methodLink RL 131 yX9_rays ∈ tb := at_place 673 (by decide +kernel) rfl
theorem ww_674 : Cond.instanceMethod yX9_rays ∈ tb := at_place 674 (by decide +kernel) rfl
theorem ww_675 : Cond.selects RX9 yX9_rays yX9_rays ∈ tb := at_place 675 (by decide +kernel) rfl
theorem cv_L_131 : CV RL 131 RX9 yX9_rays cX9_rays 1 (some .int) 0 := ⟨cv_good ww_673 ww_674 ww_675 ww_57 ww_676, by decide +kernel⟩
theorem ww_680 : Cond.code yX9_fillRays cX9_fillRays 1 none ∈ tb := at_place 680 (by decide +kernel) rfl
theorem ww_677 : Cond.methodLink RX9 238 yX9_fillRays ∈ tb := at_place 677 (by decide +kernel) rfl
theorem ww_679 : Cond.instanceMethod yX9_fillRays ∈ tb := at_place 679 (by decide +kernel) rfl
theorem ww_16 : Cond.selects RX9 yX9_fillRays yX9_fillRays ∈ tb := at_place 16 (by decide +kernel) rfl
theorem cv_X9_238 : CV RX9 238 RX9 yX9_fillRays cX9_fillRays 1 none 0 := ⟨cv_good ww_677 ww_679 ww_16 ww_57 ww_680, by decide +kernel⟩
theorem ww_684 : Cond.code yX3_fill cX3_fill 3 none ∈ tb := at_place 684 (by decide +kernel) rfl
theorem ww_681 : Cond.methodLink RX9 324 yX3_fill ∈ tb := at_place 681 (by decide +kernel) rfl
theorem ww_682 : Cond.instanceMethod yX3_fill ∈ tb := at_place 682 (by decide +kernel) rfl
theorem ww_683 : Cond.selects RX3 yX3_fill yX3_fill ∈ tb := at_place 683 (by decide +kernel) rfl
theorem cv_X9_324 : CV RX9 324 RX3 yX3_fill cX3_fill 3 none 1 := ⟨cv_good ww_681 ww_682 ww_683 ww_64 ww_684, by decide +kernel⟩
theorem ww_688 : Cond.code yX3_codeOf cX3_codeOf 8 (some .long) ∈ tb := at_place 688 (by decide +kernel) rfl
theorem ww_685 : Cond.methodLink RX3 24 yX3_codeOf ∈ tb := at_place 685 (by decide +kernel) rfl
theorem ww_686 : Cond.instanceMethod yX3_codeOf ∈ tb := at_place 686 (by decide +kernel) rfl
theorem ww_687 : Cond.selects RX3 yX3_codeOf yX3_codeOf ∈ tb := at_place 687 (by decide +kernel) rfl
theorem cv_X3_24 : CV RX3 24 RX3 yX3_codeOf cX3_codeOf 8 (some .long) 2 := ⟨cv_good ww_685 ww_686 ww_687 ww_64 ww_688, by decide +kernel⟩
theorem cn_X3_42 : CN RX3 42 yX9_quotient cX9_quotient 4 (some .int) 3 := ⟨by simp [nests], ws_good ww_354, ww_353, ww_57, by decide +kernel⟩
theorem ww_693 : Cond.code yX3_insert cX3_insert 6 none ∈ tb := at_place 693 (by decide +kernel) rfl
theorem ww_690 : Cond.methodLink RX3 28 yX3_insert ∈ tb := at_place 690 (by decide +kernel) rfl
theorem ww_692 : Cond.instanceMethod yX3_insert ∈ tb := at_place 692 (by decide +kernel) rfl
theorem ww_17 : Cond.selects RX3 yX3_insert yX3_insert ∈ tb := at_place 17 (by decide +kernel) rfl
theorem cv_X3_28 : CV RX3 28 RX3 yX3_insert cX3_insert 6 none 1 := ⟨cv_good ww_690 ww_692 ww_17 ww_64 ww_693, by decide +kernel⟩
theorem ww_697 : Cond.code yX3_raysBelow cX3_raysBelow 4 (some .int) ∈ tb := at_place 697 (by decide +kernel) rfl
theorem ww_694 : Cond.methodLink RX3 46 yX3_raysBelow ∈ tb := at_place 694 (by decide +kernel) rfl
theorem ww_695 : Cond.instanceMethod yX3_raysBelow ∈ tb := at_place 695 (by decide +kernel) rfl
theorem ww_696 : Cond.selects RX3 yX3_raysBelow yX3_raysBelow ∈ tb := at_place 696 (by decide +kernel) rfl
theorem cv_X3_46 : CV RX3 46 RX3 yX3_raysBelow cX3_raysBelow 4 (some .int) 1 := ⟨cv_good ww_694 ww_695 ww_696 ww_64 ww_697, by decide +kernel⟩
theorem ww_701 : Cond.code yX9_ray cX9_ray 2 (some .long) ∈ tb := at_place 701 (by decide +kernel) rfl
theorem ww_698 : Cond.methodLink RL 135 yX9_ray ∈ tb := at_place 698 (by decide +kernel) rfl
theorem ww_699 : Cond.instanceMethod yX9_ray ∈ tb := at_place 699 (by decide +kernel) rfl
theorem ww_700 : Cond.selects RX9 yX9_ray yX9_ray ∈ tb := at_place 700 (by decide +kernel) rfl
theorem cv_L_135 : CV RL 135 RX9 yX9_ray cX9_ray 2 (some .long) 1 := ⟨cv_good ww_698 ww_699 ww_700 ww_57 ww_701, by decide +kernel⟩
theorem ww_705 : Cond.code yX3_has cX3_has 2 (some .boolean) ∈ tb := at_place 705 (by decide +kernel) rfl
theorem ww_702 : Cond.methodLink RX9 244 yX3_has ∈ tb := at_place 702 (by decide +kernel) rfl
theorem ww_703 : Cond.instanceMethod yX3_has ∈ tb := at_place 703 (by decide +kernel) rfl
theorem ww_704 : Cond.selects RX3 yX3_has yX3_has ∈ tb := at_place 704 (by decide +kernel) rfl
theorem cv_X9_244 : CV RX9 244 RX3 yX3_has cX3_has 2 (some .boolean) 1 := ⟨cv_good ww_702 ww_703 ww_704 ww_64 ww_705, by decide +kernel⟩
theorem ww_709 : Cond.code yX9_rayOf cX9_rayOf 5 (some .int) ∈ tb := at_place 709 (by decide +kernel) rfl
theorem ww_706 : Cond.methodLink RL 139 yX9_rayOf ∈ tb := at_place 706 (by decide +kernel) rfl
theorem ww_707 : Cond.instanceMethod yX9_rayOf ∈ tb := at_place 707 (by decide +kernel) rfl
theorem ww_708 : Cond.selects RX9 yX9_rayOf yX9_rayOf ∈ tb := at_place 708 (by decide +kernel) rfl
theorem cv_L_139 : CV RL 139 RX9 yX9_rayOf cX9_rayOf 5 (some .int) 2 := ⟨cv_good ww_706 ww_707 ww_708 ww_57 ww_709, by decide +kernel⟩
theorem ww_710 : Cond.methodLink RX9 248 yX3_codeOf ∈ tb := at_place 710 (by decide +kernel) rfl
theorem cv_X9_248 : CV RX9 248 RX3 yX3_codeOf cX3_codeOf 8 (some .long) 2 := ⟨cv_good ww_710 ww_686 ww_687 ww_64 ww_688, by decide +kernel⟩
theorem ww_711 : Cond.methodLink RX9 252 yX3_raysBelow ∈ tb := at_place 711 (by decide +kernel) rfl
theorem cv_X9_252 : CV RX9 252 RX3 yX3_raysBelow cX3_raysBelow 4 (some .int) 1 := ⟨cv_good ww_711 ww_695 ww_696 ww_64 ww_697, by decide +kernel⟩
theorem ww_715 : Cond.code yX9_link cX9_link 5 (some .int) ∈ tb := at_place 715 (by decide +kernel) rfl
theorem ww_712 : Cond.methodLink RL 143 yX9_link ∈ tb := at_place 712 (by decide +kernel) rfl
theorem ww_713 : Cond.instanceMethod yX9_link ∈ tb := at_place 713 (by decide +kernel) rfl
theorem ww_714 : Cond.selects RX9 yX9_link yX9_link ∈ tb := at_place 714 (by decide +kernel) rfl
theorem cv_L_143 : CV RL 143 RX9 yX9_link cX9_link 5 (some .int) 3 := ⟨cv_good ww_712 ww_713 ww_714 ww_57 ww_715, by decide +kernel⟩
theorem ww_718 : Cond.code yX9_isPoint cX9_isPoint 1 (some .boolean) ∈ tb := at_place 718 (by decide +kernel) rfl
theorem ww_716 : Cond.methodLink RX9 255 yX9_isPoint ∈ tb := at_place 716 (by decide +kernel) rfl
theorem ww_717 : Cond.static yX9_isPoint ∈ tb := at_place 717 (by decide +kernel) rfl
theorem cs_X9_255 : CS RX9 255 yX9_isPoint cX9_isPoint 1 (some .boolean) 1 := ⟨cs_good ww_716 ww_717 ww_57 ww_718, by decide +kernel⟩
theorem ww_722 : Cond.code yX2_linesAt cX2_linesAt 2 (some .int) ∈ tb := at_place 722 (by decide +kernel) rfl
theorem ww_719 : Cond.methodLink RX9 261 yX2_linesAt ∈ tb := at_place 719 (by decide +kernel) rfl
theorem ww_720 : Cond.instanceMethod yX2_linesAt ∈ tb := at_place 720 (by decide +kernel) rfl
theorem ww_721 : Cond.selects RX2 yX2_linesAt yX2_linesAt ∈ tb := at_place 721 (by decide +kernel) rfl
theorem cv_X9_261 : CV RX9 261 RX2 yX2_linesAt cX2_linesAt 2 (some .int) 1 := ⟨cv_good ww_719 ww_720 ww_721 ww_58 ww_722, by decide +kernel⟩
theorem ww_723 : Cond.methodLink RX2 60 yJ6_bitCount_0f7a4 ∈ tb := at_place 723 (by decide +kernel) rfl
theorem cs_X2_60 : CS RX2 60 yJ6_bitCount_0f7a4 cJ6_bitCount_0f7a4 1 (some .int) 1 := ⟨cs_good ww_723 ww_488 ww_68 ww_489, by decide +kernel⟩
theorem ww_727 : Cond.code yX9_breaks cX9_breaks 2 (some .int) ∈ tb := at_place 727 (by decide +kernel) rfl
theorem ww_724 : Cond.methodLink RL 147 yX9_breaks ∈ tb := at_place 724 (by decide +kernel) rfl
theorem ww_725 : Cond.instanceMethod yX9_breaks ∈ tb := at_place 725 (by decide +kernel) rfl
theorem ww_726 : Cond.selects RX9 yX9_breaks yX9_breaks ∈ tb := at_place 726 (by decide +kernel) rfl
theorem cv_L_147 : CV RL 147 RX9 yX9_breaks cX9_breaks 2 (some .int) 1 := ⟨cv_good ww_724 ww_725 ww_726 ww_57 ww_727, by decide +kernel⟩
theorem ww_731 : Cond.code yX9_isBroken cX9_isBroken 2 (some .boolean) ∈ tb := at_place 731 (by decide +kernel) rfl
theorem ww_728 : Cond.methodLink RX9 264 yX9_isBroken ∈ tb := at_place 728 (by decide +kernel) rfl
theorem ww_730 : Cond.instanceMethod yX9_isBroken ∈ tb := at_place 730 (by decide +kernel) rfl
theorem ww_18 : Cond.selects RX9 yX9_isBroken yX9_isBroken ∈ tb := at_place 18 (by decide +kernel) rfl
theorem cv_X9_264 : CV RX9 264 RX9 yX9_isBroken cX9_isBroken 2 (some .boolean) 1 := ⟨cv_good ww_728 ww_730 ww_18 ww_57 ww_731, by decide +kernel⟩
theorem ww_734 : Cond.code yX9_hasRing cX9_hasRing 5 (some .boolean) ∈ tb := at_place 734 (by decide +kernel) rfl
theorem ww_732 : Cond.methodLink RX9 330 yX9_hasRing ∈ tb := at_place 732 (by decide +kernel) rfl
theorem ww_733 : Cond.static yX9_hasRing ∈ tb := at_place 733 (by decide +kernel) rfl
theorem cs_X9_330 : CS RX9 330 yX9_hasRing cX9_hasRing 5 (some .boolean) 2 := ⟨cs_good ww_732 ww_733 ww_57 ww_734, by decide +kernel⟩
theorem ww_738 : Cond.code yX9_feedback cX9_feedback 7 (some .int) ∈ tb := at_place 738 (by decide +kernel) rfl
theorem ww_735 : Cond.methodLink RL 151 yX9_feedback ∈ tb := at_place 735 (by decide +kernel) rfl
theorem ww_736 : Cond.instanceMethod yX9_feedback ∈ tb := at_place 736 (by decide +kernel) rfl
theorem ww_737 : Cond.selects RX9 yX9_feedback yX9_feedback ∈ tb := at_place 737 (by decide +kernel) rfl
theorem cv_L_151 : CV RL 151 RX9 yX9_feedback cX9_feedback 7 (some .int) 1 := ⟨cv_good ww_735 ww_736 ww_737 ww_57 ww_738, by decide +kernel⟩
theorem ww_742 : Cond.code yX9_hold cX9_hold 6 (some .int) ∈ tb := at_place 742 (by decide +kernel) rfl
theorem ww_739 : Cond.methodLink RL 155 yX9_hold ∈ tb := at_place 739 (by decide +kernel) rfl
theorem ww_740 : Cond.instanceMethod yX9_hold ∈ tb := at_place 740 (by decide +kernel) rfl
theorem ww_741 : Cond.selects RX9 yX9_hold yX9_hold ∈ tb := at_place 741 (by decide +kernel) rfl
theorem cv_L_155 : CV RL 155 RX9 yX9_hold cX9_hold 6 (some .int) 3 := ⟨cv_good ww_739 ww_740 ww_741 ww_57 ww_742, by decide +kernel⟩
theorem ww_745 : Cond.code yX9_isHand cX9_isHand 1 (some .boolean) ∈ tb := at_place 745 (by decide +kernel) rfl
theorem ww_743 : Cond.methodLink RX9 267 yX9_isHand ∈ tb := at_place 743 (by decide +kernel) rfl
theorem ww_744 : Cond.static yX9_isHand ∈ tb := at_place 744 (by decide +kernel) rfl
theorem cs_X9_267 : CS RX9 267 yX9_isHand cX9_isHand 1 (some .boolean) 1 := ⟨cs_good ww_743 ww_744 ww_57 ww_745, by decide +kernel⟩
theorem ww_749 : Cond.code yX1_takePair cX1_takePair 3 none ∈ tb := at_place 749 (by decide +kernel) rfl
theorem ww_746 : Cond.methodLink RX9 273 yX1_takePair ∈ tb := at_place 746 (by decide +kernel) rfl
theorem ww_747 : Cond.instanceMethod yX1_takePair ∈ tb := at_place 747 (by decide +kernel) rfl
theorem ww_748 : Cond.selects RX1 yX1_takePair yX1_takePair ∈ tb := at_place 748 (by decide +kernel) rfl
theorem cv_X9_273 : CV RX9 273 RX1 yX1_takePair cX1_takePair 3 none 2 := ⟨cv_good ww_746 ww_747 ww_748 ww_66 ww_749, by decide +kernel⟩
theorem ww_753 : Cond.code yX1_takeRay cX1_takeRay 8 none ∈ tb := at_place 753 (by decide +kernel) rfl
theorem ww_750 : Cond.methodLink RX9 277 yX1_takeRay ∈ tb := at_place 750 (by decide +kernel) rfl
theorem ww_751 : Cond.instanceMethod yX1_takeRay ∈ tb := at_place 751 (by decide +kernel) rfl
theorem ww_752 : Cond.selects RX1 yX1_takeRay yX1_takeRay ∈ tb := at_place 752 (by decide +kernel) rfl
theorem cv_X9_277 : CV RX9 277 RX1 yX1_takeRay cX1_takeRay 8 none 3 := ⟨cv_good ww_750 ww_751 ww_752 ww_66 ww_753, by decide +kernel⟩
theorem ww_757 : Cond.code yX9_asPair cX9_asPair 4 (some .int) ∈ tb := at_place 757 (by decide +kernel) rfl
theorem ww_754 : Cond.methodLink RL 159 yX9_asPair ∈ tb := at_place 754 (by decide +kernel) rfl
theorem ww_755 : Cond.instanceMethod yX9_asPair ∈ tb := at_place 755 (by decide +kernel) rfl
theorem ww_756 : Cond.selects RX9 yX9_asPair yX9_asPair ∈ tb := at_place 756 (by decide +kernel) rfl
theorem cv_L_159 : CV RL 159 RX9 yX9_asPair cX9_asPair 4 (some .int) 2 := ⟨cv_good ww_754 ww_755 ww_756 ww_57 ww_757, by decide +kernel⟩
theorem ww_760 : Cond.code yX9_isUnder cX9_isUnder 4 (some .boolean) ∈ tb := at_place 760 (by decide +kernel) rfl
theorem ww_758 : Cond.methodLink RX9 284 yX9_isUnder ∈ tb := at_place 758 (by decide +kernel) rfl
theorem ww_759 : Cond.static yX9_isUnder ∈ tb := at_place 759 (by decide +kernel) rfl
theorem cs_X9_284 : CS RX9 284 yX9_isUnder cX9_isUnder 4 (some .boolean) 2 := ⟨cs_good ww_758 ww_759 ww_57 ww_760, by decide +kernel⟩
theorem ww_764 : Cond.code yX9_asRay cX9_asRay 4 (some .int) ∈ tb := at_place 764 (by decide +kernel) rfl
theorem ww_761 : Cond.methodLink RL 163 yX9_asRay ∈ tb := at_place 761 (by decide +kernel) rfl
theorem ww_762 : Cond.instanceMethod yX9_asRay ∈ tb := at_place 762 (by decide +kernel) rfl
theorem ww_763 : Cond.selects RX9 yX9_asRay yX9_asRay ∈ tb := at_place 763 (by decide +kernel) rfl
theorem cv_L_163 : CV RL 163 RX9 yX9_asRay cX9_asRay 4 (some .int) 2 := ⟨cv_good ww_761 ww_762 ww_763 ww_57 ww_764, by decide +kernel⟩
theorem ww_768 : Cond.code yX9_compare cX9_compare 5 (some .int) ∈ tb := at_place 768 (by decide +kernel) rfl
theorem ww_765 : Cond.methodLink RL 167 yX9_compare ∈ tb := at_place 765 (by decide +kernel) rfl
theorem ww_766 : Cond.instanceMethod yX9_compare ∈ tb := at_place 766 (by decide +kernel) rfl
theorem ww_767 : Cond.selects RX9 yX9_compare yX9_compare ∈ tb := at_place 767 (by decide +kernel) rfl
theorem cv_L_167 : CV RL 167 RX9 yX9_compare cX9_compare 5 (some .int) 2 := ⟨cv_good ww_765 ww_766 ww_767 ww_57 ww_768, by decide +kernel⟩
theorem ww_772 : Cond.code yX1_orderTo cX1_orderTo 4 (some .int) ∈ tb := at_place 772 (by decide +kernel) rfl
theorem ww_769 : Cond.methodLink RX9 295 yX1_orderTo ∈ tb := at_place 769 (by decide +kernel) rfl
theorem ww_770 : Cond.instanceMethod yX1_orderTo ∈ tb := at_place 770 (by decide +kernel) rfl
theorem ww_771 : Cond.selects RX1 yX1_orderTo yX1_orderTo ∈ tb := at_place 771 (by decide +kernel) rfl
theorem cv_X9_295 : CV RX9 295 RX1 yX1_orderTo cX1_orderTo 4 (some .int) 1 := ⟨cv_good ww_769 ww_770 ww_771 ww_66 ww_772, by decide +kernel⟩
theorem ww_775 : Cond.code yJ9_min_7cf53 cJ9_min_7cf53 2 (some .int) ∈ tb := at_place 775 (by decide +kernel) rfl
theorem ww_773 : Cond.methodLink RX1 28 yJ9_min_7cf53 ∈ tb := at_place 773 (by decide +kernel) rfl
theorem ww_774 : Cond.static yJ9_min_7cf53 ∈ tb := at_place 774 (by decide +kernel) rfl
theorem cs_X1_28 : CS RX1 28 yJ9_min_7cf53 cJ9_min_7cf53 2 (some .int) 2 := ⟨cs_good ww_773 ww_774 ww_69 ww_775, by decide +kernel⟩
theorem ww_778 : Cond.code yJ6_compare_7cf53 cJ6_compare_7cf53 2 (some .int) ∈ tb := at_place 778 (by decide +kernel) rfl
theorem ww_776 : Cond.methodLink RX1 34 yJ6_compare_7cf53 ∈ tb := at_place 776 (by decide +kernel) rfl
theorem ww_777 : Cond.static yJ6_compare_7cf53 ∈ tb := at_place 777 (by decide +kernel) rfl
theorem cs_X1_34 : CS RX1 34 yJ6_compare_7cf53 cJ6_compare_7cf53 2 (some .int) 2 := ⟨cs_good ww_776 ww_777 ww_68 ww_778, by decide +kernel⟩
theorem ww_782 : Cond.code yX9_sheet cX9_sheet 4 (some .int) ∈ tb := at_place 782 (by decide +kernel) rfl
theorem ww_779 : Cond.methodLink RL 171 yX9_sheet ∈ tb := at_place 779 (by decide +kernel) rfl
theorem ww_780 : Cond.instanceMethod yX9_sheet ∈ tb := at_place 780 (by decide +kernel) rfl
theorem ww_781 : Cond.selects RX9 yX9_sheet yX9_sheet ∈ tb := at_place 781 (by decide +kernel) rfl
theorem cv_L_171 : CV RL 171 RX9 yX9_sheet cX9_sheet 4 (some .int) 3 := ⟨cv_good ww_779 ww_780 ww_781 ww_57 ww_782, by decide +kernel⟩
theorem ww_786 : Cond.code yX6_become cX6_become 4 none ∈ tb := at_place 786 (by decide +kernel) rfl
theorem ww_783 : Cond.methodLink RX9 299 yX6_become ∈ tb := at_place 783 (by decide +kernel) rfl
theorem ww_784 : Cond.instanceMethod yX6_become ∈ tb := at_place 784 (by decide +kernel) rfl
theorem ww_785 : Cond.selects RX6 yX6_become yX6_become ∈ tb := at_place 785 (by decide +kernel) rfl
theorem cv_X9_299 : CV RX9 299 RX6 yX6_become cX6_become 4 none 2 := ⟨cv_good ww_783 ww_784 ww_785 ww_65 ww_786, by decide +kernel⟩
theorem ww_790 : Cond.code yX9_cell cX9_cell 6 (some .int) ∈ tb := at_place 790 (by decide +kernel) rfl
theorem ww_787 : Cond.methodLink RL 175 yX9_cell ∈ tb := at_place 787 (by decide +kernel) rfl
theorem ww_788 : Cond.instanceMethod yX9_cell ∈ tb := at_place 788 (by decide +kernel) rfl
theorem ww_789 : Cond.selects RX9 yX9_cell yX9_cell ∈ tb := at_place 789 (by decide +kernel) rfl
theorem cv_L_175 : CV RL 175 RX9 yX9_cell cX9_cell 6 (some .int) 3 := ⟨cv_good ww_787 ww_788 ww_789 ww_57 ww_790, by decide +kernel⟩
theorem ww_791 : Cond.methodLink RX9 304 yX9_isInt ∈ tb := at_place 791 (by decide +kernel) rfl
theorem cs_X9_304 : CS RX9 304 yX9_isInt cX9_isInt 2 (some .boolean) 1 := ⟨cs_good ww_791 ww_631 ww_57 ww_632, by decide +kernel⟩
theorem ww_795 : Cond.code yX9_read cX9_read 4 (some .long) ∈ tb := at_place 795 (by decide +kernel) rfl
theorem ww_792 : Cond.methodLink RL 180 yX9_read ∈ tb := at_place 792 (by decide +kernel) rfl
theorem ww_793 : Cond.instanceMethod yX9_read ∈ tb := at_place 793 (by decide +kernel) rfl
theorem ww_794 : Cond.selects RX9 yX9_read yX9_read ∈ tb := at_place 794 (by decide +kernel) rfl
theorem cv_L_180 : CV RL 180 RX9 yX9_read cX9_read 4 (some .long) 2 := ⟨cv_good ww_792 ww_793 ww_794 ww_57 ww_795, by decide +kernel⟩
theorem ww_799 : Cond.code yX9_load cX9_load 6 (some .int) ∈ tb := at_place 799 (by decide +kernel) rfl
theorem ww_796 : Cond.methodLink RL 185 yX9_load ∈ tb := at_place 796 (by decide +kernel) rfl
theorem ww_797 : Cond.instanceMethod yX9_load ∈ tb := at_place 797 (by decide +kernel) rfl
theorem ww_798 : Cond.selects RX9 yX9_load yX9_load ∈ tb := at_place 798 (by decide +kernel) rfl
theorem cv_L_185 : CV RL 185 RX9 yX9_load cX9_load 6 (some .int) 3 := ⟨cv_good ww_796 ww_797 ww_798 ww_57 ww_799, by decide +kernel⟩
theorem ww_804 : Cond.code yX9_image cX9_image 1 (some .int) ∈ tb := at_place 804 (by decide +kernel) rfl
theorem ww_801 : Cond.methodLink RL 189 yX9_image ∈ tb := at_place 801 (by decide +kernel) rfl
theorem ww_802 : Cond.instanceMethod yX9_image ∈ tb := at_place 802 (by decide +kernel) rfl
theorem ww_803 : Cond.selects RX9 yX9_image yX9_image ∈ tb := at_place 803 (by decide +kernel) rfl
theorem cv_L_189 : CV RL 189 RX9 yX9_image cX9_image 1 (some .int) 0 := ⟨cv_good ww_801 ww_802 ww_803 ww_57 ww_804, by decide +kernel⟩
theorem ww_808 : Cond.code yX2_become cX2_become 2 none ∈ tb := at_place 808 (by decide +kernel) rfl
theorem ww_805 : Cond.methodLink RX9 313 yX2_become ∈ tb := at_place 805 (by decide +kernel) rfl
theorem ww_806 : Cond.instanceMethod yX2_become ∈ tb := at_place 806 (by decide +kernel) rfl
theorem ww_807 : Cond.selects RX2 yX2_become yX2_become ∈ tb := at_place 807 (by decide +kernel) rfl
theorem cv_X9_313 : CV RX9 313 RX2 yX2_become cX2_become 2 none 1 := ⟨cv_good ww_805 ww_806 ww_807 ww_58 ww_808, by decide +kernel⟩
theorem ww_809 : Cond.methodLink RX2 38 arraycopyName ∈ tb := at_place 809 (by decide +kernel) rfl
theorem ww_811 : Cond.native arraycopyName ∈ tb := at_place 811 (by decide +kernel) rfl
theorem ww_810 : Cond.static arraycopyName ∈ tb := at_place 810 (by decide +kernel) rfl
theorem ww_70 : Cond.initialized "java/lang/System" ∈ tb := at_place 70 (by decide +kernel) rfl
theorem cp_X2_38 : CP RX2 38 := ⟨ww_809, ww_811, ww_810, ww_70⟩
theorem ww_815 : Cond.code yX9_back cX9_back 1 (some .int) ∈ tb := at_place 815 (by decide +kernel) rfl
theorem ww_812 : Cond.methodLink RL 193 yX9_back ∈ tb := at_place 812 (by decide +kernel) rfl
theorem ww_813 : Cond.instanceMethod yX9_back ∈ tb := at_place 813 (by decide +kernel) rfl
theorem ww_814 : Cond.selects RX9 yX9_back yX9_back ∈ tb := at_place 814 (by decide +kernel) rfl
theorem cv_L_193 : CV RL 193 RX9 yX9_back cX9_back 1 (some .int) 0 := ⟨cv_good ww_812 ww_813 ww_814 ww_57 ww_815, by decide +kernel⟩
theorem ww_819 : Cond.code yX9_count cX9_count 2 (some .int) ∈ tb := at_place 819 (by decide +kernel) rfl
theorem ww_816 : Cond.methodLink RL 197 yX9_count ∈ tb := at_place 816 (by decide +kernel) rfl
theorem ww_817 : Cond.instanceMethod yX9_count ∈ tb := at_place 817 (by decide +kernel) rfl
theorem ww_818 : Cond.selects RX9 yX9_count yX9_count ∈ tb := at_place 818 (by decide +kernel) rfl
theorem cv_L_197 : CV RL 197 RX9 yX9_count cX9_count 2 (some .int) 1 := ⟨cv_good ww_816 ww_817 ww_818 ww_57 ww_819, by decide +kernel⟩
theorem ww_823 : Cond.code yX2_namesInAll cX2_namesInAll 3 (some .int) ∈ tb := at_place 823 (by decide +kernel) rfl
theorem ww_820 : Cond.methodLink RX9 315 yX2_namesInAll ∈ tb := at_place 820 (by decide +kernel) rfl
theorem ww_821 : Cond.instanceMethod yX2_namesInAll ∈ tb := at_place 821 (by decide +kernel) rfl
theorem ww_822 : Cond.selects RX2 yX2_namesInAll yX2_namesInAll ∈ tb := at_place 822 (by decide +kernel) rfl
theorem cv_X9_315 : CV RX9 315 RX2 yX2_namesInAll cX2_namesInAll 3 (some .int) 0 := ⟨cv_good ww_820 ww_821 ww_822 ww_58 ww_823, by decide +kernel⟩
theorem ww_827 : Cond.code yX2_linesInAll cX2_linesInAll 3 (some .int) ∈ tb := at_place 827 (by decide +kernel) rfl
theorem ww_824 : Cond.methodLink RX9 318 yX2_linesInAll ∈ tb := at_place 824 (by decide +kernel) rfl
theorem ww_825 : Cond.instanceMethod yX2_linesInAll ∈ tb := at_place 825 (by decide +kernel) rfl
theorem ww_826 : Cond.selects RX2 yX2_linesInAll yX2_linesInAll ∈ tb := at_place 826 (by decide +kernel) rfl
theorem cv_X9_318 : CV RX9 318 RX2 yX2_linesInAll cX2_linesInAll 3 (some .int) 0 := ⟨cv_good ww_824 ww_825 ww_826 ww_58 ww_827, by decide +kernel⟩
theorem ww_828 : Cond.methodLink RX2 66 yX2_linesAt ∈ tb := at_place 828 (by decide +kernel) rfl
theorem cv_X2_66 : CV RX2 66 RX2 yX2_linesAt cX2_linesAt 2 (some .int) 1 := ⟨cv_good ww_828 ww_720 ww_721 ww_58 ww_722, by decide +kernel⟩
theorem ww_833 : Cond.code yX10_init cX10_init 1 none ∈ tb := at_place 833 (by decide +kernel) rfl
theorem ww_67 : Cond.initialized RX10 ∈ tb := at_place 67 (by decide +kernel) rfl
theorem ww_832 : Cond.instanceMethod yX10_init ∈ tb := at_place 832 (by decide +kernel) rfl
theorem ww_831 : Cond.methodLink RL 12 yX10_init ∈ tb := at_place 831 (by decide +kernel) rfl
theorem ww_920 : Cond.code yX10_field cX10_field 4 (some .int) ∈ tb := at_place 920 (by decide +kernel) rfl
theorem ww_917 : Cond.methodLink RL 17 yX10_field ∈ tb := at_place 917 (by decide +kernel) rfl
theorem ww_918 : Cond.instanceMethod yX10_field ∈ tb := at_place 918 (by decide +kernel) rfl
theorem ww_919 : Cond.selects RX10 yX10_field yX10_field ∈ tb := at_place 919 (by decide +kernel) rfl
theorem cv_L_17 : CV RL 17 RX10 yX10_field cX10_field 4 (some .int) 2 := ⟨cv_good ww_917 ww_918 ww_919 ww_67 ww_920, by decide +kernel⟩
theorem ww_925 : Cond.code yX10_in cX10_in 6 (some .boolean) ∈ tb := at_place 925 (by decide +kernel) rfl
theorem ww_923 : Cond.methodLink RX10 78 yX10_in ∈ tb := at_place 923 (by decide +kernel) rfl
theorem ww_924 : Cond.static yX10_in ∈ tb := at_place 924 (by decide +kernel) rfl
theorem cs_X10_78 : CS RX10 78 yX10_in cX10_in 6 (some .boolean) 3 := ⟨cs_good ww_923 ww_924 ww_67 ww_925, by decide +kernel⟩
theorem ww_928 : Cond.code yX10_isPrime cX10_isPrime 2 (some .boolean) ∈ tb := at_place 928 (by decide +kernel) rfl
theorem ww_926 : Cond.methodLink RX10 90 yX10_isPrime ∈ tb := at_place 926 (by decide +kernel) rfl
theorem ww_927 : Cond.static yX10_isPrime ∈ tb := at_place 927 (by decide +kernel) rfl
theorem cs_X10_90 : CS RX10 90 yX10_isPrime cX10_isPrime 2 (some .boolean) 1 := ⟨cs_good ww_926 ww_927 ww_67 ww_928, by decide +kernel⟩
theorem ww_933 : Cond.code yX10_divided cX10_divided 3 (some .int) ∈ tb := at_place 933 (by decide +kernel) rfl
theorem ww_930 : Cond.methodLink RL 21 yX10_divided ∈ tb := at_place 930 (by decide +kernel) rfl
theorem ww_931 : Cond.instanceMethod yX10_divided ∈ tb := at_place 931 (by decide +kernel) rfl
theorem ww_932 : Cond.selects RX10 yX10_divided yX10_divided ∈ tb := at_place 932 (by decide +kernel) rfl
theorem cv_L_21 : CV RL 21 RX10 yX10_divided cX10_divided 3 (some .int) 2 := ⟨cv_good ww_930 ww_931 ww_932 ww_67 ww_933, by decide +kernel⟩
theorem ww_937 : Cond.code yX10_rest cX10_rest 4 (some .int) ∈ tb := at_place 937 (by decide +kernel) rfl
theorem ww_934 : Cond.methodLink RX10 82 yX10_rest ∈ tb := at_place 934 (by decide +kernel) rfl
theorem ww_936 : Cond.instanceMethod yX10_rest ∈ tb := at_place 936 (by decide +kernel) rfl
theorem ww_19 : Cond.selects RX10 yX10_rest yX10_rest ∈ tb := at_place 19 (by decide +kernel) rfl
theorem cv_X10_82 : CV RX10 82 RX10 yX10_rest cX10_rest 4 (some .int) 1 := ⟨cv_good ww_934 ww_936 ww_19 ww_67 ww_937, by decide +kernel⟩
theorem ww_941 : Cond.code yX10_over cX10_over 4 (some .int) ∈ tb := at_place 941 (by decide +kernel) rfl
theorem ww_938 : Cond.methodLink RX10 96 yX10_over ∈ tb := at_place 938 (by decide +kernel) rfl
theorem ww_940 : Cond.instanceMethod yX10_over ∈ tb := at_place 940 (by decide +kernel) rfl
theorem ww_20 : Cond.selects RX10 yX10_over yX10_over ∈ tb := at_place 20 (by decide +kernel) rfl
theorem cv_X10_96 : CV RX10 96 RX10 yX10_over cX10_over 4 (some .int) 2 := ⟨cv_good ww_938 ww_940 ww_20 ww_67 ww_941, by decide +kernel⟩
theorem ww_945 : Cond.code yX10_pair cX10_pair 4 (some .int) ∈ tb := at_place 945 (by decide +kernel) rfl
theorem ww_942 : Cond.methodLink RL 25 yX10_pair ∈ tb := at_place 942 (by decide +kernel) rfl
theorem ww_943 : Cond.instanceMethod yX10_pair ∈ tb := at_place 943 (by decide +kernel) rfl
theorem ww_944 : Cond.selects RX10 yX10_pair yX10_pair ∈ tb := at_place 944 (by decide +kernel) rfl
theorem cv_L_25 : CV RL 25 RX10 yX10_pair cX10_pair 4 (some .int) 2 := ⟨cv_good ww_942 ww_943 ww_944 ww_67 ww_945, by decide +kernel⟩
theorem ww_951 : Cond.code yX10_entry cX10_entry 7 (some .int) ∈ tb := at_place 951 (by decide +kernel) rfl
theorem ww_948 : Cond.methodLink RL 30 yX10_entry ∈ tb := at_place 948 (by decide +kernel) rfl
theorem ww_949 : Cond.instanceMethod yX10_entry ∈ tb := at_place 949 (by decide +kernel) rfl
theorem ww_950 : Cond.selects RX10 yX10_entry yX10_entry ∈ tb := at_place 950 (by decide +kernel) rfl
theorem cv_L_30 : CV RL 30 RX10 yX10_entry cX10_entry 7 (some .int) 4 := ⟨cv_good ww_948 ww_949 ww_950 ww_67 ww_951, by decide +kernel⟩
theorem ww_955 : Cond.code yX10_isPair cX10_isPair 2 (some .boolean) ∈ tb := at_place 955 (by decide +kernel) rfl
theorem ww_952 : Cond.methodLink RX10 104 yX10_isPair ∈ tb := at_place 952 (by decide +kernel) rfl
theorem ww_954 : Cond.instanceMethod yX10_isPair ∈ tb := at_place 954 (by decide +kernel) rfl
theorem ww_21 : Cond.selects RX10 yX10_isPair yX10_isPair ∈ tb := at_place 21 (by decide +kernel) rfl
theorem cv_X10_104 : CV RX10 104 RX10 yX10_isPair cX10_isPair 2 (some .boolean) 1 := ⟨cv_good ww_952 ww_954 ww_21 ww_67 ww_955, by decide +kernel⟩
theorem ww_961 : Cond.code yX10_set cX10_set 5 (some .int) ∈ tb := at_place 961 (by decide +kernel) rfl
theorem ww_958 : Cond.methodLink RL 35 yX10_set ∈ tb := at_place 958 (by decide +kernel) rfl
theorem ww_959 : Cond.instanceMethod yX10_set ∈ tb := at_place 959 (by decide +kernel) rfl
theorem ww_960 : Cond.selects RX10 yX10_set yX10_set ∈ tb := at_place 960 (by decide +kernel) rfl
theorem cv_L_35 : CV RL 35 RX10 yX10_set cX10_set 5 (some .int) 3 := ⟨cv_good ww_958 ww_959 ww_960 ww_67 ww_961, by decide +kernel⟩
theorem ww_965 : Cond.code yX10_told cX10_told 3 (some .int) ∈ tb := at_place 965 (by decide +kernel) rfl
theorem ww_962 : Cond.methodLink RL 39 yX10_told ∈ tb := at_place 962 (by decide +kernel) rfl
theorem ww_963 : Cond.instanceMethod yX10_told ∈ tb := at_place 963 (by decide +kernel) rfl
theorem ww_964 : Cond.selects RX10 yX10_told yX10_told ∈ tb := at_place 964 (by decide +kernel) rfl
theorem cv_L_39 : CV RL 39 RX10 yX10_told cX10_told 3 (some .int) 2 := ⟨cv_good ww_962 ww_963 ww_964 ww_67 ww_965, by decide +kernel⟩
theorem ww_969 : Cond.code yX10_ahead cX10_ahead 5 (some .int) ∈ tb := at_place 969 (by decide +kernel) rfl
theorem ww_966 : Cond.methodLink RX10 111 yX10_ahead ∈ tb := at_place 966 (by decide +kernel) rfl
theorem ww_968 : Cond.instanceMethod yX10_ahead ∈ tb := at_place 968 (by decide +kernel) rfl
theorem ww_22 : Cond.selects RX10 yX10_ahead yX10_ahead ∈ tb := at_place 22 (by decide +kernel) rfl
theorem cv_X10_111 : CV RX10 111 RX10 yX10_ahead cX10_ahead 5 (some .int) 1 := ⟨cv_good ww_966 ww_968 ww_22 ww_67 ww_969, by decide +kernel⟩
theorem ww_973 : Cond.code yX10_namePlace cX10_namePlace 4 (some .int) ∈ tb := at_place 973 (by decide +kernel) rfl
theorem ww_970 : Cond.methodLink RX10 115 yX10_namePlace ∈ tb := at_place 970 (by decide +kernel) rfl
theorem ww_972 : Cond.instanceMethod yX10_namePlace ∈ tb := at_place 972 (by decide +kernel) rfl
theorem ww_23 : Cond.selects RX10 yX10_namePlace yX10_namePlace ∈ tb := at_place 23 (by decide +kernel) rfl
theorem cv_X10_115 : CV RX10 115 RX10 yX10_namePlace cX10_namePlace 4 (some .int) 1 := ⟨cv_good ww_970 ww_972 ww_23 ww_67 ww_973, by decide +kernel⟩
theorem ww_977 : Cond.code yX10_rankOf cX10_rankOf 4 (some .int) ∈ tb := at_place 977 (by decide +kernel) rfl
theorem ww_974 : Cond.methodLink RX10 118 yX10_rankOf ∈ tb := at_place 974 (by decide +kernel) rfl
theorem ww_976 : Cond.instanceMethod yX10_rankOf ∈ tb := at_place 976 (by decide +kernel) rfl
theorem ww_24 : Cond.selects RX10 yX10_rankOf yX10_rankOf ∈ tb := at_place 24 (by decide +kernel) rfl
theorem cv_X10_118 : CV RX10 118 RX10 yX10_rankOf cX10_rankOf 4 (some .int) 2 := ⟨cv_good ww_974 ww_976 ww_24 ww_67 ww_977, by decide +kernel⟩
theorem ww_980 : Cond.code yX10_has cX10_has 2 (some .boolean) ∈ tb := at_place 980 (by decide +kernel) rfl
theorem ww_978 : Cond.methodLink RX10 149 yX10_has ∈ tb := at_place 978 (by decide +kernel) rfl
theorem ww_979 : Cond.static yX10_has ∈ tb := at_place 979 (by decide +kernel) rfl
theorem cs_X10_149 : CS RX10 149 yX10_has cX10_has 2 (some .boolean) 2 := ⟨cs_good ww_978 ww_979 ww_67 ww_980, by decide +kernel⟩
theorem ww_984 : Cond.code yX10_laysAxis cX10_laysAxis 3 none ∈ tb := at_place 984 (by decide +kernel) rfl
theorem ww_981 : Cond.methodLink RX10 153 yX10_laysAxis ∈ tb := at_place 981 (by decide +kernel) rfl
theorem ww_983 : Cond.instanceMethod yX10_laysAxis ∈ tb := at_place 983 (by decide +kernel) rfl
theorem ww_25 : Cond.selects RX10 yX10_laysAxis yX10_laysAxis ∈ tb := at_place 25 (by decide +kernel) rfl
theorem cv_X10_153 : CV RX10 153 RX10 yX10_laysAxis cX10_laysAxis 3 none 1 := ⟨cv_good ww_981 ww_983 ww_25 ww_67 ww_984, by decide +kernel⟩
theorem ww_988 : Cond.code yX10_laysRow cX10_laysRow 4 none ∈ tb := at_place 988 (by decide +kernel) rfl
theorem ww_985 : Cond.methodLink RX10 157 yX10_laysRow ∈ tb := at_place 985 (by decide +kernel) rfl
theorem ww_987 : Cond.instanceMethod yX10_laysRow ∈ tb := at_place 987 (by decide +kernel) rfl
theorem ww_26 : Cond.selects RX10 yX10_laysRow yX10_laysRow ∈ tb := at_place 26 (by decide +kernel) rfl
theorem cv_X10_157 : CV RX10 157 RX10 yX10_laysRow cX10_laysRow 4 none 2 := ⟨cv_good ww_985 ww_987 ww_26 ww_67 ww_988, by decide +kernel⟩
theorem ww_992 : Cond.code yX10_numberOf cX10_numberOf 6 (some .int) ∈ tb := at_place 992 (by decide +kernel) rfl
theorem ww_989 : Cond.methodLink RX10 121 yX10_numberOf ∈ tb := at_place 989 (by decide +kernel) rfl
theorem ww_991 : Cond.instanceMethod yX10_numberOf ∈ tb := at_place 991 (by decide +kernel) rfl
theorem ww_27 : Cond.selects RX10 yX10_numberOf yX10_numberOf ∈ tb := at_place 27 (by decide +kernel) rfl
theorem cv_X10_121 : CV RX10 121 RX10 yX10_numberOf cX10_numberOf 6 (some .int) 3 := ⟨cv_good ww_989 ww_991 ww_27 ww_67 ww_992, by decide +kernel⟩
theorem ww_996 : Cond.code yX10_ranks cX10_ranks 5 (some .int) ∈ tb := at_place 996 (by decide +kernel) rfl
theorem ww_993 : Cond.methodLink RX10 160 yX10_ranks ∈ tb := at_place 993 (by decide +kernel) rfl
theorem ww_995 : Cond.instanceMethod yX10_ranks ∈ tb := at_place 995 (by decide +kernel) rfl
theorem ww_28 : Cond.selects RX10 yX10_ranks yX10_ranks ∈ tb := at_place 28 (by decide +kernel) rfl
theorem cv_X10_160 : CV RX10 160 RX10 yX10_ranks cX10_ranks 5 (some .int) 0 := ⟨cv_good ww_993 ww_995 ww_28 ww_67 ww_996, by decide +kernel⟩
theorem ww_1000 : Cond.code yX10_changes cX10_changes 5 none ∈ tb := at_place 1000 (by decide +kernel) rfl
theorem ww_997 : Cond.methodLink RX10 141 yX10_changes ∈ tb := at_place 997 (by decide +kernel) rfl
theorem ww_999 : Cond.instanceMethod yX10_changes ∈ tb := at_place 999 (by decide +kernel) rfl
theorem ww_29 : Cond.selects RX10 yX10_changes yX10_changes ∈ tb := at_place 29 (by decide +kernel) rfl
theorem cv_X10_141 : CV RX10 141 RX10 yX10_changes cX10_changes 5 none 2 := ⟨cv_good ww_997 ww_999 ww_29 ww_67 ww_1000, by decide +kernel⟩
theorem ww_1004 : Cond.code yX10_adds cX10_adds 5 none ∈ tb := at_place 1004 (by decide +kernel) rfl
theorem ww_1001 : Cond.methodLink RX10 145 yX10_adds ∈ tb := at_place 1001 (by decide +kernel) rfl
theorem ww_1003 : Cond.instanceMethod yX10_adds ∈ tb := at_place 1003 (by decide +kernel) rfl
theorem ww_30 : Cond.selects RX10 yX10_adds yX10_adds ∈ tb := at_place 30 (by decide +kernel) rfl
theorem cv_X10_145 : CV RX10 145 RX10 yX10_adds cX10_adds 5 none 3 := ⟨cv_good ww_1001 ww_1003 ww_30 ww_67 ww_1004, by decide +kernel⟩
theorem ww_1008 : Cond.code yX10_number cX10_number 4 (some .int) ∈ tb := at_place 1008 (by decide +kernel) rfl
theorem ww_1005 : Cond.methodLink RL 43 yX10_number ∈ tb := at_place 1005 (by decide +kernel) rfl
theorem ww_1006 : Cond.instanceMethod yX10_number ∈ tb := at_place 1006 (by decide +kernel) rfl
theorem ww_1007 : Cond.selects RX10 yX10_number yX10_number ∈ tb := at_place 1007 (by decide +kernel) rfl
theorem cv_L_43 : CV RL 43 RX10 yX10_number cX10_number 4 (some .int) 3 := ⟨cv_good ww_1005 ww_1006 ww_1007 ww_67 ww_1008, by decide +kernel⟩
theorem ww_1012 : Cond.code yX10_drop cX10_drop 1 (some .int) ∈ tb := at_place 1012 (by decide +kernel) rfl
theorem ww_1009 : Cond.methodLink RL 48 yX10_drop ∈ tb := at_place 1009 (by decide +kernel) rfl
theorem ww_1010 : Cond.instanceMethod yX10_drop ∈ tb := at_place 1010 (by decide +kernel) rfl
theorem ww_1011 : Cond.selects RX10 yX10_drop yX10_drop ∈ tb := at_place 1011 (by decide +kernel) rfl
theorem cv_L_48 : CV RL 48 RX10 yX10_drop cX10_drop 1 (some .int) 0 := ⟨cv_good ww_1009 ww_1010 ww_1011 ww_67 ww_1012, by decide +kernel⟩
theorem ww_1016 : Cond.code yX10_name cX10_name 5 (some .int) ∈ tb := at_place 1016 (by decide +kernel) rfl
theorem ww_1013 : Cond.methodLink RL 55 yX10_name ∈ tb := at_place 1013 (by decide +kernel) rfl
theorem ww_1014 : Cond.instanceMethod yX10_name ∈ tb := at_place 1014 (by decide +kernel) rfl
theorem ww_1015 : Cond.selects RX10 yX10_name yX10_name ∈ tb := at_place 1015 (by decide +kernel) rfl
theorem cv_L_55 : CV RL 55 RX10 yX10_name cX10_name 5 (some .int) 2 := ⟨cv_good ww_1013 ww_1014 ww_1015 ww_67 ww_1016, by decide +kernel⟩
theorem ww_1019 : Cond.code yX10_isName cX10_isName 6 (some .boolean) ∈ tb := at_place 1019 (by decide +kernel) rfl
theorem ww_1017 : Cond.methodLink RX10 129 yX10_isName ∈ tb := at_place 1017 (by decide +kernel) rfl
theorem ww_1018 : Cond.static yX10_isName ∈ tb := at_place 1018 (by decide +kernel) rfl
theorem cs_X10_129 : CS RX10 129 yX10_isName cX10_isName 6 (some .boolean) 1 := ⟨cs_good ww_1017 ww_1018 ww_67 ww_1019, by decide +kernel⟩
theorem ww_1025 : Cond.code yX10_whoIs cX10_whoIs 4 (some .int) ∈ tb := at_place 1025 (by decide +kernel) rfl
theorem ww_1022 : Cond.methodLink RX10 133 yX10_whoIs ∈ tb := at_place 1022 (by decide +kernel) rfl
theorem ww_1024 : Cond.instanceMethod yX10_whoIs ∈ tb := at_place 1024 (by decide +kernel) rfl
theorem ww_31 : Cond.selects RX10 yX10_whoIs yX10_whoIs ∈ tb := at_place 31 (by decide +kernel) rfl
theorem cv_X10_133 : CV RX10 133 RX10 yX10_whoIs cX10_whoIs 4 (some .int) 1 := ⟨cv_good ww_1022 ww_1024 ww_31 ww_67 ww_1025, by decide +kernel⟩
theorem ww_1029 : Cond.code yX10_named cX10_named 3 (some .int) ∈ tb := at_place 1029 (by decide +kernel) rfl
theorem ww_1026 : Cond.methodLink RL 60 yX10_named ∈ tb := at_place 1026 (by decide +kernel) rfl
theorem ww_1027 : Cond.instanceMethod yX10_named ∈ tb := at_place 1027 (by decide +kernel) rfl
theorem ww_1028 : Cond.selects RX10 yX10_named yX10_named ∈ tb := at_place 1028 (by decide +kernel) rfl
theorem cv_L_60 : CV RL 60 RX10 yX10_named cX10_named 3 (some .int) 1 := ⟨cv_good ww_1026 ww_1027 ww_1028 ww_67 ww_1029, by decide +kernel⟩
theorem ww_1033 : Cond.code yX10_unname cX10_unname 3 (some .int) ∈ tb := at_place 1033 (by decide +kernel) rfl
theorem ww_1030 : Cond.methodLink RL 65 yX10_unname ∈ tb := at_place 1030 (by decide +kernel) rfl
theorem ww_1031 : Cond.instanceMethod yX10_unname ∈ tb := at_place 1031 (by decide +kernel) rfl
theorem ww_1032 : Cond.selects RX10 yX10_unname yX10_unname ∈ tb := at_place 1032 (by decide +kernel) rfl
theorem cv_L_65 : CV RL 65 RX10 yX10_unname cX10_unname 3 (some .int) 1 := ⟨cv_good ww_1030 ww_1031 ww_1032 ww_67 ww_1033, by decide +kernel⟩
theorem ww_1037 : Cond.code yX10_nameAt cX10_nameAt 3 (some .long) ∈ tb := at_place 1037 (by decide +kernel) rfl
theorem ww_1034 : Cond.methodLink RL 70 yX10_nameAt ∈ tb := at_place 1034 (by decide +kernel) rfl
theorem ww_1035 : Cond.instanceMethod yX10_nameAt ∈ tb := at_place 1035 (by decide +kernel) rfl
theorem ww_1036 : Cond.selects RX10 yX10_nameAt yX10_nameAt ∈ tb := at_place 1036 (by decide +kernel) rfl
theorem cv_L_70 : CV RL 70 RX10 yX10_nameAt cX10_nameAt 3 (some .long) 1 := ⟨cv_good ww_1034 ww_1035 ww_1036 ww_67 ww_1037, by decide +kernel⟩
theorem ww_1042 : Cond.code yX10_rank cX10_rank 2 (some .int) ∈ tb := at_place 1042 (by decide +kernel) rfl
theorem ww_1039 : Cond.methodLink RL 74 yX10_rank ∈ tb := at_place 1039 (by decide +kernel) rfl
theorem ww_1040 : Cond.instanceMethod yX10_rank ∈ tb := at_place 1040 (by decide +kernel) rfl
theorem ww_1041 : Cond.selects RX10 yX10_rank yX10_rank ∈ tb := at_place 1041 (by decide +kernel) rfl
theorem cv_L_74 : CV RL 74 RX10 yX10_rank cX10_rank 2 (some .int) 1 := ⟨cv_good ww_1039 ww_1040 ww_1041 ww_67 ww_1042, by decide +kernel⟩
theorem ww_1046 : Cond.code yX10_isSet cX10_isSet 2 (some .boolean) ∈ tb := at_place 1046 (by decide +kernel) rfl
theorem ww_1043 : Cond.methodLink RX10 167 yX10_isSet ∈ tb := at_place 1043 (by decide +kernel) rfl
theorem ww_1045 : Cond.instanceMethod yX10_isSet ∈ tb := at_place 1045 (by decide +kernel) rfl
theorem ww_32 : Cond.selects RX10 yX10_isSet yX10_isSet ∈ tb := at_place 32 (by decide +kernel) rfl
theorem cv_X10_167 : CV RX10 167 RX10 yX10_isSet cX10_isSet 2 (some .boolean) 1 := ⟨cv_good ww_1043 ww_1045 ww_32 ww_67 ww_1046, by decide +kernel⟩
theorem ww_1050 : Cond.code yX10_stands cX10_stands 2 (some .int) ∈ tb := at_place 1050 (by decide +kernel) rfl
theorem ww_1047 : Cond.methodLink RL 78 yX10_stands ∈ tb := at_place 1047 (by decide +kernel) rfl
theorem ww_1048 : Cond.instanceMethod yX10_stands ∈ tb := at_place 1048 (by decide +kernel) rfl
theorem ww_1049 : Cond.selects RX10 yX10_stands yX10_stands ∈ tb := at_place 1049 (by decide +kernel) rfl
theorem cv_L_78 : CV RL 78 RX10 yX10_stands cX10_stands 2 (some .int) 1 := ⟨cv_good ww_1047 ww_1048 ww_1049 ww_67 ww_1050, by decide +kernel⟩
theorem ww_1054 : Cond.code yX10_isStanding cX10_isStanding 2 (some .boolean) ∈ tb := at_place 1054 (by decide +kernel) rfl
theorem ww_1051 : Cond.methodLink RX10 170 yX10_isStanding ∈ tb := at_place 1051 (by decide +kernel) rfl
theorem ww_1053 : Cond.instanceMethod yX10_isStanding ∈ tb := at_place 1053 (by decide +kernel) rfl
theorem ww_33 : Cond.selects RX10 yX10_isStanding yX10_isStanding ∈ tb := at_place 33 (by decide +kernel) rfl
theorem cv_X10_170 : CV RX10 170 RX10 yX10_isStanding cX10_isStanding 2 (some .boolean) 1 := ⟨cv_good ww_1051 ww_1053 ww_33 ww_67 ww_1054, by decide +kernel⟩
theorem ww_1057 : Cond.code yX10_many cX10_many 3 (some .int) ∈ tb := at_place 1057 (by decide +kernel) rfl
theorem ww_1055 : Cond.methodLink RX10 164 yX10_many ∈ tb := at_place 1055 (by decide +kernel) rfl
theorem ww_1056 : Cond.static yX10_many ∈ tb := at_place 1056 (by decide +kernel) rfl
theorem cs_X10_164 : CS RX10 164 yX10_many cX10_many 3 (some .int) 1 := ⟨cs_good ww_1055 ww_1056 ww_67 ww_1057, by decide +kernel⟩
theorem ww_1061 : Cond.code yX10_most cX10_most 1 (some .int) ∈ tb := at_place 1061 (by decide +kernel) rfl
theorem ww_1058 : Cond.methodLink RL 82 yX10_most ∈ tb := at_place 1058 (by decide +kernel) rfl
theorem ww_1059 : Cond.instanceMethod yX10_most ∈ tb := at_place 1059 (by decide +kernel) rfl
theorem ww_1060 : Cond.selects RX10 yX10_most yX10_most ∈ tb := at_place 1060 (by decide +kernel) rfl
theorem cv_L_82 : CV RL 82 RX10 yX10_most cX10_most 1 (some .int) 0 := ⟨cv_good ww_1058 ww_1059 ww_1060 ww_67 ww_1061, by decide +kernel⟩
theorem ww_1065 : Cond.code yX10_mostOf cX10_mostOf 3 (some .int) ∈ tb := at_place 1065 (by decide +kernel) rfl
theorem ww_1062 : Cond.methodLink RX10 173 yX10_mostOf ∈ tb := at_place 1062 (by decide +kernel) rfl
theorem ww_1064 : Cond.instanceMethod yX10_mostOf ∈ tb := at_place 1064 (by decide +kernel) rfl
theorem ww_34 : Cond.selects RX10 yX10_mostOf yX10_mostOf ∈ tb := at_place 34 (by decide +kernel) rfl
theorem cv_X10_173 : CV RX10 173 RX10 yX10_mostOf cX10_mostOf 3 (some .int) 0 := ⟨cv_good ww_1062 ww_1064 ww_34 ww_67 ww_1065, by decide +kernel⟩
theorem ww_1069 : Cond.code yX10_best cX10_best 8 (some .int) ∈ tb := at_place 1069 (by decide +kernel) rfl
theorem ww_1066 : Cond.methodLink RL 86 yX10_best ∈ tb := at_place 1066 (by decide +kernel) rfl
theorem ww_1067 : Cond.instanceMethod yX10_best ∈ tb := at_place 1067 (by decide +kernel) rfl
theorem ww_1068 : Cond.selects RX10 yX10_best yX10_best ∈ tb := at_place 1068 (by decide +kernel) rfl
theorem cv_L_86 : CV RL 86 RX10 yX10_best cX10_best 8 (some .int) 1 := ⟨cv_good ww_1066 ww_1067 ww_1068 ww_67 ww_1069, by decide +kernel⟩
theorem ww_1074 : Cond.code yX10_heavy cX10_heavy 4 (some .int) ∈ tb := at_place 1074 (by decide +kernel) rfl
theorem ww_1071 : Cond.methodLink RL 90 yX10_heavy ∈ tb := at_place 1071 (by decide +kernel) rfl
theorem ww_1072 : Cond.instanceMethod yX10_heavy ∈ tb := at_place 1072 (by decide +kernel) rfl
theorem ww_1073 : Cond.selects RX10 yX10_heavy yX10_heavy ∈ tb := at_place 1073 (by decide +kernel) rfl
theorem cv_L_90 : CV RL 90 RX10 yX10_heavy cX10_heavy 4 (some .int) 1 := ⟨cv_good ww_1071 ww_1072 ww_1073 ww_67 ww_1074, by decide +kernel⟩
theorem ww_1078 : Cond.code yX10_weights cX10_weights 4 (some .int) ∈ tb := at_place 1078 (by decide +kernel) rfl
theorem ww_1075 : Cond.methodLink RX10 178 yX10_weights ∈ tb := at_place 1075 (by decide +kernel) rfl
theorem ww_1077 : Cond.instanceMethod yX10_weights ∈ tb := at_place 1077 (by decide +kernel) rfl
theorem ww_35 : Cond.selects RX10 yX10_weights yX10_weights ∈ tb := at_place 35 (by decide +kernel) rfl
theorem cv_X10_178 : CV RX10 178 RX10 yX10_weights cX10_weights 4 (some .int) 1 := ⟨cv_good ww_1075 ww_1077 ww_35 ww_67 ww_1078, by decide +kernel⟩
theorem ww_1082 : Cond.code yX10_queue cX10_queue 3 (some .int) ∈ tb := at_place 1082 (by decide +kernel) rfl
theorem ww_1079 : Cond.methodLink RL 94 yX10_queue ∈ tb := at_place 1079 (by decide +kernel) rfl
theorem ww_1080 : Cond.instanceMethod yX10_queue ∈ tb := at_place 1080 (by decide +kernel) rfl
theorem ww_1081 : Cond.selects RX10 yX10_queue yX10_queue ∈ tb := at_place 1081 (by decide +kernel) rfl
theorem cv_L_94 : CV RL 94 RX10 yX10_queue cX10_queue 3 (some .int) 1 := ⟨cv_good ww_1079 ww_1080 ww_1081 ww_67 ww_1082, by decide +kernel⟩
theorem ww_1086 : Cond.code yX10_greedy cX10_greedy 5 (some .int) ∈ tb := at_place 1086 (by decide +kernel) rfl
theorem ww_1083 : Cond.methodLink RL 98 yX10_greedy ∈ tb := at_place 1083 (by decide +kernel) rfl
theorem ww_1084 : Cond.instanceMethod yX10_greedy ∈ tb := at_place 1084 (by decide +kernel) rfl
theorem ww_1085 : Cond.selects RX10 yX10_greedy yX10_greedy ∈ tb := at_place 1085 (by decide +kernel) rfl
theorem cv_L_98 : CV RL 98 RX10 yX10_greedy cX10_greedy 5 (some .int) 1 := ⟨cv_good ww_1083 ww_1084 ww_1085 ww_67 ww_1086, by decide +kernel⟩
theorem ww_1087 : Cond.methodLink RX10 181 yX10_queue ∈ tb := at_place 1087 (by decide +kernel) rfl
theorem cv_X10_181 : CV RX10 181 RX10 yX10_queue cX10_queue 3 (some .int) 1 := ⟨cv_good ww_1087 ww_1080 ww_1081 ww_67 ww_1082, by decide +kernel⟩
theorem ww_1091 : Cond.code yX10_better cX10_better 4 (some .int) ∈ tb := at_place 1091 (by decide +kernel) rfl
theorem ww_1088 : Cond.methodLink RL 102 yX10_better ∈ tb := at_place 1088 (by decide +kernel) rfl
theorem ww_1089 : Cond.instanceMethod yX10_better ∈ tb := at_place 1089 (by decide +kernel) rfl
theorem ww_1090 : Cond.selects RX10 yX10_better yX10_better ∈ tb := at_place 1090 (by decide +kernel) rfl
theorem cv_L_102 : CV RL 102 RX10 yX10_better cX10_better 4 (some .int) 1 := ⟨cv_good ww_1088 ww_1089 ww_1090 ww_67 ww_1091, by decide +kernel⟩
theorem ww_1095 : Cond.code yX10_bettered cX10_bettered 6 (some .int) ∈ tb := at_place 1095 (by decide +kernel) rfl
theorem ww_1092 : Cond.methodLink RX10 184 yX10_bettered ∈ tb := at_place 1092 (by decide +kernel) rfl
theorem ww_1094 : Cond.instanceMethod yX10_bettered ∈ tb := at_place 1094 (by decide +kernel) rfl
theorem ww_36 : Cond.selects RX10 yX10_bettered yX10_bettered ∈ tb := at_place 36 (by decide +kernel) rfl
theorem cv_X10_184 : CV RX10 184 RX10 yX10_bettered cX10_bettered 6 (some .int) 1 := ⟨cv_good ww_1092 ww_1094 ww_36 ww_67 ww_1095, by decide +kernel⟩
theorem ww_1099 : Cond.code yX10_table cX10_table 5 (some .int) ∈ tb := at_place 1099 (by decide +kernel) rfl
theorem ww_1096 : Cond.methodLink RL 106 yX10_table ∈ tb := at_place 1096 (by decide +kernel) rfl
theorem ww_1097 : Cond.instanceMethod yX10_table ∈ tb := at_place 1097 (by decide +kernel) rfl
theorem ww_1098 : Cond.selects RX10 yX10_table yX10_table ∈ tb := at_place 1098 (by decide +kernel) rfl
theorem cv_L_106 : CV RL 106 RX10 yX10_table cX10_table 5 (some .int) 3 := ⟨cv_good ww_1096 ww_1097 ww_1098 ww_67 ww_1099, by decide +kernel⟩
theorem ww_1102 : Cond.code yX10_isSheet cX10_isSheet 1 (some .boolean) ∈ tb := at_place 1102 (by decide +kernel) rfl
theorem ww_1100 : Cond.methodLink RX10 187 yX10_isSheet ∈ tb := at_place 1100 (by decide +kernel) rfl
theorem ww_1101 : Cond.static yX10_isSheet ∈ tb := at_place 1101 (by decide +kernel) rfl
theorem cs_X10_187 : CS RX10 187 yX10_isSheet cX10_isSheet 1 (some .boolean) 1 := ⟨cs_good ww_1100 ww_1101 ww_67 ww_1102, by decide +kernel⟩
theorem ww_1106 : Cond.code yX10_tells cX10_tells 3 (some .int) ∈ tb := at_place 1106 (by decide +kernel) rfl
theorem ww_1103 : Cond.methodLink RX10 193 yX10_tells ∈ tb := at_place 1103 (by decide +kernel) rfl
theorem ww_1105 : Cond.instanceMethod yX10_tells ∈ tb := at_place 1105 (by decide +kernel) rfl
theorem ww_37 : Cond.selects RX10 yX10_tells yX10_tells ∈ tb := at_place 37 (by decide +kernel) rfl
theorem cv_X10_193 : CV RX10 193 RX10 yX10_tells cX10_tells 3 (some .int) 1 := ⟨cv_good ww_1103 ww_1105 ww_37 ww_67 ww_1106, by decide +kernel⟩
theorem ww_1110 : Cond.code yX10_tableAt cX10_tableAt 5 (some .int) ∈ tb := at_place 1110 (by decide +kernel) rfl
theorem ww_1107 : Cond.methodLink RX10 196 yX10_tableAt ∈ tb := at_place 1107 (by decide +kernel) rfl
theorem ww_1109 : Cond.instanceMethod yX10_tableAt ∈ tb := at_place 1109 (by decide +kernel) rfl
theorem ww_38 : Cond.selects RX10 yX10_tableAt yX10_tableAt ∈ tb := at_place 38 (by decide +kernel) rfl
theorem cv_X10_196 : CV RX10 196 RX10 yX10_tableAt cX10_tableAt 5 (some .int) 2 := ⟨cv_good ww_1107 ww_1109 ww_38 ww_67 ww_1110, by decide +kernel⟩
theorem ww_1114 : Cond.code yX10_difference cX10_difference 4 (some .int) ∈ tb := at_place 1114 (by decide +kernel) rfl
theorem ww_1111 : Cond.methodLink RX10 190 yX10_difference ∈ tb := at_place 1111 (by decide +kernel) rfl
theorem ww_1113 : Cond.instanceMethod yX10_difference ∈ tb := at_place 1113 (by decide +kernel) rfl
theorem ww_39 : Cond.selects RX10 yX10_difference yX10_difference ∈ tb := at_place 39 (by decide +kernel) rfl
theorem cv_X10_190 : CV RX10 190 RX10 yX10_difference cX10_difference 4 (some .int) 3 := ⟨cv_good ww_1111 ww_1113 ww_39 ww_67 ww_1114, by decide +kernel⟩
theorem ww_1118 : Cond.code yX10_half cX10_half 3 (some .int) ∈ tb := at_place 1118 (by decide +kernel) rfl
theorem ww_1115 : Cond.methodLink RL 110 yX10_half ∈ tb := at_place 1115 (by decide +kernel) rfl
theorem ww_1116 : Cond.instanceMethod yX10_half ∈ tb := at_place 1116 (by decide +kernel) rfl
theorem ww_1117 : Cond.selects RX10 yX10_half yX10_half ∈ tb := at_place 1117 (by decide +kernel) rfl
theorem cv_L_110 : CV RL 110 RX10 yX10_half cX10_half 3 (some .int) 1 := ⟨cv_good ww_1115 ww_1116 ww_1117 ww_67 ww_1118, by decide +kernel⟩
theorem ww_1122 : Cond.code yX10_halfOf cX10_halfOf 3 (some .int) ∈ tb := at_place 1122 (by decide +kernel) rfl
theorem ww_1119 : Cond.methodLink RX10 199 yX10_halfOf ∈ tb := at_place 1119 (by decide +kernel) rfl
theorem ww_1121 : Cond.instanceMethod yX10_halfOf ∈ tb := at_place 1121 (by decide +kernel) rfl
theorem ww_40 : Cond.selects RX10 yX10_halfOf yX10_halfOf ∈ tb := at_place 40 (by decide +kernel) rfl
theorem cv_X10_199 : CV RX10 199 RX10 yX10_halfOf cX10_halfOf 3 (some .int) 0 := ⟨cv_good ww_1119 ww_1121 ww_40 ww_67 ww_1122, by decide +kernel⟩
theorem ww_1126 : Cond.code yX10_root cX10_root 5 (some .long) ∈ tb := at_place 1126 (by decide +kernel) rfl
theorem ww_1123 : Cond.methodLink RL 114 yX10_root ∈ tb := at_place 1123 (by decide +kernel) rfl
theorem ww_1124 : Cond.instanceMethod yX10_root ∈ tb := at_place 1124 (by decide +kernel) rfl
theorem ww_1125 : Cond.selects RX10 yX10_root yX10_root ∈ tb := at_place 1125 (by decide +kernel) rfl
theorem cv_L_114 : CV RL 114 RX10 yX10_root cX10_root 5 (some .long) 1 := ⟨cv_good ww_1123 ww_1124 ww_1125 ww_67 ww_1126, by decide +kernel⟩
theorem ww_1131 : Cond.code yX10_laysWhole cX10_laysWhole 6 none ∈ tb := at_place 1131 (by decide +kernel) rfl
theorem ww_1128 : Cond.methodLink RX10 224 yX10_laysWhole ∈ tb := at_place 1128 (by decide +kernel) rfl
theorem ww_1130 : Cond.instanceMethod yX10_laysWhole ∈ tb := at_place 1130 (by decide +kernel) rfl
theorem ww_41 : Cond.selects RX10 yX10_laysWhole yX10_laysWhole ∈ tb := at_place 41 (by decide +kernel) rfl
theorem cv_X10_224 : CV RX10 224 RX10 yX10_laysWhole cX10_laysWhole 6 none 0 := ⟨cv_good ww_1128 ww_1130 ww_41 ww_67 ww_1131, by decide +kernel⟩
theorem ww_1135 : Cond.code yX10_times cX10_times 7 (some .long) ∈ tb := at_place 1135 (by decide +kernel) rfl
theorem ww_1132 : Cond.methodLink RX10 208 yX10_times ∈ tb := at_place 1132 (by decide +kernel) rfl
theorem ww_1134 : Cond.instanceMethod yX10_times ∈ tb := at_place 1134 (by decide +kernel) rfl
theorem ww_42 : Cond.selects RX10 yX10_times yX10_times ∈ tb := at_place 42 (by decide +kernel) rfl
theorem cv_X10_208 : CV RX10 208 RX10 yX10_times cX10_times 7 (some .long) 2 := ⟨cv_good ww_1132 ww_1134 ww_42 ww_67 ww_1135, by decide +kernel⟩
theorem ww_1140 : Cond.code yX10_plus cX10_plus 7 (some .long) ∈ tb := at_place 1140 (by decide +kernel) rfl
theorem ww_1137 : Cond.methodLink RX10 212 yX10_plus ∈ tb := at_place 1137 (by decide +kernel) rfl
theorem ww_1139 : Cond.instanceMethod yX10_plus ∈ tb := at_place 1139 (by decide +kernel) rfl
theorem ww_43 : Cond.selects RX10 yX10_plus yX10_plus ∈ tb := at_place 43 (by decide +kernel) rfl
theorem cv_X10_212 : CV RX10 212 RX10 yX10_plus cX10_plus 7 (some .long) 2 := ⟨cv_good ww_1137 ww_1139 ww_43 ww_67 ww_1140, by decide +kernel⟩
theorem ww_1144 : Cond.code yX10_rootOf cX10_rootOf 9 (some .long) ∈ tb := at_place 1144 (by decide +kernel) rfl
theorem ww_1141 : Cond.methodLink RX10 215 yX10_rootOf ∈ tb := at_place 1141 (by decide +kernel) rfl
theorem ww_1143 : Cond.instanceMethod yX10_rootOf ∈ tb := at_place 1143 (by decide +kernel) rfl
theorem ww_44 : Cond.selects RX10 yX10_rootOf yX10_rootOf ∈ tb := at_place 44 (by decide +kernel) rfl
theorem cv_X10_215 : CV RX10 215 RX10 yX10_rootOf cX10_rootOf 9 (some .long) 1 := ⟨cv_good ww_1141 ww_1143 ww_44 ww_67 ww_1144, by decide +kernel⟩
theorem ww_1148 : Cond.code yX10_less cX10_less 7 (some .long) ∈ tb := at_place 1148 (by decide +kernel) rfl
theorem ww_1145 : Cond.methodLink RX10 219 yX10_less ∈ tb := at_place 1145 (by decide +kernel) rfl
theorem ww_1147 : Cond.instanceMethod yX10_less ∈ tb := at_place 1147 (by decide +kernel) rfl
theorem ww_45 : Cond.selects RX10 yX10_less yX10_less ∈ tb := at_place 45 (by decide +kernel) rfl
theorem cv_X10_219 : CV RX10 219 RX10 yX10_less cX10_less 7 (some .long) 2 := ⟨cv_good ww_1145 ww_1147 ww_45 ww_67 ww_1148, by decide +kernel⟩
theorem ww_1153 : Cond.code yX10_claim cX10_claim 6 (some .int) ∈ tb := at_place 1153 (by decide +kernel) rfl
theorem ww_1150 : Cond.methodLink RL 118 yX10_claim ∈ tb := at_place 1150 (by decide +kernel) rfl
theorem ww_1151 : Cond.instanceMethod yX10_claim ∈ tb := at_place 1151 (by decide +kernel) rfl
theorem ww_1152 : Cond.selects RX10 yX10_claim yX10_claim ∈ tb := at_place 1152 (by decide +kernel) rfl
theorem cv_L_118 : CV RL 118 RX10 yX10_claim cX10_claim 6 (some .int) 2 := ⟨cv_good ww_1150 ww_1151 ww_1152 ww_67 ww_1153, by decide +kernel⟩
theorem ww_1158 : Cond.code yX10_draws cX10_draws 2 none ∈ tb := at_place 1158 (by decide +kernel) rfl
theorem ww_1155 : Cond.methodLink RX10 235 yX10_draws ∈ tb := at_place 1155 (by decide +kernel) rfl
theorem ww_1157 : Cond.instanceMethod yX10_draws ∈ tb := at_place 1157 (by decide +kernel) rfl
theorem ww_46 : Cond.selects RX10 yX10_draws yX10_draws ∈ tb := at_place 46 (by decide +kernel) rfl
theorem cv_X10_235 : CV RX10 235 RX10 yX10_draws cX10_draws 2 none 0 := ⟨cv_good ww_1155 ww_1157 ww_46 ww_67 ww_1158, by decide +kernel⟩
theorem ww_1163 : Cond.code yX10_sure cX10_sure 6 (some .int) ∈ tb := at_place 1163 (by decide +kernel) rfl
theorem ww_1160 : Cond.methodLink RL 122 yX10_sure ∈ tb := at_place 1160 (by decide +kernel) rfl
theorem ww_1161 : Cond.instanceMethod yX10_sure ∈ tb := at_place 1161 (by decide +kernel) rfl
theorem ww_1162 : Cond.selects RX10 yX10_sure yX10_sure ∈ tb := at_place 1162 (by decide +kernel) rfl
theorem cv_L_122 : CV RL 122 RX10 yX10_sure cX10_sure 6 (some .int) 2 := ⟨cv_good ww_1160 ww_1161 ww_1162 ww_67 ww_1163, by decide +kernel⟩
theorem ww_1167 : Cond.code yX10_cover cX10_cover 8 (some .int) ∈ tb := at_place 1167 (by decide +kernel) rfl
theorem ww_1164 : Cond.methodLink RL 126 yX10_cover ∈ tb := at_place 1164 (by decide +kernel) rfl
theorem ww_1165 : Cond.instanceMethod yX10_cover ∈ tb := at_place 1165 (by decide +kernel) rfl
theorem ww_1166 : Cond.selects RX10 yX10_cover yX10_cover ∈ tb := at_place 1166 (by decide +kernel) rfl
theorem cv_L_126 : CV RL 126 RX10 yX10_cover cX10_cover 8 (some .int) 2 := ⟨cv_good ww_1164 ww_1165 ww_1166 ww_67 ww_1167, by decide +kernel⟩
theorem ww_1171 : Cond.code yX10_areAxes cX10_areAxes 2 (some .boolean) ∈ tb := at_place 1171 (by decide +kernel) rfl
theorem ww_1168 : Cond.methodLink RX10 238 yX10_areAxes ∈ tb := at_place 1168 (by decide +kernel) rfl
theorem ww_1170 : Cond.instanceMethod yX10_areAxes ∈ tb := at_place 1170 (by decide +kernel) rfl
theorem ww_47 : Cond.selects RX10 yX10_areAxes yX10_areAxes ∈ tb := at_place 47 (by decide +kernel) rfl
theorem cv_X10_238 : CV RX10 238 RX10 yX10_areAxes cX10_areAxes 2 (some .boolean) 1 := ⟨cv_good ww_1168 ww_1170 ww_47 ww_67 ww_1171, by decide +kernel⟩
theorem ww_1175 : Cond.code yX10_classWorth cX10_classWorth 3 (some .int) ∈ tb := at_place 1175 (by decide +kernel) rfl
theorem ww_1172 : Cond.methodLink RX10 241 yX10_classWorth ∈ tb := at_place 1172 (by decide +kernel) rfl
theorem ww_1174 : Cond.instanceMethod yX10_classWorth ∈ tb := at_place 1174 (by decide +kernel) rfl
theorem ww_48 : Cond.selects RX10 yX10_classWorth yX10_classWorth ∈ tb := at_place 48 (by decide +kernel) rfl
theorem cv_X10_241 : CV RX10 241 RX10 yX10_classWorth cX10_classWorth 3 (some .int) 2 := ⟨cv_good ww_1172 ww_1174 ww_48 ww_67 ww_1175, by decide +kernel⟩
theorem ww_1179 : Cond.code yX10_cheap cX10_cheap 8 (some .int) ∈ tb := at_place 1179 (by decide +kernel) rfl
theorem ww_1176 : Cond.methodLink RL 130 yX10_cheap ∈ tb := at_place 1176 (by decide +kernel) rfl
theorem ww_1177 : Cond.instanceMethod yX10_cheap ∈ tb := at_place 1177 (by decide +kernel) rfl
theorem ww_1178 : Cond.selects RX10 yX10_cheap yX10_cheap ∈ tb := at_place 1178 (by decide +kernel) rfl
theorem cv_L_130 : CV RL 130 RX10 yX10_cheap cX10_cheap 8 (some .int) 2 := ⟨cv_good ww_1176 ww_1177 ww_1178 ww_67 ww_1179, by decide +kernel⟩
theorem ww_1183 : Cond.code yX10_rays cX10_rays 1 (some .int) ∈ tb := at_place 1183 (by decide +kernel) rfl
theorem ww_1180 : Cond.methodLink RL 134 yX10_rays ∈ tb := at_place 1180 (by decide +kernel) rfl
theorem ww_1181 : Cond.instanceMethod yX10_rays ∈ tb := at_place 1181 (by decide +kernel) rfl
theorem ww_1182 : Cond.selects RX10 yX10_rays yX10_rays ∈ tb := at_place 1182 (by decide +kernel) rfl
theorem cv_L_134 : CV RL 134 RX10 yX10_rays cX10_rays 1 (some .int) 0 := ⟨cv_good ww_1180 ww_1181 ww_1182 ww_67 ww_1183, by decide +kernel⟩
theorem ww_1187 : Cond.code yX10_findsRays cX10_findsRays 6 none ∈ tb := at_place 1187 (by decide +kernel) rfl
theorem ww_1184 : Cond.methodLink RX10 251 yX10_findsRays ∈ tb := at_place 1184 (by decide +kernel) rfl
theorem ww_1186 : Cond.instanceMethod yX10_findsRays ∈ tb := at_place 1186 (by decide +kernel) rfl
theorem ww_49 : Cond.selects RX10 yX10_findsRays yX10_findsRays ∈ tb := at_place 49 (by decide +kernel) rfl
theorem cv_X10_251 : CV RX10 251 RX10 yX10_findsRays cX10_findsRays 6 none 0 := ⟨cv_good ww_1184 ww_1186 ww_49 ww_67 ww_1187, by decide +kernel⟩
theorem ww_1191 : Cond.code yX10_rayBy cX10_rayBy 8 (some .long) ∈ tb := at_place 1191 (by decide +kernel) rfl
theorem ww_1188 : Cond.methodLink RX10 247 yX10_rayBy ∈ tb := at_place 1188 (by decide +kernel) rfl
theorem ww_1190 : Cond.instanceMethod yX10_rayBy ∈ tb := at_place 1190 (by decide +kernel) rfl
theorem ww_50 : Cond.selects RX10 yX10_rayBy yX10_rayBy ∈ tb := at_place 50 (by decide +kernel) rfl
theorem cv_X10_247 : CV RX10 247 RX10 yX10_rayBy cX10_rayBy 8 (some .long) 2 := ⟨cv_good ww_1188 ww_1190 ww_50 ww_67 ww_1191, by decide +kernel⟩
theorem ww_1195 : Cond.code yX10_ray cX10_ray 2 (some .long) ∈ tb := at_place 1195 (by decide +kernel) rfl
theorem ww_1192 : Cond.methodLink RL 138 yX10_ray ∈ tb := at_place 1192 (by decide +kernel) rfl
theorem ww_1193 : Cond.instanceMethod yX10_ray ∈ tb := at_place 1193 (by decide +kernel) rfl
theorem ww_1194 : Cond.selects RX10 yX10_ray yX10_ray ∈ tb := at_place 1194 (by decide +kernel) rfl
theorem cv_L_138 : CV RL 138 RX10 yX10_ray cX10_ray 2 (some .long) 1 := ⟨cv_good ww_1192 ww_1193 ww_1194 ww_67 ww_1195, by decide +kernel⟩
theorem ww_1199 : Cond.code yX10_rayOf cX10_rayOf 6 (some .int) ∈ tb := at_place 1199 (by decide +kernel) rfl
theorem ww_1196 : Cond.methodLink RL 142 yX10_rayOf ∈ tb := at_place 1196 (by decide +kernel) rfl
theorem ww_1197 : Cond.instanceMethod yX10_rayOf ∈ tb := at_place 1197 (by decide +kernel) rfl
theorem ww_1198 : Cond.selects RX10 yX10_rayOf yX10_rayOf ∈ tb := at_place 1198 (by decide +kernel) rfl
theorem cv_L_142 : CV RL 142 RX10 yX10_rayOf cX10_rayOf 6 (some .int) 2 := ⟨cv_good ww_1196 ww_1197 ww_1198 ww_67 ww_1199, by decide +kernel⟩
theorem ww_1203 : Cond.code yX10_link cX10_link 5 (some .int) ∈ tb := at_place 1203 (by decide +kernel) rfl
theorem ww_1200 : Cond.methodLink RL 146 yX10_link ∈ tb := at_place 1200 (by decide +kernel) rfl
theorem ww_1201 : Cond.instanceMethod yX10_link ∈ tb := at_place 1201 (by decide +kernel) rfl
theorem ww_1202 : Cond.selects RX10 yX10_link yX10_link ∈ tb := at_place 1202 (by decide +kernel) rfl
theorem cv_L_146 : CV RL 146 RX10 yX10_link cX10_link 5 (some .int) 3 := ⟨cv_good ww_1200 ww_1201 ww_1202 ww_67 ww_1203, by decide +kernel⟩
theorem ww_1206 : Cond.code yX10_isPoint cX10_isPoint 1 (some .boolean) ∈ tb := at_place 1206 (by decide +kernel) rfl
theorem ww_1204 : Cond.methodLink RX10 256 yX10_isPoint ∈ tb := at_place 1204 (by decide +kernel) rfl
theorem ww_1205 : Cond.static yX10_isPoint ∈ tb := at_place 1205 (by decide +kernel) rfl
theorem cs_X10_256 : CS RX10 256 yX10_isPoint cX10_isPoint 1 (some .boolean) 1 := ⟨cs_good ww_1204 ww_1205 ww_67 ww_1206, by decide +kernel⟩
theorem ww_1211 : Cond.code yX10_breaks cX10_breaks 2 (some .int) ∈ tb := at_place 1211 (by decide +kernel) rfl
theorem ww_1208 : Cond.methodLink RL 150 yX10_breaks ∈ tb := at_place 1208 (by decide +kernel) rfl
theorem ww_1209 : Cond.instanceMethod yX10_breaks ∈ tb := at_place 1209 (by decide +kernel) rfl
theorem ww_1210 : Cond.selects RX10 yX10_breaks yX10_breaks ∈ tb := at_place 1210 (by decide +kernel) rfl
theorem cv_L_150 : CV RL 150 RX10 yX10_breaks cX10_breaks 2 (some .int) 1 := ⟨cv_good ww_1208 ww_1209 ww_1210 ww_67 ww_1211, by decide +kernel⟩
theorem ww_1215 : Cond.code yX10_isBroken cX10_isBroken 5 (some .boolean) ∈ tb := at_place 1215 (by decide +kernel) rfl
theorem ww_1212 : Cond.methodLink RX10 259 yX10_isBroken ∈ tb := at_place 1212 (by decide +kernel) rfl
theorem ww_1214 : Cond.instanceMethod yX10_isBroken ∈ tb := at_place 1214 (by decide +kernel) rfl
theorem ww_51 : Cond.selects RX10 yX10_isBroken yX10_isBroken ∈ tb := at_place 51 (by decide +kernel) rfl
theorem cv_X10_259 : CV RX10 259 RX10 yX10_isBroken cX10_isBroken 5 (some .boolean) 1 := ⟨cv_good ww_1212 ww_1214 ww_51 ww_67 ww_1215, by decide +kernel⟩
theorem ww_1219 : Cond.code yX10_feedback cX10_feedback 6 (some .int) ∈ tb := at_place 1219 (by decide +kernel) rfl
theorem ww_1216 : Cond.methodLink RL 154 yX10_feedback ∈ tb := at_place 1216 (by decide +kernel) rfl
theorem ww_1217 : Cond.instanceMethod yX10_feedback ∈ tb := at_place 1217 (by decide +kernel) rfl
theorem ww_1218 : Cond.selects RX10 yX10_feedback yX10_feedback ∈ tb := at_place 1218 (by decide +kernel) rfl
theorem cv_L_154 : CV RL 154 RX10 yX10_feedback cX10_feedback 6 (some .int) 1 := ⟨cv_good ww_1216 ww_1217 ww_1218 ww_67 ww_1219, by decide +kernel⟩
theorem ww_1223 : Cond.code yX10_hold cX10_hold 8 (some .int) ∈ tb := at_place 1223 (by decide +kernel) rfl
theorem ww_1220 : Cond.methodLink RL 158 yX10_hold ∈ tb := at_place 1220 (by decide +kernel) rfl
theorem ww_1221 : Cond.instanceMethod yX10_hold ∈ tb := at_place 1221 (by decide +kernel) rfl
theorem ww_1222 : Cond.selects RX10 yX10_hold yX10_hold ∈ tb := at_place 1222 (by decide +kernel) rfl
theorem cv_L_158 : CV RL 158 RX10 yX10_hold cX10_hold 8 (some .int) 3 := ⟨cv_good ww_1220 ww_1221 ww_1222 ww_67 ww_1223, by decide +kernel⟩
theorem ww_1226 : Cond.code yX10_isHand cX10_isHand 1 (some .boolean) ∈ tb := at_place 1226 (by decide +kernel) rfl
theorem ww_1224 : Cond.methodLink RX10 262 yX10_isHand ∈ tb := at_place 1224 (by decide +kernel) rfl
theorem ww_1225 : Cond.static yX10_isHand ∈ tb := at_place 1225 (by decide +kernel) rfl
theorem cs_X10_262 : CS RX10 262 yX10_isHand cX10_isHand 1 (some .boolean) 1 := ⟨cs_good ww_1224 ww_1225 ww_67 ww_1226, by decide +kernel⟩
theorem ww_1230 : Cond.code yX10_asPair cX10_asPair 4 (some .int) ∈ tb := at_place 1230 (by decide +kernel) rfl
theorem ww_1227 : Cond.methodLink RL 162 yX10_asPair ∈ tb := at_place 1227 (by decide +kernel) rfl
theorem ww_1228 : Cond.instanceMethod yX10_asPair ∈ tb := at_place 1228 (by decide +kernel) rfl
theorem ww_1229 : Cond.selects RX10 yX10_asPair yX10_asPair ∈ tb := at_place 1229 (by decide +kernel) rfl
theorem cv_L_162 : CV RL 162 RX10 yX10_asPair cX10_asPair 4 (some .int) 2 := ⟨cv_good ww_1227 ww_1228 ww_1229 ww_67 ww_1230, by decide +kernel⟩
theorem ww_1234 : Cond.code yX10_lacks cX10_lacks 3 (some .int) ∈ tb := at_place 1234 (by decide +kernel) rfl
theorem ww_1231 : Cond.methodLink RX10 265 yX10_lacks ∈ tb := at_place 1231 (by decide +kernel) rfl
theorem ww_1233 : Cond.instanceMethod yX10_lacks ∈ tb := at_place 1233 (by decide +kernel) rfl
theorem ww_52 : Cond.selects RX10 yX10_lacks yX10_lacks ∈ tb := at_place 52 (by decide +kernel) rfl
theorem cv_X10_265 : CV RX10 265 RX10 yX10_lacks cX10_lacks 3 (some .int) 2 := ⟨cv_good ww_1231 ww_1233 ww_52 ww_67 ww_1234, by decide +kernel⟩
theorem ww_1237 : Cond.code yX10_isUnder cX10_isUnder 2 (some .boolean) ∈ tb := at_place 1237 (by decide +kernel) rfl
theorem ww_1235 : Cond.methodLink RX10 268 yX10_isUnder ∈ tb := at_place 1235 (by decide +kernel) rfl
theorem ww_1236 : Cond.static yX10_isUnder ∈ tb := at_place 1236 (by decide +kernel) rfl
theorem cs_X10_268 : CS RX10 268 yX10_isUnder cX10_isUnder 2 (some .boolean) 2 := ⟨cs_good ww_1235 ww_1236 ww_67 ww_1237, by decide +kernel⟩
theorem ww_1241 : Cond.code yX10_asRay cX10_asRay 4 (some .int) ∈ tb := at_place 1241 (by decide +kernel) rfl
theorem ww_1238 : Cond.methodLink RL 166 yX10_asRay ∈ tb := at_place 1238 (by decide +kernel) rfl
theorem ww_1239 : Cond.instanceMethod yX10_asRay ∈ tb := at_place 1239 (by decide +kernel) rfl
theorem ww_1240 : Cond.selects RX10 yX10_asRay yX10_asRay ∈ tb := at_place 1240 (by decide +kernel) rfl
theorem cv_L_166 : CV RL 166 RX10 yX10_asRay cX10_asRay 4 (some .int) 2 := ⟨cv_good ww_1238 ww_1239 ww_1240 ww_67 ww_1241, by decide +kernel⟩
theorem ww_1245 : Cond.code yX10_compare cX10_compare 6 (some .int) ∈ tb := at_place 1245 (by decide +kernel) rfl
theorem ww_1242 : Cond.methodLink RL 170 yX10_compare ∈ tb := at_place 1242 (by decide +kernel) rfl
theorem ww_1243 : Cond.instanceMethod yX10_compare ∈ tb := at_place 1243 (by decide +kernel) rfl
theorem ww_1244 : Cond.selects RX10 yX10_compare yX10_compare ∈ tb := at_place 1244 (by decide +kernel) rfl
theorem cv_L_170 : CV RL 170 RX10 yX10_compare cX10_compare 6 (some .int) 2 := ⟨cv_good ww_1242 ww_1243 ww_1244 ww_67 ww_1245, by decide +kernel⟩
theorem ww_1249 : Cond.code yX10_sheet cX10_sheet 5 (some .int) ∈ tb := at_place 1249 (by decide +kernel) rfl
theorem ww_1246 : Cond.methodLink RL 174 yX10_sheet ∈ tb := at_place 1246 (by decide +kernel) rfl
theorem ww_1247 : Cond.instanceMethod yX10_sheet ∈ tb := at_place 1247 (by decide +kernel) rfl
theorem ww_1248 : Cond.selects RX10 yX10_sheet yX10_sheet ∈ tb := at_place 1248 (by decide +kernel) rfl
theorem cv_L_174 : CV RL 174 RX10 yX10_sheet cX10_sheet 5 (some .int) 3 := ⟨cv_good ww_1246 ww_1247 ww_1248 ww_67 ww_1249, by decide +kernel⟩
theorem ww_1253 : Cond.code yX10_cell cX10_cell 6 (some .int) ∈ tb := at_place 1253 (by decide +kernel) rfl
theorem ww_1250 : Cond.methodLink RL 179 yX10_cell ∈ tb := at_place 1250 (by decide +kernel) rfl
theorem ww_1251 : Cond.instanceMethod yX10_cell ∈ tb := at_place 1251 (by decide +kernel) rfl
theorem ww_1252 : Cond.selects RX10 yX10_cell yX10_cell ∈ tb := at_place 1252 (by decide +kernel) rfl
theorem cv_L_179 : CV RL 179 RX10 yX10_cell cX10_cell 6 (some .int) 3 := ⟨cv_good ww_1250 ww_1251 ww_1252 ww_67 ww_1253, by decide +kernel⟩
theorem ww_1257 : Cond.code yX10_wrong cX10_wrong 3 (some .int) ∈ tb := at_place 1257 (by decide +kernel) rfl
theorem ww_1254 : Cond.methodLink RX10 271 yX10_wrong ∈ tb := at_place 1254 (by decide +kernel) rfl
theorem ww_1256 : Cond.instanceMethod yX10_wrong ∈ tb := at_place 1256 (by decide +kernel) rfl
theorem ww_53 : Cond.selects RX10 yX10_wrong yX10_wrong ∈ tb := at_place 53 (by decide +kernel) rfl
theorem cv_X10_271 : CV RX10 271 RX10 yX10_wrong cX10_wrong 3 (some .int) 2 := ⟨cv_good ww_1254 ww_1256 ww_53 ww_67 ww_1257, by decide +kernel⟩
theorem ww_1261 : Cond.code yX10_read cX10_read 4 (some .long) ∈ tb := at_place 1261 (by decide +kernel) rfl
theorem ww_1258 : Cond.methodLink RL 184 yX10_read ∈ tb := at_place 1258 (by decide +kernel) rfl
theorem ww_1259 : Cond.instanceMethod yX10_read ∈ tb := at_place 1259 (by decide +kernel) rfl
theorem ww_1260 : Cond.selects RX10 yX10_read yX10_read ∈ tb := at_place 1260 (by decide +kernel) rfl
theorem cv_L_184 : CV RL 184 RX10 yX10_read cX10_read 4 (some .long) 2 := ⟨cv_good ww_1258 ww_1259 ww_1260 ww_67 ww_1261, by decide +kernel⟩
theorem ww_1265 : Cond.code yX10_load cX10_load 5 (some .int) ∈ tb := at_place 1265 (by decide +kernel) rfl
theorem ww_1262 : Cond.methodLink RL 188 yX10_load ∈ tb := at_place 1262 (by decide +kernel) rfl
theorem ww_1263 : Cond.instanceMethod yX10_load ∈ tb := at_place 1263 (by decide +kernel) rfl
theorem ww_1264 : Cond.selects RX10 yX10_load yX10_load ∈ tb := at_place 1264 (by decide +kernel) rfl
theorem cv_L_188 : CV RL 188 RX10 yX10_load cX10_load 5 (some .int) 3 := ⟨cv_good ww_1262 ww_1263 ww_1264 ww_67 ww_1265, by decide +kernel⟩
theorem ww_1270 : Cond.code yX10_image cX10_image 2 (some .int) ∈ tb := at_place 1270 (by decide +kernel) rfl
theorem ww_1267 : Cond.methodLink RL 192 yX10_image ∈ tb := at_place 1267 (by decide +kernel) rfl
theorem ww_1268 : Cond.instanceMethod yX10_image ∈ tb := at_place 1268 (by decide +kernel) rfl
theorem ww_1269 : Cond.selects RX10 yX10_image yX10_image ∈ tb := at_place 1269 (by decide +kernel) rfl
theorem cv_L_192 : CV RL 192 RX10 yX10_image cX10_image 2 (some .int) 0 := ⟨cv_good ww_1267 ww_1268 ww_1269 ww_67 ww_1270, by decide +kernel⟩
theorem ww_1274 : Cond.code yX10_back cX10_back 2 (some .int) ∈ tb := at_place 1274 (by decide +kernel) rfl
theorem ww_1271 : Cond.methodLink RL 196 yX10_back ∈ tb := at_place 1271 (by decide +kernel) rfl
theorem ww_1272 : Cond.instanceMethod yX10_back ∈ tb := at_place 1272 (by decide +kernel) rfl
theorem ww_1273 : Cond.selects RX10 yX10_back yX10_back ∈ tb := at_place 1273 (by decide +kernel) rfl
theorem cv_L_196 : CV RL 196 RX10 yX10_back cX10_back 2 (some .int) 0 := ⟨cv_good ww_1271 ww_1272 ww_1273 ww_67 ww_1274, by decide +kernel⟩
theorem ww_1278 : Cond.code yX10_count cX10_count 2 (some .int) ∈ tb := at_place 1278 (by decide +kernel) rfl
theorem ww_1275 : Cond.methodLink RL 200 yX10_count ∈ tb := at_place 1275 (by decide +kernel) rfl
theorem ww_1276 : Cond.instanceMethod yX10_count ∈ tb := at_place 1276 (by decide +kernel) rfl
theorem ww_1277 : Cond.selects RX10 yX10_count yX10_count ∈ tb := at_place 1277 (by decide +kernel) rfl
theorem cv_L_200 : CV RL 200 RX10 yX10_count cX10_count 2 (some .int) 1 := ⟨cv_good ww_1275 ww_1276 ww_1277 ww_67 ww_1278, by decide +kernel⟩
theorem ww_1282 : Cond.code yX10_nameMany cX10_nameMany 3 (some .int) ∈ tb := at_place 1282 (by decide +kernel) rfl
theorem ww_1279 : Cond.methodLink RX10 279 yX10_nameMany ∈ tb := at_place 1279 (by decide +kernel) rfl
theorem ww_1281 : Cond.instanceMethod yX10_nameMany ∈ tb := at_place 1281 (by decide +kernel) rfl
theorem ww_54 : Cond.selects RX10 yX10_nameMany yX10_nameMany ∈ tb := at_place 54 (by decide +kernel) rfl
theorem cv_X10_279 : CV RX10 279 RX10 yX10_nameMany cX10_nameMany 3 (some .int) 0 := ⟨cv_good ww_1279 ww_1281 ww_54 ww_67 ww_1282, by decide +kernel⟩
theorem ww_1286 : Cond.code yX10_linkMany cX10_linkMany 3 (some .int) ∈ tb := at_place 1286 (by decide +kernel) rfl
theorem ww_1283 : Cond.methodLink RX10 282 yX10_linkMany ∈ tb := at_place 1283 (by decide +kernel) rfl
theorem ww_1285 : Cond.instanceMethod yX10_linkMany ∈ tb := at_place 1285 (by decide +kernel) rfl
theorem ww_55 : Cond.selects RX10 yX10_linkMany yX10_linkMany ∈ tb := at_place 55 (by decide +kernel) rfl
theorem cv_X10_282 : CV RX10 282 RX10 yX10_linkMany cX10_linkMany 3 (some .int) 0 := ⟨cv_good ww_1283 ww_1285 ww_55 ww_67 ww_1286, by decide +kernel⟩
theorem ww_453 : Cond.constantLong RX9 337 (255) ∈ tb := at_place 453 (by decide +kernel) rfl
theorem ww_470 : Cond.constantLong RX9 158 (-12) ∈ tb := at_place 470 (by decide +kernel) rfl
theorem ww_490 : Cond.constant RJ6 265 (1431655765) ∈ tb := at_place 490 (by decide +kernel) rfl
theorem ww_491 : Cond.constant RJ6 266 (858993459) ∈ tb := at_place 491 (by decide +kernel) rfl
theorem ww_492 : Cond.constant RJ6 267 (252645135) ∈ tb := at_place 492 (by decide +kernel) rfl
theorem ww_607 : Cond.constantLong RX9 213 (-2) ∈ tb := at_place 607 (by decide +kernel) rfl
theorem ww_608 : Cond.constantLong RX9 215 (-11) ∈ tb := at_place 608 (by decide +kernel) rfl
theorem ww_609 : Cond.constantLong RX9 217 (-3) ∈ tb := at_place 609 (by decide +kernel) rfl
theorem ww_624 : Cond.constantLong RX4 63 (-1) ∈ tb := at_place 624 (by decide +kernel) rfl
theorem ww_625 : Cond.constantLong RX4 67 (-9223372036854775808) ∈ tb := at_place 625 (by decide +kernel) rfl
theorem ww_641 : Cond.constantLong RX4 34 (-5) ∈ tb := at_place 641 (by decide +kernel) rfl
theorem ww_650 : Cond.constant RX9 329 (1103515245) ∈ tb := at_place 650 (by decide +kernel) rfl
theorem ww_800 : Cond.constantLong RX9 311 (100) ∈ tb := at_place 800 (by decide +kernel) rfl
theorem ww_921 : Cond.constantLong RX10 86 (2) ∈ tb := at_place 921 (by decide +kernel) rfl
theorem ww_922 : Cond.constantLong RX10 88 (97) ∈ tb := at_place 922 (by decide +kernel) rfl
theorem ww_929 : Cond.constantLong RX10 94 (6) ∈ tb := at_place 929 (by decide +kernel) rfl
theorem ww_946 : Cond.constantLong RX10 100 (5) ∈ tb := at_place 946 (by decide +kernel) rfl
theorem ww_947 : Cond.constantLong RX10 102 (999) ∈ tb := at_place 947 (by decide +kernel) rfl
theorem ww_956 : Cond.constantLong RX10 107 (-99) ∈ tb := at_place 956 (by decide +kernel) rfl
theorem ww_957 : Cond.constantLong RX10 109 (99) ∈ tb := at_place 957 (by decide +kernel) rfl
theorem ww_1020 : Cond.constantLong RX10 125 (255) ∈ tb := at_place 1020 (by decide +kernel) rfl
theorem ww_1021 : Cond.constantLong RX10 127 (122) ∈ tb := at_place 1021 (by decide +kernel) rfl
theorem ww_1038 : Cond.constantLong RX10 136 (-12) ∈ tb := at_place 1038 (by decide +kernel) rfl
theorem ww_1070 : Cond.constantLong RX10 176 (3) ∈ tb := at_place 1070 (by decide +kernel) rfl
theorem ww_1127 : Cond.constantLong RX10 222 (-3) ∈ tb := at_place 1127 (by decide +kernel) rfl
theorem ww_1136 : Cond.constantLong RX10 206 (-1) ∈ tb := at_place 1136 (by decide +kernel) rfl
theorem ww_1149 : Cond.constantLong RX10 227 (-5) ∈ tb := at_place 1149 (by decide +kernel) rfl
theorem ww_1154 : Cond.constantLong RX10 233 (20) ∈ tb := at_place 1154 (by decide +kernel) rfl
theorem ww_1159 : Cond.constant RX10 232 (1103515245) ∈ tb := at_place 1159 (by decide +kernel) rfl
theorem ww_1207 : Cond.constantLong RX10 254 (7) ∈ tb := at_place 1207 (by decide +kernel) rfl
theorem ww_1266 : Cond.constantLong RX10 274 (100) ∈ tb := at_place 1266 (by decide +kernel) rfl
theorem ww_1287 : Cond.constantLong RL 49 (4294967295) ∈ tb := at_place 1287 (by decide +kernel) rfl
end
