section
-- ===== PART A: goes FIRST, ahead of the names: the tables' words, and 'selects' of the private methods out of them =====
/-- a private method of a class that the tables say can be made, by its rows of tables_1 -/
def lw_okq (q : MethodName × Nat) : Prop := (q.1.cls ≠ "java/lang/invoke/MethodHandle" ∧ q.1.cls ≠ "java/lang/invoke/VarHandle") ∧ Cond.instantiable q.1.cls q.2 ∈ tables_1 ∧ Cond.privateMethod q.1 ∈ tables_1 ∧ Cond.instanceMethod q.1 ∈ tables_1
theorem lw_p0 : lw_okq (⟨"SelfishWays$Page", "phaseBehind", "(I)I"⟩, 4) := ⟨⟨by decide +kernel, by decide +kernel⟩, List.mem_of_getElem? (i := 20) (by decide +kernel), List.mem_of_getElem? (i := 388) (by decide +kernel), List.mem_of_getElem? (i := 389) (by decide +kernel)⟩
theorem lw_p1 : lw_okq (⟨"SelfishWays$Page", "readNodes", "(I)I"⟩, 4) := ⟨⟨by decide +kernel, by decide +kernel⟩, List.mem_of_getElem? (i := 20) (by decide +kernel), List.mem_of_getElem? (i := 393) (by decide +kernel), List.mem_of_getElem? (i := 394) (by decide +kernel)⟩
theorem lw_p2 : lw_okq (⟨"SelfishWays$Page", "readFrom", "(I)I"⟩, 4) := ⟨⟨by decide +kernel, by decide +kernel⟩, List.mem_of_getElem? (i := 20) (by decide +kernel), List.mem_of_getElem? (i := 397) (by decide +kernel), List.mem_of_getElem? (i := 398) (by decide +kernel)⟩
theorem lw_p3 : lw_okq (⟨"SelfishWays$Page", "readTo", "(I)I"⟩, 4) := ⟨⟨by decide +kernel, by decide +kernel⟩, List.mem_of_getElem? (i := 20) (by decide +kernel), List.mem_of_getElem? (i := 401) (by decide +kernel), List.mem_of_getElem? (i := 402) (by decide +kernel)⟩
theorem lw_p4 : lw_okq (⟨"SelfishWays$Page", "readA", "(I)I"⟩, 4) := ⟨⟨by decide +kernel, by decide +kernel⟩, List.mem_of_getElem? (i := 20) (by decide +kernel), List.mem_of_getElem? (i := 405) (by decide +kernel), List.mem_of_getElem? (i := 406) (by decide +kernel)⟩
theorem lw_p5 : lw_okq (⟨"SelfishWays$Page", "readMoreOfA", "(I)I"⟩, 4) := ⟨⟨by decide +kernel, by decide +kernel⟩, List.mem_of_getElem? (i := 20) (by decide +kernel), List.mem_of_getElem? (i := 409) (by decide +kernel), List.mem_of_getElem? (i := 410) (by decide +kernel)⟩
theorem lw_p6 : lw_okq (⟨"SelfishWays$Page", "readB", "(I)I"⟩, 4) := ⟨⟨by decide +kernel, by decide +kernel⟩, List.mem_of_getElem? (i := 20) (by decide +kernel), List.mem_of_getElem? (i := 413) (by decide +kernel), List.mem_of_getElem? (i := 414) (by decide +kernel)⟩
theorem lw_p7 : lw_okq (⟨"SelfishWays", "hasNet", "()Z"⟩, 7) := ⟨⟨by decide +kernel, by decide +kernel⟩, List.mem_of_getElem? (i := 12) (by decide +kernel), List.mem_of_getElem? (i := 441) (by decide +kernel), List.mem_of_getElem? (i := 442) (by decide +kernel)⟩
theorem lw_p8 : lw_okq (⟨"SelfishWays", "isRoad", "(I)Z"⟩, 7) := ⟨⟨by decide +kernel, by decide +kernel⟩, List.mem_of_getElem? (i := 12) (by decide +kernel), List.mem_of_getElem? (i := 480) (by decide +kernel), List.mem_of_getElem? (i := 481) (by decide +kernel)⟩
theorem lw_p9 : lw_okq (⟨"SelfishWays$Player", "keepPath", "(I)V"⟩, 8) := ⟨⟨by decide +kernel, by decide +kernel⟩, List.mem_of_getElem? (i := 103) (by decide +kernel), List.mem_of_getElem? (i := 508) (by decide +kernel), List.mem_of_getElem? (i := 509) (by decide +kernel)⟩
theorem lw_p10 : lw_okq (⟨"SelfishWays$Traffic", "burden", "(LSelfishWays$Player;I)V"⟩, 7) := ⟨⟨by decide +kernel, by decide +kernel⟩, List.mem_of_getElem? (i := 92) (by decide +kernel), List.mem_of_getElem? (i := 512) (by decide +kernel), List.mem_of_getElem? (i := 513) (by decide +kernel)⟩
theorem lw_p11 : lw_okq (⟨"SelfishWays", "isPlayer", "(I)Z"⟩, 7) := ⟨⟨by decide +kernel, by decide +kernel⟩, List.mem_of_getElem? (i := 12) (by decide +kernel), List.mem_of_getElem? (i := 532) (by decide +kernel), List.mem_of_getElem? (i := 533) (by decide +kernel)⟩
theorem lw_p12 : lw_okq (⟨"SelfishWays", "isWay", "(II)Z"⟩, 7) := ⟨⟨by decide +kernel, by decide +kernel⟩, List.mem_of_getElem? (i := 12) (by decide +kernel), List.mem_of_getElem? (i := 542) (by decide +kernel), List.mem_of_getElem? (i := 543) (by decide +kernel)⟩
theorem lw_p13 : lw_okq (⟨"SelfishWays", "surveyed", "()Z"⟩, 7) := ⟨⟨by decide +kernel, by decide +kernel⟩, List.mem_of_getElem? (i := 12) (by decide +kernel), List.mem_of_getElem? (i := 571) (by decide +kernel), List.mem_of_getElem? (i := 572) (by decide +kernel)⟩
theorem lw_p14 : lw_okq (⟨"SelfishWays$AllSets", "findLeast", "()V"⟩, 19) := ⟨⟨by decide +kernel, by decide +kernel⟩, List.mem_of_getElem? (i := 179) (by decide +kernel), List.mem_of_getElem? (i := 597) (by decide +kernel), List.mem_of_getElem? (i := 598) (by decide +kernel)⟩
theorem lw_p15 : lw_okq (⟨"SelfishWays$AllSets", "findRests", "()V"⟩, 19) := ⟨⟨by decide +kernel, by decide +kernel⟩, List.mem_of_getElem? (i := 179) (by decide +kernel), List.mem_of_getElem? (i := 601) (by decide +kernel), List.mem_of_getElem? (i := 602) (by decide +kernel)⟩
def lw_privs_1 : List (MethodName × Nat) := [(⟨"SelfishWays$Page", "phaseBehind", "(I)I"⟩, 4), (⟨"SelfishWays$Page", "readNodes", "(I)I"⟩, 4), (⟨"SelfishWays$Page", "readFrom", "(I)I"⟩, 4), (⟨"SelfishWays$Page", "readTo", "(I)I"⟩, 4), (⟨"SelfishWays$Page", "readA", "(I)I"⟩, 4), (⟨"SelfishWays$Page", "readMoreOfA", "(I)I"⟩, 4), (⟨"SelfishWays$Page", "readB", "(I)I"⟩, 4), (⟨"SelfishWays", "hasNet", "()Z"⟩, 7), (⟨"SelfishWays", "isRoad", "(I)Z"⟩, 7), (⟨"SelfishWays$Player", "keepPath", "(I)V"⟩, 8), (⟨"SelfishWays$Traffic", "burden", "(LSelfishWays$Player;I)V"⟩, 7), (⟨"SelfishWays", "isPlayer", "(I)Z"⟩, 7), (⟨"SelfishWays", "isWay", "(II)Z"⟩, 7), (⟨"SelfishWays", "surveyed", "()Z"⟩, 7), (⟨"SelfishWays$AllSets", "findLeast", "()V"⟩, 19), (⟨"SelfishWays$AllSets", "findRests", "()V"⟩, 19)]
theorem lw_r1 : ∀ q ∈ lw_privs_1, lw_okq q := List.forall_mem_cons.mpr ⟨lw_p0, List.forall_mem_cons.mpr ⟨lw_p1, List.forall_mem_cons.mpr ⟨lw_p2, List.forall_mem_cons.mpr ⟨lw_p3, List.forall_mem_cons.mpr ⟨lw_p4, List.forall_mem_cons.mpr ⟨lw_p5, List.forall_mem_cons.mpr ⟨lw_p6, List.forall_mem_cons.mpr ⟨lw_p7, List.forall_mem_cons.mpr ⟨lw_p8, List.forall_mem_cons.mpr ⟨lw_p9, List.forall_mem_cons.mpr ⟨lw_p10, List.forall_mem_cons.mpr ⟨lw_p11, List.forall_mem_cons.mpr ⟨lw_p12, List.forall_mem_cons.mpr ⟨lw_p13, List.forall_mem_cons.mpr ⟨lw_p14, List.forall_mem_cons.mpr ⟨lw_p15, fun _ h => absurd h List.not_mem_nil⟩⟩⟩⟩⟩⟩⟩⟩⟩⟩⟩⟩⟩⟩⟩⟩
theorem lw_p16 : lw_okq (⟨"SelfishWays$AllSets", "isRest", "(I)Z"⟩, 19) := ⟨⟨by decide +kernel, by decide +kernel⟩, List.mem_of_getElem? (i := 179) (by decide +kernel), List.mem_of_getElem? (i := 605) (by decide +kernel), List.mem_of_getElem? (i := 606) (by decide +kernel)⟩
theorem lw_p17 : lw_okq (⟨"SelfishWays$AllSets", "offerChanges", "(II)V"⟩, 19) := ⟨⟨by decide +kernel, by decide +kernel⟩, List.mem_of_getElem? (i := 179) (by decide +kernel), List.mem_of_getElem? (i := 657) (by decide +kernel), List.mem_of_getElem? (i := 658) (by decide +kernel)⟩
theorem lw_p18 : lw_okq (⟨"SelfishWays$AllSets", "countReached", "()V"⟩, 19) := ⟨⟨by decide +kernel, by decide +kernel⟩, List.mem_of_getElem? (i := 179) (by decide +kernel), List.mem_of_getElem? (i := 669) (by decide +kernel), List.mem_of_getElem? (i := 670) (by decide +kernel)⟩
theorem lw_p19 : lw_okq (⟨"SelfishWays$Lanes", "layGround", "()V"⟩, 15) := ⟨⟨by decide +kernel, by decide +kernel⟩, List.mem_of_getElem? (i := 283) (by decide +kernel), List.mem_of_getElem? (i := 735) (by decide +kernel), List.mem_of_getElem? (i := 736) (by decide +kernel)⟩
theorem lw_p20 : lw_okq (⟨"SelfishWays$Lanes", "partEven", "()V"⟩, 15) := ⟨⟨by decide +kernel, by decide +kernel⟩, List.mem_of_getElem? (i := 283) (by decide +kernel), List.mem_of_getElem? (i := 739) (by decide +kernel), List.mem_of_getElem? (i := 740) (by decide +kernel)⟩
theorem lw_p21 : lw_okq (⟨"SelfishWays$Lanes", "pour", "([JJJ)V"⟩, 15) := ⟨⟨by decide +kernel, by decide +kernel⟩, List.mem_of_getElem? (i := 283) (by decide +kernel), List.mem_of_getElem? (i := 744) (by decide +kernel), List.mem_of_getElem? (i := 745) (by decide +kernel)⟩
theorem lw_p22 : lw_okq (⟨"SelfishWays$Lanes", "weighOpen", "(J)V"⟩, 15) := ⟨⟨by decide +kernel, by decide +kernel⟩, List.mem_of_getElem? (i := 283) (by decide +kernel), List.mem_of_getElem? (i := 748) (by decide +kernel), List.mem_of_getElem? (i := 749) (by decide +kernel)⟩
theorem lw_p23 : lw_okq (⟨"SelfishWays$Lanes", "shutAbove", "()Z"⟩, 15) := ⟨⟨by decide +kernel, by decide +kernel⟩, List.mem_of_getElem? (i := 283) (by decide +kernel), List.mem_of_getElem? (i := 752) (by decide +kernel), List.mem_of_getElem? (i := 753) (by decide +kernel)⟩
theorem lw_p24 : lw_okq (⟨"SelfishWays$Lanes", "partWise", "()V"⟩, 15) := ⟨⟨by decide +kernel, by decide +kernel⟩, List.mem_of_getElem? (i := 283) (by decide +kernel), List.mem_of_getElem? (i := 756) (by decide +kernel), List.mem_of_getElem? (i := 757) (by decide +kernel)⟩
theorem lw_p25 : lw_okq (⟨"SelfishWays$Lanes", "partLeaders", "()V"⟩, 15) := ⟨⟨by decide +kernel, by decide +kernel⟩, List.mem_of_getElem? (i := 283) (by decide +kernel), List.mem_of_getElem? (i := 761) (by decide +kernel), List.mem_of_getElem? (i := 762) (by decide +kernel)⟩
theorem lw_p26 : lw_okq (⟨"SelfishWays$Lanes", "dearestOpenByWise", "()I"⟩, 15) := ⟨⟨by decide +kernel, by decide +kernel⟩, List.mem_of_getElem? (i := 283) (by decide +kernel), List.mem_of_getElem? (i := 766) (by decide +kernel), List.mem_of_getElem? (i := 767) (by decide +kernel)⟩
theorem lw_p27 : lw_okq (⟨"SelfishWays$Lanes", "partLed", "()V"⟩, 15) := ⟨⟨by decide +kernel, by decide +kernel⟩, List.mem_of_getElem? (i := 283) (by decide +kernel), List.mem_of_getElem? (i := 774) (by decide +kernel), List.mem_of_getElem? (i := 775) (by decide +kernel)⟩
theorem lw_p28 : lw_okq (⟨"SelfishWays", "mixNet", "(J)J"⟩, 7) := ⟨⟨by decide +kernel, by decide +kernel⟩, List.mem_of_getElem? (i := 12) (by decide +kernel), List.mem_of_getElem? (i := 805) (by decide +kernel), List.mem_of_getElem? (i := 806) (by decide +kernel)⟩
theorem lw_p29 : lw_okq (⟨"SelfishWays", "mixPlayers", "(J)J"⟩, 7) := ⟨⟨by decide +kernel, by decide +kernel⟩, List.mem_of_getElem? (i := 12) (by decide +kernel), List.mem_of_getElem? (i := 815) (by decide +kernel), List.mem_of_getElem? (i := 816) (by decide +kernel)⟩
theorem lw_p30 : lw_okq (⟨"SelfishWays", "mixSets", "(J)J"⟩, 7) := ⟨⟨by decide +kernel, by decide +kernel⟩, List.mem_of_getElem? (i := 12) (by decide +kernel), List.mem_of_getElem? (i := 820) (by decide +kernel), List.mem_of_getElem? (i := 821) (by decide +kernel)⟩
theorem lw_p31 : lw_okq (⟨"SelfishWays", "mixLeads", "(J)J"⟩, 7) := ⟨⟨by decide +kernel, by decide +kernel⟩, List.mem_of_getElem? (i := 12) (by decide +kernel), List.mem_of_getElem? (i := 827) (by decide +kernel), List.mem_of_getElem? (i := 828) (by decide +kernel)⟩
def lw_privs_2 : List (MethodName × Nat) := [(⟨"SelfishWays$AllSets", "isRest", "(I)Z"⟩, 19), (⟨"SelfishWays$AllSets", "offerChanges", "(II)V"⟩, 19), (⟨"SelfishWays$AllSets", "countReached", "()V"⟩, 19), (⟨"SelfishWays$Lanes", "layGround", "()V"⟩, 15), (⟨"SelfishWays$Lanes", "partEven", "()V"⟩, 15), (⟨"SelfishWays$Lanes", "pour", "([JJJ)V"⟩, 15), (⟨"SelfishWays$Lanes", "weighOpen", "(J)V"⟩, 15), (⟨"SelfishWays$Lanes", "shutAbove", "()Z"⟩, 15), (⟨"SelfishWays$Lanes", "partWise", "()V"⟩, 15), (⟨"SelfishWays$Lanes", "partLeaders", "()V"⟩, 15), (⟨"SelfishWays$Lanes", "dearestOpenByWise", "()I"⟩, 15), (⟨"SelfishWays$Lanes", "partLed", "()V"⟩, 15), (⟨"SelfishWays", "mixNet", "(J)J"⟩, 7), (⟨"SelfishWays", "mixPlayers", "(J)J"⟩, 7), (⟨"SelfishWays", "mixSets", "(J)J"⟩, 7), (⟨"SelfishWays", "mixLeads", "(J)J"⟩, 7)]
theorem lw_r2 : ∀ q ∈ lw_privs_2, lw_okq q := List.forall_mem_cons.mpr ⟨lw_p16, List.forall_mem_cons.mpr ⟨lw_p17, List.forall_mem_cons.mpr ⟨lw_p18, List.forall_mem_cons.mpr ⟨lw_p19, List.forall_mem_cons.mpr ⟨lw_p20, List.forall_mem_cons.mpr ⟨lw_p21, List.forall_mem_cons.mpr ⟨lw_p22, List.forall_mem_cons.mpr ⟨lw_p23, List.forall_mem_cons.mpr ⟨lw_p24, List.forall_mem_cons.mpr ⟨lw_p25, List.forall_mem_cons.mpr ⟨lw_p26, List.forall_mem_cons.mpr ⟨lw_p27, List.forall_mem_cons.mpr ⟨lw_p28, List.forall_mem_cons.mpr ⟨lw_p29, List.forall_mem_cons.mpr ⟨lw_p30, List.forall_mem_cons.mpr ⟨lw_p31, fun _ h => absurd h List.not_mem_nil⟩⟩⟩⟩⟩⟩⟩⟩⟩⟩⟩⟩⟩⟩⟩⟩
theorem lw_p32 : lw_okq (⟨"SelfishWays", "mixLanes", "(J)J"⟩, 7) := ⟨⟨by decide +kernel, by decide +kernel⟩, List.mem_of_getElem? (i := 12) (by decide +kernel), List.mem_of_getElem? (i := 831) (by decide +kernel), List.mem_of_getElem? (i := 832) (by decide +kernel)⟩
theorem lw_p33 : lw_okq (⟨"SelfishWaysModel", "read", "()I"⟩, 57) := ⟨⟨by decide +kernel, by decide +kernel⟩, List.mem_of_getElem? (i := 839) (by decide +kernel), List.mem_of_getElem? (i := 1032) (by decide +kernel), List.mem_of_getElem? (i := 1033) (by decide +kernel)⟩
theorem lw_p34 : lw_okq (⟨"SelfishWaysModel", "takesLetter", "(I)Z"⟩, 57) := ⟨⟨by decide +kernel, by decide +kernel⟩, List.mem_of_getElem? (i := 839) (by decide +kernel), List.mem_of_getElem? (i := 1036) (by decide +kernel), List.mem_of_getElem? (i := 1037) (by decide +kernel)⟩
theorem lw_p35 : lw_okq (⟨"SelfishWaysModel", "goes", "(ZI)Z"⟩, 57) := ⟨⟨by decide +kernel, by decide +kernel⟩, List.mem_of_getElem? (i := 839) (by decide +kernel), List.mem_of_getElem? (i := 1040) (by decide +kernel), List.mem_of_getElem? (i := 1041) (by decide +kernel)⟩
theorem lw_p36 : lw_okq (⟨"SelfishWaysModel", "takesEnd", "(I)Z"⟩, 57) := ⟨⟨by decide +kernel, by decide +kernel⟩, List.mem_of_getElem? (i := 839) (by decide +kernel), List.mem_of_getElem? (i := 1044) (by decide +kernel), List.mem_of_getElem? (i := 1045) (by decide +kernel)⟩
theorem lw_p37 : lw_okq (⟨"SelfishWaysModel", "takesB", "(I)Z"⟩, 57) := ⟨⟨by decide +kernel, by decide +kernel⟩, List.mem_of_getElem? (i := 839) (by decide +kernel), List.mem_of_getElem? (i := 1048) (by decide +kernel), List.mem_of_getElem? (i := 1049) (by decide +kernel)⟩
theorem lw_p38 : lw_okq (⟨"SelfishWaysModel", "takesA", "(I)Z"⟩, 57) := ⟨⟨by decide +kernel, by decide +kernel⟩, List.mem_of_getElem? (i := 839) (by decide +kernel), List.mem_of_getElem? (i := 1052) (by decide +kernel), List.mem_of_getElem? (i := 1053) (by decide +kernel)⟩
theorem lw_p39 : lw_okq (⟨"SelfishWaysModel", "isNet", "()Z"⟩, 57) := ⟨⟨by decide +kernel, by decide +kernel⟩, List.mem_of_getElem? (i := 839) (by decide +kernel), List.mem_of_getElem? (i := 1064) (by decide +kernel), List.mem_of_getElem? (i := 1065) (by decide +kernel)⟩
theorem lw_p40 : lw_okq (⟨"SelfishWaysModel", "aboutNow", "(I)I"⟩, 57) := ⟨⟨by decide +kernel, by decide +kernel⟩, List.mem_of_getElem? (i := 839) (by decide +kernel), List.mem_of_getElem? (i := 1068) (by decide +kernel), List.mem_of_getElem? (i := 1069) (by decide +kernel)⟩
theorem lw_p41 : lw_okq (⟨"SelfishWaysModel", "socialNow", "()I"⟩, 57) := ⟨⟨by decide +kernel, by decide +kernel⟩, List.mem_of_getElem? (i := 839) (by decide +kernel), List.mem_of_getElem? (i := 1072) (by decide +kernel), List.mem_of_getElem? (i := 1073) (by decide +kernel)⟩
theorem lw_p42 : lw_okq (⟨"SelfishWaysModel", "layLoad", "()V"⟩, 57) := ⟨⟨by decide +kernel, by decide +kernel⟩, List.mem_of_getElem? (i := 839) (by decide +kernel), List.mem_of_getElem? (i := 1076) (by decide +kernel), List.mem_of_getElem? (i := 1077) (by decide +kernel)⟩
theorem lw_p43 : lw_okq (⟨"SelfishWaysModel", "addWay", "(III)V"⟩, 57) := ⟨⟨by decide +kernel, by decide +kernel⟩, List.mem_of_getElem? (i := 839) (by decide +kernel), List.mem_of_getElem? (i := 1080) (by decide +kernel), List.mem_of_getElem? (i := 1081) (by decide +kernel)⟩
theorem lw_p44 : lw_okq (⟨"SelfishWaysModel", "roadOf", "(III)I"⟩, 57) := ⟨⟨by decide +kernel, by decide +kernel⟩, List.mem_of_getElem? (i := 839) (by decide +kernel), List.mem_of_getElem? (i := 1084) (by decide +kernel), List.mem_of_getElem? (i := 1085) (by decide +kernel)⟩
theorem lw_p45 : lw_okq (⟨"SelfishWaysModel", "potentialNow", "()I"⟩, 57) := ⟨⟨by decide +kernel, by decide +kernel⟩, List.mem_of_getElem? (i := 839) (by decide +kernel), List.mem_of_getElem? (i := 1088) (by decide +kernel), List.mem_of_getElem? (i := 1089) (by decide +kernel)⟩
theorem lw_p46 : lw_okq (⟨"SelfishWaysModel", "payAt", "(II)I"⟩, 57) := ⟨⟨by decide +kernel, by decide +kernel⟩, List.mem_of_getElem? (i := 839) (by decide +kernel), List.mem_of_getElem? (i := 1092) (by decide +kernel), List.mem_of_getElem? (i := 1093) (by decide +kernel)⟩
theorem lw_p47 : lw_okq (⟨"SelfishWaysModel", "restless", "(I)I"⟩, 57) := ⟨⟨by decide +kernel, by decide +kernel⟩, List.mem_of_getElem? (i := 839) (by decide +kernel), List.mem_of_getElem? (i := 1096) (by decide +kernel), List.mem_of_getElem? (i := 1097) (by decide +kernel)⟩
def lw_privs_3 : List (MethodName × Nat) := [(⟨"SelfishWays", "mixLanes", "(J)J"⟩, 7), (⟨"SelfishWaysModel", "read", "()I"⟩, 57), (⟨"SelfishWaysModel", "takesLetter", "(I)Z"⟩, 57), (⟨"SelfishWaysModel", "goes", "(ZI)Z"⟩, 57), (⟨"SelfishWaysModel", "takesEnd", "(I)Z"⟩, 57), (⟨"SelfishWaysModel", "takesB", "(I)Z"⟩, 57), (⟨"SelfishWaysModel", "takesA", "(I)Z"⟩, 57), (⟨"SelfishWaysModel", "isNet", "()Z"⟩, 57), (⟨"SelfishWaysModel", "aboutNow", "(I)I"⟩, 57), (⟨"SelfishWaysModel", "socialNow", "()I"⟩, 57), (⟨"SelfishWaysModel", "layLoad", "()V"⟩, 57), (⟨"SelfishWaysModel", "addWay", "(III)V"⟩, 57), (⟨"SelfishWaysModel", "roadOf", "(III)I"⟩, 57), (⟨"SelfishWaysModel", "potentialNow", "()I"⟩, 57), (⟨"SelfishWaysModel", "payAt", "(II)I"⟩, 57), (⟨"SelfishWaysModel", "restless", "(I)I"⟩, 57)]
theorem lw_r3 : ∀ q ∈ lw_privs_3, lw_okq q := List.forall_mem_cons.mpr ⟨lw_p32, List.forall_mem_cons.mpr ⟨lw_p33, List.forall_mem_cons.mpr ⟨lw_p34, List.forall_mem_cons.mpr ⟨lw_p35, List.forall_mem_cons.mpr ⟨lw_p36, List.forall_mem_cons.mpr ⟨lw_p37, List.forall_mem_cons.mpr ⟨lw_p38, List.forall_mem_cons.mpr ⟨lw_p39, List.forall_mem_cons.mpr ⟨lw_p40, List.forall_mem_cons.mpr ⟨lw_p41, List.forall_mem_cons.mpr ⟨lw_p42, List.forall_mem_cons.mpr ⟨lw_p43, List.forall_mem_cons.mpr ⟨lw_p44, List.forall_mem_cons.mpr ⟨lw_p45, List.forall_mem_cons.mpr ⟨lw_p46, List.forall_mem_cons.mpr ⟨lw_p47, fun _ h => absurd h List.not_mem_nil⟩⟩⟩⟩⟩⟩⟩⟩⟩⟩⟩⟩⟩⟩⟩⟩
theorem lw_p48 : lw_okq (⟨"SelfishWaysModel", "bestWay", "(I)I"⟩, 57) := ⟨⟨by decide +kernel, by decide +kernel⟩, List.mem_of_getElem? (i := 839) (by decide +kernel), List.mem_of_getElem? (i := 1100) (by decide +kernel), List.mem_of_getElem? (i := 1101) (by decide +kernel)⟩
theorem lw_p49 : lw_okq (⟨"SelfishWaysModel", "payNow", "(II)I"⟩, 57) := ⟨⟨by decide +kernel, by decide +kernel⟩, List.mem_of_getElem? (i := 839) (by decide +kernel), List.mem_of_getElem? (i := 1104) (by decide +kernel), List.mem_of_getElem? (i := 1105) (by decide +kernel)⟩
theorem lw_p50 : lw_okq (⟨"SelfishWaysModel", "setsAll", "()I"⟩, 57) := ⟨⟨by decide +kernel, by decide +kernel⟩, List.mem_of_getElem? (i := 839) (by decide +kernel), List.mem_of_getElem? (i := 1108) (by decide +kernel), List.mem_of_getElem? (i := 1109) (by decide +kernel)⟩
theorem lw_p51 : lw_okq (⟨"SelfishWaysModel", "greatestLoad", "()I"⟩, 57) := ⟨⟨by decide +kernel, by decide +kernel⟩, List.mem_of_getElem? (i := 839) (by decide +kernel), List.mem_of_getElem? (i := 1112) (by decide +kernel), List.mem_of_getElem? (i := 1113) (by decide +kernel)⟩
theorem lw_p52 : lw_okq (⟨"SelfishWaysModel", "isRoad", "(I)Z"⟩, 57) := ⟨⟨by decide +kernel, by decide +kernel⟩, List.mem_of_getElem? (i := 839) (by decide +kernel), List.mem_of_getElem? (i := 1120) (by decide +kernel), List.mem_of_getElem? (i := 1121) (by decide +kernel)⟩
theorem lw_p53 : lw_okq (⟨"SelfishWaysModel", "roadNow", "(II)I"⟩, 57) := ⟨⟨by decide +kernel, by decide +kernel⟩, List.mem_of_getElem? (i := 839) (by decide +kernel), List.mem_of_getElem? (i := 1124) (by decide +kernel), List.mem_of_getElem? (i := 1125) (by decide +kernel)⟩
theorem lw_p54 : lw_okq (⟨"SelfishWaysModel", "isNode", "(I)Z"⟩, 57) := ⟨⟨by decide +kernel, by decide +kernel⟩, List.mem_of_getElem? (i := 839) (by decide +kernel), List.mem_of_getElem? (i := 1140) (by decide +kernel), List.mem_of_getElem? (i := 1141) (by decide +kernel)⟩
theorem lw_p55 : lw_okq (⟨"SelfishWaysModel", "layWays", "(IIIII)I"⟩, 57) := ⟨⟨by decide +kernel, by decide +kernel⟩, List.mem_of_getElem? (i := 839) (by decide +kernel), List.mem_of_getElem? (i := 1144) (by decide +kernel), List.mem_of_getElem? (i := 1145) (by decide +kernel)⟩
theorem lw_p56 : lw_okq (⟨"SelfishWaysModel", "goesOn", "(III)Z"⟩, 57) := ⟨⟨by decide +kernel, by decide +kernel⟩, List.mem_of_getElem? (i := 839) (by decide +kernel), List.mem_of_getElem? (i := 1148) (by decide +kernel), List.mem_of_getElem? (i := 1149) (by decide +kernel)⟩
theorem lw_p57 : lw_okq (⟨"SelfishWaysModel", "keepWay", "(III)V"⟩, 57) := ⟨⟨by decide +kernel, by decide +kernel⟩, List.mem_of_getElem? (i := 839) (by decide +kernel), List.mem_of_getElem? (i := 1152) (by decide +kernel), List.mem_of_getElem? (i := 1153) (by decide +kernel)⟩
theorem lw_p58 : lw_okq (⟨"SelfishWaysModel", "leastPay", "(I)I"⟩, 57) := ⟨⟨by decide +kernel, by decide +kernel⟩, List.mem_of_getElem? (i := 839) (by decide +kernel), List.mem_of_getElem? (i := 1156) (by decide +kernel), List.mem_of_getElem? (i := 1157) (by decide +kernel)⟩
theorem lw_p59 : lw_okq (⟨"SelfishWaysModel", "payOf", "(II)I"⟩, 57) := ⟨⟨by decide +kernel, by decide +kernel⟩, List.mem_of_getElem? (i := 839) (by decide +kernel), List.mem_of_getElem? (i := 1160) (by decide +kernel), List.mem_of_getElem? (i := 1161) (by decide +kernel)⟩
theorem lw_p60 : lw_okq (⟨"SelfishWaysModel", "isPlayer", "(I)Z"⟩, 57) := ⟨⟨by decide +kernel, by decide +kernel⟩, List.mem_of_getElem? (i := 839) (by decide +kernel), List.mem_of_getElem? (i := 1172) (by decide +kernel), List.mem_of_getElem? (i := 1173) (by decide +kernel)⟩
theorem lw_p61 : lw_okq (⟨"SelfishWaysModel", "whoNow", "(II)I"⟩, 57) := ⟨⟨by decide +kernel, by decide +kernel⟩, List.mem_of_getElem? (i := 839) (by decide +kernel), List.mem_of_getElem? (i := 1176) (by decide +kernel), List.mem_of_getElem? (i := 1177) (by decide +kernel)⟩
theorem lw_p62 : lw_okq (⟨"SelfishWaysModel", "isWay", "(II)Z"⟩, 57) := ⟨⟨by decide +kernel, by decide +kernel⟩, List.mem_of_getElem? (i := 839) (by decide +kernel), List.mem_of_getElem? (i := 1184) (by decide +kernel), List.mem_of_getElem? (i := 1185) (by decide +kernel)⟩
theorem lw_p63 : lw_okq (⟨"SelfishWaysModel", "turnOf", "(I)I"⟩, 57) := ⟨⟨by decide +kernel, by decide +kernel⟩, List.mem_of_getElem? (i := 839) (by decide +kernel), List.mem_of_getElem? (i := 1200) (by decide +kernel), List.mem_of_getElem? (i := 1201) (by decide +kernel)⟩
def lw_privs_4 : List (MethodName × Nat) := [(⟨"SelfishWaysModel", "bestWay", "(I)I"⟩, 57), (⟨"SelfishWaysModel", "payNow", "(II)I"⟩, 57), (⟨"SelfishWaysModel", "setsAll", "()I"⟩, 57), (⟨"SelfishWaysModel", "greatestLoad", "()I"⟩, 57), (⟨"SelfishWaysModel", "isRoad", "(I)Z"⟩, 57), (⟨"SelfishWaysModel", "roadNow", "(II)I"⟩, 57), (⟨"SelfishWaysModel", "isNode", "(I)Z"⟩, 57), (⟨"SelfishWaysModel", "layWays", "(IIIII)I"⟩, 57), (⟨"SelfishWaysModel", "goesOn", "(III)Z"⟩, 57), (⟨"SelfishWaysModel", "keepWay", "(III)V"⟩, 57), (⟨"SelfishWaysModel", "leastPay", "(I)I"⟩, 57), (⟨"SelfishWaysModel", "payOf", "(II)I"⟩, 57), (⟨"SelfishWaysModel", "isPlayer", "(I)Z"⟩, 57), (⟨"SelfishWaysModel", "whoNow", "(II)I"⟩, 57), (⟨"SelfishWaysModel", "isWay", "(II)Z"⟩, 57), (⟨"SelfishWaysModel", "turnOf", "(I)I"⟩, 57)]
theorem lw_r4 : ∀ q ∈ lw_privs_4, lw_okq q := List.forall_mem_cons.mpr ⟨lw_p48, List.forall_mem_cons.mpr ⟨lw_p49, List.forall_mem_cons.mpr ⟨lw_p50, List.forall_mem_cons.mpr ⟨lw_p51, List.forall_mem_cons.mpr ⟨lw_p52, List.forall_mem_cons.mpr ⟨lw_p53, List.forall_mem_cons.mpr ⟨lw_p54, List.forall_mem_cons.mpr ⟨lw_p55, List.forall_mem_cons.mpr ⟨lw_p56, List.forall_mem_cons.mpr ⟨lw_p57, List.forall_mem_cons.mpr ⟨lw_p58, List.forall_mem_cons.mpr ⟨lw_p59, List.forall_mem_cons.mpr ⟨lw_p60, List.forall_mem_cons.mpr ⟨lw_p61, List.forall_mem_cons.mpr ⟨lw_p62, List.forall_mem_cons.mpr ⟨lw_p63, fun _ h => absurd h List.not_mem_nil⟩⟩⟩⟩⟩⟩⟩⟩⟩⟩⟩⟩⟩⟩⟩⟩
theorem lw_p64 : lw_okq (⟨"SelfishWaysModel", "isCounted", "()Z"⟩, 57) := ⟨⟨by decide +kernel, by decide +kernel⟩, List.mem_of_getElem? (i := 839) (by decide +kernel), List.mem_of_getElem? (i := 1212) (by decide +kernel), List.mem_of_getElem? (i := 1213) (by decide +kernel)⟩
theorem lw_p65 : lw_okq (⟨"SelfishWaysModel", "restsNow", "(I)I"⟩, 57) := ⟨⟨by decide +kernel, by decide +kernel⟩, List.mem_of_getElem? (i := 839) (by decide +kernel), List.mem_of_getElem? (i := 1216) (by decide +kernel), List.mem_of_getElem? (i := 1217) (by decide +kernel)⟩
theorem lw_p66 : lw_okq (⟨"SelfishWaysModel", "layRests", "()V"⟩, 57) := ⟨⟨by decide +kernel, by decide +kernel⟩, List.mem_of_getElem? (i := 839) (by decide +kernel), List.mem_of_getElem? (i := 1220) (by decide +kernel), List.mem_of_getElem? (i := 1221) (by decide +kernel)⟩
theorem lw_p67 : lw_okq (⟨"SelfishWaysModel", "keep", "()V"⟩, 57) := ⟨⟨by decide +kernel, by decide +kernel⟩, List.mem_of_getElem? (i := 839) (by decide +kernel), List.mem_of_getElem? (i := 1224) (by decide +kernel), List.mem_of_getElem? (i := 1225) (by decide +kernel)⟩
theorem lw_p68 : lw_okq (⟨"SelfishWaysModel", "beginRests", "()V"⟩, 57) := ⟨⟨by decide +kernel, by decide +kernel⟩, List.mem_of_getElem? (i := 839) (by decide +kernel), List.mem_of_getElem? (i := 1228) (by decide +kernel), List.mem_of_getElem? (i := 1229) (by decide +kernel)⟩
theorem lw_p69 : lw_okq (⟨"SelfishWaysModel", "take", "(I)V"⟩, 57) := ⟨⟨by decide +kernel, by decide +kernel⟩, List.mem_of_getElem? (i := 839) (by decide +kernel), List.mem_of_getElem? (i := 1232) (by decide +kernel), List.mem_of_getElem? (i := 1233) (by decide +kernel)⟩
theorem lw_p70 : lw_okq (⟨"SelfishWaysModel", "putBack", "()V"⟩, 57) := ⟨⟨by decide +kernel, by decide +kernel⟩, List.mem_of_getElem? (i := 839) (by decide +kernel), List.mem_of_getElem? (i := 1236) (by decide +kernel), List.mem_of_getElem? (i := 1237) (by decide +kernel)⟩
theorem lw_p71 : lw_okq (⟨"SelfishWaysModel", "restAt", "(I)I"⟩, 57) := ⟨⟨by decide +kernel, by decide +kernel⟩, List.mem_of_getElem? (i := 839) (by decide +kernel), List.mem_of_getElem? (i := 1244) (by decide +kernel), List.mem_of_getElem? (i := 1245) (by decide +kernel)⟩
theorem lw_p72 : lw_okq (⟨"SelfishWaysModel", "priceNow", "(I)I"⟩, 57) := ⟨⟨by decide +kernel, by decide +kernel⟩, List.mem_of_getElem? (i := 839) (by decide +kernel), List.mem_of_getElem? (i := 1260) (by decide +kernel), List.mem_of_getElem? (i := 1261) (by decide +kernel)⟩
theorem lw_p73 : lw_okq (⟨"SelfishWaysModel", "reachNow", "(I)I"⟩, 57) := ⟨⟨by decide +kernel, by decide +kernel⟩, List.mem_of_getElem? (i := 839) (by decide +kernel), List.mem_of_getElem? (i := 1274) (by decide +kernel), List.mem_of_getElem? (i := 1275) (by decide +kernel)⟩
theorem lw_p74 : lw_okq (⟨"SelfishWaysModel", "numberNow", "()I"⟩, 57) := ⟨⟨by decide +kernel, by decide +kernel⟩, List.mem_of_getElem? (i := 839) (by decide +kernel), List.mem_of_getElem? (i := 1278) (by decide +kernel), List.mem_of_getElem? (i := 1279) (by decide +kernel)⟩
theorem lw_p75 : lw_okq (⟨"SelfishWaysModel", "layChains", "()V"⟩, 57) := ⟨⟨by decide +kernel, by decide +kernel⟩, List.mem_of_getElem? (i := 839) (by decide +kernel), List.mem_of_getElem? (i := 1282) (by decide +kernel), List.mem_of_getElem? (i := 1283) (by decide +kernel)⟩
theorem lw_p76 : lw_okq (⟨"SelfishWaysModel", "spread", "(I)V"⟩, 57) := ⟨⟨by decide +kernel, by decide +kernel⟩, List.mem_of_getElem? (i := 839) (by decide +kernel), List.mem_of_getElem? (i := 1286) (by decide +kernel), List.mem_of_getElem? (i := 1287) (by decide +kernel)⟩
theorem lw_p77 : lw_okq (⟨"SelfishWaysModel", "leadNow", "(II)I"⟩, 57) := ⟨⟨by decide +kernel, by decide +kernel⟩, List.mem_of_getElem? (i := 839) (by decide +kernel), List.mem_of_getElem? (i := 1294) (by decide +kernel), List.mem_of_getElem? (i := 1295) (by decide +kernel)⟩
theorem lw_p78 : lw_okq (⟨"SelfishWaysModel", "ledBy", "(II)I"⟩, 57) := ⟨⟨by decide +kernel, by decide +kernel⟩, List.mem_of_getElem? (i := 839) (by decide +kernel), List.mem_of_getElem? (i := 1298) (by decide +kernel), List.mem_of_getElem? (i := 1299) (by decide +kernel)⟩
theorem lw_p79 : lw_okq (⟨"SelfishWaysModel", "leadsBy", "(I)I"⟩, 57) := ⟨⟨by decide +kernel, by decide +kernel⟩, List.mem_of_getElem? (i := 839) (by decide +kernel), List.mem_of_getElem? (i := 1306) (by decide +kernel), List.mem_of_getElem? (i := 1307) (by decide +kernel)⟩
def lw_privs_5 : List (MethodName × Nat) := [(⟨"SelfishWaysModel", "isCounted", "()Z"⟩, 57), (⟨"SelfishWaysModel", "restsNow", "(I)I"⟩, 57), (⟨"SelfishWaysModel", "layRests", "()V"⟩, 57), (⟨"SelfishWaysModel", "keep", "()V"⟩, 57), (⟨"SelfishWaysModel", "beginRests", "()V"⟩, 57), (⟨"SelfishWaysModel", "take", "(I)V"⟩, 57), (⟨"SelfishWaysModel", "putBack", "()V"⟩, 57), (⟨"SelfishWaysModel", "restAt", "(I)I"⟩, 57), (⟨"SelfishWaysModel", "priceNow", "(I)I"⟩, 57), (⟨"SelfishWaysModel", "reachNow", "(I)I"⟩, 57), (⟨"SelfishWaysModel", "numberNow", "()I"⟩, 57), (⟨"SelfishWaysModel", "layChains", "()V"⟩, 57), (⟨"SelfishWaysModel", "spread", "(I)V"⟩, 57), (⟨"SelfishWaysModel", "leadNow", "(II)I"⟩, 57), (⟨"SelfishWaysModel", "ledBy", "(II)I"⟩, 57), (⟨"SelfishWaysModel", "leadsBy", "(I)I"⟩, 57)]
theorem lw_r5 : ∀ q ∈ lw_privs_5, lw_okq q := List.forall_mem_cons.mpr ⟨lw_p64, List.forall_mem_cons.mpr ⟨lw_p65, List.forall_mem_cons.mpr ⟨lw_p66, List.forall_mem_cons.mpr ⟨lw_p67, List.forall_mem_cons.mpr ⟨lw_p68, List.forall_mem_cons.mpr ⟨lw_p69, List.forall_mem_cons.mpr ⟨lw_p70, List.forall_mem_cons.mpr ⟨lw_p71, List.forall_mem_cons.mpr ⟨lw_p72, List.forall_mem_cons.mpr ⟨lw_p73, List.forall_mem_cons.mpr ⟨lw_p74, List.forall_mem_cons.mpr ⟨lw_p75, List.forall_mem_cons.mpr ⟨lw_p76, List.forall_mem_cons.mpr ⟨lw_p77, List.forall_mem_cons.mpr ⟨lw_p78, List.forall_mem_cons.mpr ⟨lw_p79, fun _ h => absurd h List.not_mem_nil⟩⟩⟩⟩⟩⟩⟩⟩⟩⟩⟩⟩⟩⟩⟩⟩
theorem lw_p80 : lw_okq (⟨"SelfishWaysModel", "flowNow", "(III)I"⟩, 57) := ⟨⟨by decide +kernel, by decide +kernel⟩, List.mem_of_getElem? (i := 839) (by decide +kernel), List.mem_of_getElem? (i := 1334) (by decide +kernel), List.mem_of_getElem? (i := 1335) (by decide +kernel)⟩
theorem lw_p81 : lw_okq (⟨"SelfishWaysModel", "layFlow", "(I)V"⟩, 57) := ⟨⟨by decide +kernel, by decide +kernel⟩, List.mem_of_getElem? (i := 839) (by decide +kernel), List.mem_of_getElem? (i := 1338) (by decide +kernel), List.mem_of_getElem? (i := 1339) (by decide +kernel)⟩
theorem lw_p82 : lw_okq (⟨"SelfishWaysModel", "layEven", "()V"⟩, 57) := ⟨⟨by decide +kernel, by decide +kernel⟩, List.mem_of_getElem? (i := 839) (by decide +kernel), List.mem_of_getElem? (i := 1342) (by decide +kernel), List.mem_of_getElem? (i := 1343) (by decide +kernel)⟩
theorem lw_p83 : lw_okq (⟨"SelfishWaysModel", "findLevel", "(JJI)I"⟩, 57) := ⟨⟨by decide +kernel, by decide +kernel⟩, List.mem_of_getElem? (i := 839) (by decide +kernel), List.mem_of_getElem? (i := 1346) (by decide +kernel), List.mem_of_getElem? (i := 1347) (by decide +kernel)⟩
theorem lw_p84 : lw_okq (⟨"SelfishWaysModel", "isLevel", "(IJJI)Z"⟩, 57) := ⟨⟨by decide +kernel, by decide +kernel⟩, List.mem_of_getElem? (i := 839) (by decide +kernel), List.mem_of_getElem? (i := 1350) (by decide +kernel), List.mem_of_getElem? (i := 1351) (by decide +kernel)⟩
theorem lw_p85 : lw_okq (⟨"SelfishWaysModel", "weight", "(I)I"⟩, 57) := ⟨⟨by decide +kernel, by decide +kernel⟩, List.mem_of_getElem? (i := 839) (by decide +kernel), List.mem_of_getElem? (i := 1355) (by decide +kernel), List.mem_of_getElem? (i := 1356) (by decide +kernel)⟩
theorem lw_p86 : lw_okq (⟨"SelfishWaysModel", "layWise", "()V"⟩, 57) := ⟨⟨by decide +kernel, by decide +kernel⟩, List.mem_of_getElem? (i := 839) (by decide +kernel), List.mem_of_getElem? (i := 1359) (by decide +kernel), List.mem_of_getElem? (i := 1360) (by decide +kernel)⟩
theorem lw_p87 : lw_okq (⟨"SelfishWaysModel", "layLed", "()V"⟩, 57) := ⟨⟨by decide +kernel, by decide +kernel⟩, List.mem_of_getElem? (i := 839) (by decide +kernel), List.mem_of_getElem? (i := 1364) (by decide +kernel), List.mem_of_getElem? (i := 1365) (by decide +kernel)⟩
theorem lw_p88 : lw_okq (⟨"SelfishWaysModel", "layLeader", "()V"⟩, 57) := ⟨⟨by decide +kernel, by decide +kernel⟩, List.mem_of_getElem? (i := 839) (by decide +kernel), List.mem_of_getElem? (i := 1368) (by decide +kernel), List.mem_of_getElem? (i := 1369) (by decide +kernel)⟩
theorem lw_p89 : lw_okq (⟨"SelfishWaysModel", "dearest", "(I)I"⟩, 57) := ⟨⟨by decide +kernel, by decide +kernel⟩, List.mem_of_getElem? (i := 839) (by decide +kernel), List.mem_of_getElem? (i := 1373) (by decide +kernel), List.mem_of_getElem? (i := 1374) (by decide +kernel)⟩
theorem lw_p90 : lw_okq (⟨"SelfishWaysModel", "costsMore", "(II)Z"⟩, 57) := ⟨⟨by decide +kernel, by decide +kernel⟩, List.mem_of_getElem? (i := 839) (by decide +kernel), List.mem_of_getElem? (i := 1377) (by decide +kernel), List.mem_of_getElem? (i := 1378) (by decide +kernel)⟩
theorem lw_p91 : lw_okq (⟨"SelfishWaysModel", "wiseCost", "(I)J"⟩, 57) := ⟨⟨by decide +kernel, by decide +kernel⟩, List.mem_of_getElem? (i := 839) (by decide +kernel), List.mem_of_getElem? (i := 1381) (by decide +kernel), List.mem_of_getElem? (i := 1382) (by decide +kernel)⟩
theorem lw_p92 : lw_okq (⟨"SelfishWaysModel", "amountOf", "(II)J"⟩, 57) := ⟨⟨by decide +kernel, by decide +kernel⟩, List.mem_of_getElem? (i := 839) (by decide +kernel), List.mem_of_getElem? (i := 1385) (by decide +kernel), List.mem_of_getElem? (i := 1386) (by decide +kernel)⟩
theorem lw_p93 : lw_okq (⟨"SelfishWaysModel", "belowOf", "(I)J"⟩, 57) := ⟨⟨by decide +kernel, by decide +kernel⟩, List.mem_of_getElem? (i := 839) (by decide +kernel), List.mem_of_getElem? (i := 1389) (by decide +kernel), List.mem_of_getElem? (i := 1390) (by decide +kernel)⟩
theorem lw_p94 : lw_okq (⟨"SelfishWaysModel", "levelNow", "(I)I"⟩, 57) := ⟨⟨by decide +kernel, by decide +kernel⟩, List.mem_of_getElem? (i := 839) (by decide +kernel), List.mem_of_getElem? (i := 1397) (by decide +kernel), List.mem_of_getElem? (i := 1398) (by decide +kernel)⟩
theorem lw_p95 : lw_okq (⟨"SelfishWaysModel", "totalNow", "(I)I"⟩, 57) := ⟨⟨by decide +kernel, by decide +kernel⟩, List.mem_of_getElem? (i := 839) (by decide +kernel), List.mem_of_getElem? (i := 1405) (by decide +kernel), List.mem_of_getElem? (i := 1406) (by decide +kernel)⟩
def lw_privs_6 : List (MethodName × Nat) := [(⟨"SelfishWaysModel", "flowNow", "(III)I"⟩, 57), (⟨"SelfishWaysModel", "layFlow", "(I)V"⟩, 57), (⟨"SelfishWaysModel", "layEven", "()V"⟩, 57), (⟨"SelfishWaysModel", "findLevel", "(JJI)I"⟩, 57), (⟨"SelfishWaysModel", "isLevel", "(IJJI)Z"⟩, 57), (⟨"SelfishWaysModel", "weight", "(I)I"⟩, 57), (⟨"SelfishWaysModel", "layWise", "()V"⟩, 57), (⟨"SelfishWaysModel", "layLed", "()V"⟩, 57), (⟨"SelfishWaysModel", "layLeader", "()V"⟩, 57), (⟨"SelfishWaysModel", "dearest", "(I)I"⟩, 57), (⟨"SelfishWaysModel", "costsMore", "(II)Z"⟩, 57), (⟨"SelfishWaysModel", "wiseCost", "(I)J"⟩, 57), (⟨"SelfishWaysModel", "amountOf", "(II)J"⟩, 57), (⟨"SelfishWaysModel", "belowOf", "(I)J"⟩, 57), (⟨"SelfishWaysModel", "levelNow", "(I)I"⟩, 57), (⟨"SelfishWaysModel", "totalNow", "(I)I"⟩, 57)]
theorem lw_r6 : ∀ q ∈ lw_privs_6, lw_okq q := List.forall_mem_cons.mpr ⟨lw_p80, List.forall_mem_cons.mpr ⟨lw_p81, List.forall_mem_cons.mpr ⟨lw_p82, List.forall_mem_cons.mpr ⟨lw_p83, List.forall_mem_cons.mpr ⟨lw_p84, List.forall_mem_cons.mpr ⟨lw_p85, List.forall_mem_cons.mpr ⟨lw_p86, List.forall_mem_cons.mpr ⟨lw_p87, List.forall_mem_cons.mpr ⟨lw_p88, List.forall_mem_cons.mpr ⟨lw_p89, List.forall_mem_cons.mpr ⟨lw_p90, List.forall_mem_cons.mpr ⟨lw_p91, List.forall_mem_cons.mpr ⟨lw_p92, List.forall_mem_cons.mpr ⟨lw_p93, List.forall_mem_cons.mpr ⟨lw_p94, List.forall_mem_cons.mpr ⟨lw_p95, fun _ h => absurd h List.not_mem_nil⟩⟩⟩⟩⟩⟩⟩⟩⟩⟩⟩⟩⟩⟩⟩⟩
theorem lw_p96 : lw_okq (⟨"SelfishWaysModel", "howMany", "(I)I"⟩, 57) := ⟨⟨by decide +kernel, by decide +kernel⟩, List.mem_of_getElem? (i := 839) (by decide +kernel), List.mem_of_getElem? (i := 1419) (by decide +kernel), List.mem_of_getElem? (i := 1420) (by decide +kernel)⟩
theorem lw_p97 : lw_okq (⟨"SelfishWaysModel", "mixNet", "()V"⟩, 57) := ⟨⟨by decide +kernel, by decide +kernel⟩, List.mem_of_getElem? (i := 839) (by decide +kernel), List.mem_of_getElem? (i := 1428) (by decide +kernel), List.mem_of_getElem? (i := 1429) (by decide +kernel)⟩
theorem lw_p98 : lw_okq (⟨"SelfishWaysModel", "mix", "(J)V"⟩, 57) := ⟨⟨by decide +kernel, by decide +kernel⟩, List.mem_of_getElem? (i := 839) (by decide +kernel), List.mem_of_getElem? (i := 1432) (by decide +kernel), List.mem_of_getElem? (i := 1433) (by decide +kernel)⟩
theorem lw_p99 : lw_okq (⟨"SelfishWaysModel", "mixPlayer", "(I)V"⟩, 57) := ⟨⟨by decide +kernel, by decide +kernel⟩, List.mem_of_getElem? (i := 839) (by decide +kernel), List.mem_of_getElem? (i := 1437) (by decide +kernel), List.mem_of_getElem? (i := 1438) (by decide +kernel)⟩
theorem lw_p100 : lw_okq (⟨"SelfishWaysModel", "mixSets", "()V"⟩, 57) := ⟨⟨by decide +kernel, by decide +kernel⟩, List.mem_of_getElem? (i := 839) (by decide +kernel), List.mem_of_getElem? (i := 1441) (by decide +kernel), List.mem_of_getElem? (i := 1442) (by decide +kernel)⟩
theorem lw_p101 : lw_okq (⟨"SelfishWaysModel", "mixLeads", "()V"⟩, 57) := ⟨⟨by decide +kernel, by decide +kernel⟩, List.mem_of_getElem? (i := 839) (by decide +kernel), List.mem_of_getElem? (i := 1445) (by decide +kernel), List.mem_of_getElem? (i := 1446) (by decide +kernel)⟩
theorem lw_p102 : lw_okq (⟨"SelfishWaysModel", "mixLanes", "()V"⟩, 57) := ⟨⟨by decide +kernel, by decide +kernel⟩, List.mem_of_getElem? (i := 839) (by decide +kernel), List.mem_of_getElem? (i := 1449) (by decide +kernel), List.mem_of_getElem? (i := 1450) (by decide +kernel)⟩
def lw_privs_7 : List (MethodName × Nat) := [(⟨"SelfishWaysModel", "howMany", "(I)I"⟩, 57), (⟨"SelfishWaysModel", "mixNet", "()V"⟩, 57), (⟨"SelfishWaysModel", "mix", "(J)V"⟩, 57), (⟨"SelfishWaysModel", "mixPlayer", "(I)V"⟩, 57), (⟨"SelfishWaysModel", "mixSets", "()V"⟩, 57), (⟨"SelfishWaysModel", "mixLeads", "()V"⟩, 57), (⟨"SelfishWaysModel", "mixLanes", "()V"⟩, 57)]
theorem lw_r7 : ∀ q ∈ lw_privs_7, lw_okq q := List.forall_mem_cons.mpr ⟨lw_p96, List.forall_mem_cons.mpr ⟨lw_p97, List.forall_mem_cons.mpr ⟨lw_p98, List.forall_mem_cons.mpr ⟨lw_p99, List.forall_mem_cons.mpr ⟨lw_p100, List.forall_mem_cons.mpr ⟨lw_p101, List.forall_mem_cons.mpr ⟨lw_p102, fun _ h => absurd h List.not_mem_nil⟩⟩⟩⟩⟩⟩⟩
def lw_privs : List (MethodName × Nat) := lw_privs_1 ++ (lw_privs_2 ++ (lw_privs_3 ++ (lw_privs_4 ++ (lw_privs_5 ++ (lw_privs_6 ++ (lw_privs_7))))))
def lw_tbl : List Cond := k2_sels lw_privs ++ tables_1
theorem lw_privs_ok : ∀ q ∈ lw_privs, lw_okq q := by
  show ∀ q ∈ lw_privs_1 ++ (lw_privs_2 ++ (lw_privs_3 ++ (lw_privs_4 ++ (lw_privs_5 ++ (lw_privs_6 ++ (lw_privs_7)))))), lw_okq q
  exact List.forall_mem_append.mpr ⟨lw_r1, List.forall_mem_append.mpr ⟨lw_r2, List.forall_mem_append.mpr ⟨lw_r3, List.forall_mem_append.mpr ⟨lw_r4, List.forall_mem_append.mpr ⟨lw_r5, List.forall_mem_append.mpr ⟨lw_r6, lw_r7⟩⟩⟩⟩⟩⟩
end
section
def RX0 : String := "SelfishWays$AllSets"
def TX0 : u_T := fun k => match k with
  | 0 => ("SelfishWays$AllSets", "known", "Z", false)
  | 1 => ("SelfishWays$AllSets", "size", "I", false)
  | 2 => ("SelfishWays$AllSets", "players", "I", false)
  | 3 => ("SelfishWays$AllSets", "ways", "[I", true)
  | 4 => ("SelfishWays$AllSets", "strides", "[I", true)
  | 5 => ("SelfishWays$AllSets", "socials", "[I", true)
  | 6 => ("SelfishWays$AllSets", "potentials", "[I", true)
  | 7 => ("SelfishWays$AllSets", "restSets", "[I", true)
  | 8 => ("SelfishWays$AllSets", "rests", "I", false)
  | 9 => ("SelfishWays$AllSets", "leastRest", "I", false)
  | 10 => ("SelfishWays$AllSets", "greatestRest", "I", false)
  | 11 => ("SelfishWays$AllSets", "leastSocial", "I", false)
  | 12 => ("SelfishWays$AllSets", "firstLeast", "I", false)
  | 13 => ("SelfishWays$AllSets", "timesLeast", "I", false)
  | 14 => ("SelfishWays$AllSets", "leastPotential", "I", false)
  | 15 => ("SelfishWays$AllSets", "spread", "LSelfishWays$Spread;", true)
  | 16 => ("SelfishWays$AllSets", "reached", "I", false)
  | 17 => ("SelfishWays$AllSets", "reachedRests", "I", false)
  | _ => ("SelfishWays$AllSets", "longest", "I", false)
def tyX0 : Nat → FieldType := fun k => match k with
  | 0 => .boolean
  | 1 => .int
  | 2 => .int
  | 3 => .array .int
  | 4 => .array .int
  | 5 => .array .int
  | 6 => .array .int
  | 7 => .array .int
  | 8 => .int
  | 9 => .int
  | 10 => .int
  | 11 => .int
  | 12 => .int
  | 13 => .int
  | 14 => .int
  | 15 => .object "SelfishWays$Spread"
  | 16 => .int
  | 17 => .int
  | _ => .int
abbrev wsX00 : List Cond := u_ws RX0 TX0 19
theorem nmX0 : ∀ a, a < 19 → ∀ b, b < 19 → a ≠ b → (TX0 a).2.1 ≠ (TX0 b).2.1 := by decide +kernel
theorem tyX0_ok : ∀ k, k < 19 → parseFieldDescriptor (TX0 k).2.2.1 = some (tyX0 k) := by decide +kernel
abbrev cX0_init : ByteArray := prog_2_method_1_code
def yX0_init : MethodName := ⟨RX0, "<init>", "()V"⟩
abbrev cX0_survey : ByteArray := prog_2_method_2_code
def yX0_survey : MethodName := ⟨RX0, "survey", "(LSelfishWays$Traffic;)V"⟩
abbrev cX0_findLeast : ByteArray := prog_2_method_3_code
def yX0_findLeast : MethodName := ⟨RX0, "findLeast", "()V"⟩
abbrev cX0_findRests : ByteArray := prog_2_method_4_code
def yX0_findRests : MethodName := ⟨RX0, "findRests", "()V"⟩
abbrev cX0_isRest : ByteArray := prog_2_method_5_code
def yX0_isRest : MethodName := ⟨RX0, "isRest", "(I)Z"⟩
abbrev cX0_wayIn : ByteArray := prog_2_method_6_code
def yX0_wayIn : MethodName := ⟨RX0, "wayIn", "(II)I"⟩
abbrev cX0_spreadFrom : ByteArray := prog_2_method_7_code
def yX0_spreadFrom : MethodName := ⟨RX0, "spreadFrom", "(I)V"⟩
abbrev cX0_offerChanges : ByteArray := prog_2_method_8_code
def yX0_offerChanges : MethodName := ⟨RX0, "offerChanges", "(II)V"⟩
abbrev cX0_countReached : ByteArray := prog_2_method_9_code
def yX0_countReached : MethodName := ⟨RX0, "countReached", "()V"⟩
def RX1 : String := "SelfishWays$Lanes"
def TX1 : u_T := fun k => match k with
  | 0 => ("SelfishWays$Lanes", "a", "[I", true)
  | 1 => ("SelfishWays$Lanes", "b", "[I", true)
  | 2 => ("SelfishWays$Lanes", "weights", "[I", true)
  | 3 => ("SelfishWays$Lanes", "size", "I", false)
  | 4 => ("SelfishWays$Lanes", "amountInAll", "I", false)
  | 5 => ("SelfishWays$Lanes", "tenthsLed", "I", false)
  | 6 => ("SelfishWays$Lanes", "known", "Z", false)
  | 7 => ("SelfishWays$Lanes", "amounts", "[[J", true)
  | 8 => ("SelfishWays$Lanes", "parts", "[J", true)
  | 9 => ("SelfishWays$Lanes", "evenLevel", "J", false)
  | 10 => ("SelfishWays$Lanes", "evenLevelParts", "J", false)
  | 11 => ("SelfishWays$Lanes", "ground", "[J", true)
  | 12 => ("SelfishWays$Lanes", "open", "[Z", true)
  | 13 => ("SelfishWays$Lanes", "openWeight", "J", false)
  | _ => ("SelfishWays$Lanes", "weighedLevel", "J", false)
def tyX1 : Nat → FieldType := fun k => match k with
  | 0 => .array .int
  | 1 => .array .int
  | 2 => .array .int
  | 3 => .int
  | 4 => .int
  | 5 => .int
  | 6 => .boolean
  | 7 => .array (.array .long)
  | 8 => .array .long
  | 9 => .long
  | 10 => .long
  | 11 => .array .long
  | 12 => .array .boolean
  | 13 => .long
  | _ => .long
abbrev wsX10 : List Cond := u_ws RX1 TX1 15
theorem nmX1 : ∀ a, a < 15 → ∀ b, b < 15 → a ≠ b → (TX1 a).2.1 ≠ (TX1 b).2.1 := by decide +kernel
theorem tyX1_ok : ∀ k, k < 15 → parseFieldDescriptor (TX1 k).2.2.1 = some (tyX1 k) := by decide +kernel
abbrev cX1_init : ByteArray := prog_3_method_1_code
def yX1_init : MethodName := ⟨RX1, "<init>", "()V"⟩
abbrev cX1_add : ByteArray := prog_3_method_2_code
def yX1_add : MethodName := ⟨RX1, "add", "(II)V"⟩
abbrev cX1_partAll : ByteArray := prog_3_method_3_code
def yX1_partAll : MethodName := ⟨RX1, "partAll", "()V"⟩
abbrev cX1_layGround : ByteArray := prog_3_method_4_code
def yX1_layGround : MethodName := ⟨RX1, "layGround", "()V"⟩
abbrev cX1_partEven : ByteArray := prog_3_method_5_code
def yX1_partEven : MethodName := ⟨RX1, "partEven", "()V"⟩
abbrev cX1_partWise : ByteArray := prog_3_method_6_code
def yX1_partWise : MethodName := ⟨RX1, "partWise", "()V"⟩
abbrev cX1_pour : ByteArray := prog_3_method_7_code
def yX1_pour : MethodName := ⟨RX1, "pour", "([JJJ)V"⟩
abbrev cX1_weighOpen : ByteArray := prog_3_method_8_code
def yX1_weighOpen : MethodName := ⟨RX1, "weighOpen", "(J)V"⟩
abbrev cX1_shutAbove : ByteArray := prog_3_method_9_code
def yX1_shutAbove : MethodName := ⟨RX1, "shutAbove", "()Z"⟩
abbrev cX1_partLeaders : ByteArray := prog_3_method_10_code
def yX1_partLeaders : MethodName := ⟨RX1, "partLeaders", "()V"⟩
abbrev cX1_dearestOpenByWise : ByteArray := prog_3_method_11_code
def yX1_dearestOpenByWise : MethodName := ⟨RX1, "dearestOpenByWise", "()I"⟩
abbrev cX1_partLed : ByteArray := prog_3_method_12_code
def yX1_partLed : MethodName := ⟨RX1, "partLed", "()V"⟩
abbrev cX1_thousandths : ByteArray := prog_3_method_13_code
def yX1_thousandths : MethodName := ⟨RX1, "thousandths", "(I)J"⟩
def RX2 : String := "SelfishWays$Net"
def TX2 : u_T := fun k => match k with
  | 0 => ("SelfishWays$Net", "nodes", "I", false)
  | 1 => ("SelfishWays$Net", "roads", "I", false)
  | 2 => ("SelfishWays$Net", "from", "[I", true)
  | 3 => ("SelfishWays$Net", "to", "[I", true)
  | 4 => ("SelfishWays$Net", "a", "[I", true)
  | 5 => ("SelfishWays$Net", "b", "[I", true)
  | _ => ("SelfishWays$Net", "t", "[I", true)
def tyX2 : Nat → FieldType := fun k => match k with
  | 0 => .int
  | 1 => .int
  | 2 => .array .int
  | 3 => .array .int
  | 4 => .array .int
  | 5 => .array .int
  | _ => .array .int
abbrev wsX20 : List Cond := u_ws RX2 TX2 7
theorem nmX2 : ∀ a, a < 7 → ∀ b, b < 7 → a ≠ b → (TX2 a).2.1 ≠ (TX2 b).2.1 := by decide +kernel
theorem tyX2_ok : ∀ k, k < 7 → parseFieldDescriptor (TX2 k).2.2.1 = some (tyX2 k) := by decide +kernel
abbrev cX2_init : ByteArray := prog_4_method_1_code
def yX2_init : MethodName := ⟨RX2, "<init>", "()V"⟩
abbrev cX2_becomeLike : ByteArray := prog_4_method_2_code
def yX2_becomeLike : MethodName := ⟨RX2, "becomeLike", "(LSelfishWays$Net;)V"⟩
def RX3 : String := "SelfishWays$Page"
def TX3 : u_T := fun k => match k with
  | 0 => ("SelfishWays$Page", "letters", "[I", true)
  | 1 => ("SelfishWays$Page", "size", "I", false)
  | 2 => ("SelfishWays$Page", "draft", "LSelfishWays$Net;", true)
  | _ => ("SelfishWays$Page", "phase", "I", false)
def tyX3 : Nat → FieldType := fun k => match k with
  | 0 => .array .int
  | 1 => .int
  | 2 => .object "SelfishWays$Net"
  | _ => .int
abbrev wsX30 : List Cond := u_ws RX3 TX3 4
theorem nmX3 : ∀ a, a < 4 → ∀ b, b < 4 → a ≠ b → (TX3 a).2.1 ≠ (TX3 b).2.1 := by decide +kernel
theorem tyX3_ok : ∀ k, k < 4 → parseFieldDescriptor (TX3 k).2.2.1 = some (tyX3 k) := by decide +kernel
abbrev cX3_init : ByteArray := prog_5_method_1_code
def yX3_init : MethodName := ⟨RX3, "<init>", "()V"⟩
abbrev cX3_readIntoDraft : ByteArray := prog_5_method_2_code
def yX3_readIntoDraft : MethodName := ⟨RX3, "readIntoDraft", "()I"⟩
abbrev cX3_isWhole : ByteArray := prog_5_method_3_code
def yX3_isWhole : MethodName := ⟨RX3, "isWhole", "()Z"⟩
abbrev cX3_phaseBehind : ByteArray := prog_5_method_4_code
def yX3_phaseBehind : MethodName := ⟨RX3, "phaseBehind", "(I)I"⟩
abbrev cX3_readNodes : ByteArray := prog_5_method_5_code
def yX3_readNodes : MethodName := ⟨RX3, "readNodes", "(I)I"⟩
abbrev cX3_readFrom : ByteArray := prog_5_method_6_code
def yX3_readFrom : MethodName := ⟨RX3, "readFrom", "(I)I"⟩
abbrev cX3_readTo : ByteArray := prog_5_method_7_code
def yX3_readTo : MethodName := ⟨RX3, "readTo", "(I)I"⟩
abbrev cX3_readA : ByteArray := prog_5_method_8_code
def yX3_readA : MethodName := ⟨RX3, "readA", "(I)I"⟩
abbrev cX3_readMoreOfA : ByteArray := prog_5_method_9_code
def yX3_readMoreOfA : MethodName := ⟨RX3, "readMoreOfA", "(I)I"⟩
abbrev cX3_readB : ByteArray := prog_5_method_10_code
def yX3_readB : MethodName := ⟨RX3, "readB", "(I)I"⟩
def RX4 : String := "SelfishWays$Player"
def TX4 : u_T := fun k => match k with
  | 0 => ("SelfishWays$Player", "from", "I", false)
  | 1 => ("SelfishWays$Player", "to", "I", false)
  | 2 => ("SelfishWays$Player", "ways", "I", false)
  | 3 => ("SelfishWays$Player", "taken", "I", false)
  | 4 => ("SelfishWays$Player", "sizes", "[I", true)
  | 5 => ("SelfishWays$Player", "masks", "[I", true)
  | 6 => ("SelfishWays$Player", "roads", "[[I", true)
  | _ => ("SelfishWays$Player", "path", "[I", true)
def tyX4 : Nat → FieldType := fun k => match k with
  | 0 => .int
  | 1 => .int
  | 2 => .int
  | 3 => .int
  | 4 => .array .int
  | 5 => .array .int
  | 6 => .array (.array .int)
  | _ => .array .int
abbrev wsX40 : List Cond := u_ws RX4 TX4 8
theorem nmX4 : ∀ a, a < 8 → ∀ b, b < 8 → a ≠ b → (TX4 a).2.1 ≠ (TX4 b).2.1 := by decide +kernel
theorem tyX4_ok : ∀ k, k < 8 → parseFieldDescriptor (TX4 k).2.2.1 = some (tyX4 k) := by decide +kernel
abbrev cX4_init : ByteArray := prog_6_method_1_code
def yX4_init : MethodName := ⟨RX4, "<init>", "()V"⟩
abbrev cX4_findWays : ByteArray := prog_6_method_2_code
def yX4_findWays : MethodName := ⟨RX4, "findWays", "(LSelfishWays$Net;)V"⟩
abbrev cX4_extend : ByteArray := prog_6_method_3_code
def yX4_extend : MethodName := ⟨RX4, "extend", "(LSelfishWays$Net;LSelfishWays$Player;IIII)V"⟩
abbrev cX4_keepPath : ByteArray := prog_6_method_4_code
def yX4_keepPath : MethodName := ⟨RX4, "keepPath", "(I)V"⟩
def RX5 : String := "SelfishWays$Spread"
def TX5 : u_T := fun k => match k with
  | 0 => ("SelfishWays$Spread", "start", "I", false)
  | 1 => ("SelfishWays$Spread", "lastWave", "[I", true)
  | 2 => ("SelfishWays$Spread", "wave", "[I", false)
  | 3 => ("SelfishWays$Spread", "waveSize", "I", false)
  | 4 => ("SelfishWays$Spread", "nextWave", "[I", false)
  | _ => ("SelfishWays$Spread", "nextSize", "I", false)
def tyX5 : Nat → FieldType := fun k => match k with
  | 0 => .int
  | 1 => .array .int
  | 2 => .array .int
  | 3 => .int
  | 4 => .array .int
  | _ => .int
abbrev wsX50 : List Cond := u_ws RX5 TX5 6
theorem nmX5 : ∀ a, a < 6 → ∀ b, b < 6 → a ≠ b → (TX5 a).2.1 ≠ (TX5 b).2.1 := by decide +kernel
theorem tyX5_ok : ∀ k, k < 6 → parseFieldDescriptor (TX5 k).2.2.1 = some (tyX5 k) := by decide +kernel
abbrev cX5_init : ByteArray := prog_7_method_1_code
def yX5_init : MethodName := ⟨RX5, "<init>", "()V"⟩
abbrev cX5_begin : ByteArray := prog_7_method_2_code
def yX5_begin : MethodName := ⟨RX5, "begin", "(II)V"⟩
abbrev cX5_offer : ByteArray := prog_7_method_3_code
def yX5_offer : MethodName := ⟨RX5, "offer", "(II)V"⟩
abbrev cX5_goOn : ByteArray := prog_7_method_4_code
def yX5_goOn : MethodName := ⟨RX5, "goOn", "()V"⟩
abbrev cX5_isReached : ByteArray := prog_7_method_5_code
def yX5_isReached : MethodName := ⟨RX5, "isReached", "(I)Z"⟩
def RX6 : String := "SelfishWays$Traffic"
def TX6 : u_T := fun k => match k with
  | 0 => ("SelfishWays$Traffic", "net", "LSelfishWays$Net;", true)
  | 1 => ("SelfishWays$Traffic", "players", "[LSelfishWays$Player;", true)
  | 2 => ("SelfishWays$Traffic", "size", "I", false)
  | 3 => ("SelfishWays$Traffic", "tolls", "I", false)
  | 4 => ("SelfishWays$Traffic", "load", "[I", true)
  | 5 => ("SelfishWays$Traffic", "prices", "[[I", true)
  | _ => ("SelfishWays$Traffic", "kept", "[I", true)
def tyX6 : Nat → FieldType := fun k => match k with
  | 0 => .object "SelfishWays$Net"
  | 1 => .array (.object "SelfishWays$Player")
  | 2 => .int
  | 3 => .int
  | 4 => .array .int
  | 5 => .array (.array .int)
  | _ => .array .int
abbrev wsX60 : List Cond := u_ws RX6 TX6 7
theorem nmX6 : ∀ a, a < 7 → ∀ b, b < 7 → a ≠ b → (TX6 a).2.1 ≠ (TX6 b).2.1 := by decide +kernel
theorem tyX6_ok : ∀ k, k < 7 → parseFieldDescriptor (TX6 k).2.2.1 = some (tyX6 k) := by decide +kernel
abbrev cX6_init : ByteArray := prog_8_method_1_code
def yX6_init : MethodName := ⟨RX6, "<init>", "()V"⟩
abbrev cX6_beginOn : ByteArray := prog_8_method_2_code
def yX6_beginOn : MethodName := ⟨RX6, "beginOn", "(LSelfishWays$Net;)V"⟩
abbrev cX6_priceRoads : ByteArray := prog_8_method_3_code
def yX6_priceRoads : MethodName := ⟨RX6, "priceRoads", "()V"⟩
abbrev cX6_admit : ByteArray := prog_8_method_4_code
def yX6_admit : MethodName := ⟨RX6, "admit", "(II)Z"⟩
abbrev cX6_dismissLast : ByteArray := prog_8_method_5_code
def yX6_dismissLast : MethodName := ⟨RX6, "dismissLast", "()V"⟩
abbrev cX6_burden : ByteArray := prog_8_method_6_code
def yX6_burden : MethodName := ⟨RX6, "burden", "(LSelfishWays$Player;I)V"⟩
abbrev cX6_moveTo : ByteArray := prog_8_method_7_code
def yX6_moveTo : MethodName := ⟨RX6, "moveTo", "(LSelfishWays$Player;I)V"⟩
abbrev cX6_payBy : ByteArray := prog_8_method_8_code
def yX6_payBy : MethodName := ⟨RX6, "payBy", "(LSelfishWays$Player;I)I"⟩
abbrev cX6_bestWayOf : ByteArray := prog_8_method_9_code
def yX6_bestWayOf : MethodName := ⟨RX6, "bestWayOf", "(LSelfishWays$Player;)I"⟩
abbrev cX6_restsNow : ByteArray := prog_8_method_10_code
def yX6_restsNow : MethodName := ⟨RX6, "restsNow", "()Z"⟩
abbrev cX6_moveFirst : ByteArray := prog_8_method_11_code
def yX6_moveFirst : MethodName := ⟨RX6, "moveFirst", "(I)I"⟩
abbrev cX6_settleBehind : ByteArray := prog_8_method_12_code
def yX6_settleBehind : MethodName := ⟨RX6, "settleBehind", "(II)I"⟩
abbrev cX6_payIfLeading : ByteArray := prog_8_method_13_code
def yX6_payIfLeading : MethodName := ⟨RX6, "payIfLeading", "(II)I"⟩
abbrev cX6_bestLeadOf : ByteArray := prog_8_method_14_code
def yX6_bestLeadOf : MethodName := ⟨RX6, "bestLeadOf", "(I)I"⟩
abbrev cX6_keepSet : ByteArray := prog_8_method_15_code
def yX6_keepSet : MethodName := ⟨RX6, "keepSet", "()V"⟩
abbrev cX6_takeKeptSet : ByteArray := prog_8_method_16_code
def yX6_takeKeptSet : MethodName := ⟨RX6, "takeKeptSet", "()V"⟩
abbrev cX6_setsInAll : ByteArray := prog_8_method_17_code
def yX6_setsInAll : MethodName := ⟨RX6, "setsInAll", "()I"⟩
abbrev cX6_numberOfSet : ByteArray := prog_8_method_18_code
def yX6_numberOfSet : MethodName := ⟨RX6, "numberOfSet", "()I"⟩
abbrev cX6_takeSet : ByteArray := prog_8_method_19_code
def yX6_takeSet : MethodName := ⟨RX6, "takeSet", "(I)V"⟩
abbrev cX6_socialNow : ByteArray := prog_8_method_20_code
def yX6_socialNow : MethodName := ⟨RX6, "socialNow", "()I"⟩
abbrev cX6_potentialNow : ByteArray := prog_8_method_21_code
def yX6_potentialNow : MethodName := ⟨RX6, "potentialNow", "()I"⟩
abbrev cX6_greatestLoad : ByteArray := prog_8_method_22_code
def yX6_greatestLoad : MethodName := ⟨RX6, "greatestLoad", "()I"⟩
def RX7 : String := "SelfishWays"
def TX7 : u_T := fun k => match k with
  | 0 => ("SelfishWays", "page", "LSelfishWays$Page;", true)
  | 1 => ("SelfishWays", "traffic", "LSelfishWays$Traffic;", true)
  | 2 => ("SelfishWays", "allSets", "LSelfishWays$AllSets;", true)
  | 3 => ("SelfishWays", "lanes", "LSelfishWays$Lanes;", true)
  | 4 => ("SelfishWays", "netsRead", "I", false)
  | 5 => ("SelfishWays", "playersCame", "I", false)
  | _ => ("SelfishWays", "turnsTaken", "I", false)
def tyX7 : Nat → FieldType := fun k => match k with
  | 0 => .object "SelfishWays$Page"
  | 1 => .object "SelfishWays$Traffic"
  | 2 => .object "SelfishWays$AllSets"
  | 3 => .object "SelfishWays$Lanes"
  | 4 => .int
  | 5 => .int
  | _ => .int
abbrev wsX70 : List Cond := u_ws RX7 TX7 7
theorem nmX7 : ∀ a, a < 7 → ∀ b, b < 7 → a ≠ b → (TX7 a).2.1 ≠ (TX7 b).2.1 := by decide +kernel
theorem tyX7_ok : ∀ k, k < 7 → parseFieldDescriptor (TX7 k).2.2.1 = some (tyX7 k) := by decide +kernel
abbrev cX7_init : ByteArray := prog_1_method_1_code
def yX7_init : MethodName := ⟨RX7, "<init>", "()V"⟩
abbrev cX7_letter : ByteArray := prog_1_method_2_code
def yX7_letter : MethodName := ⟨RX7, "letter", "(I)I"⟩
abbrev cX7_blank : ByteArray := prog_1_method_3_code
def yX7_blank : MethodName := ⟨RX7, "blank", "()I"⟩
abbrev cX7_fault : ByteArray := prog_1_method_4_code
def yX7_fault : MethodName := ⟨RX7, "fault", "()I"⟩
abbrev cX7_net : ByteArray := prog_1_method_5_code
def yX7_net : MethodName := ⟨RX7, "net", "()I"⟩
abbrev cX7_about : ByteArray := prog_1_method_6_code
def yX7_about : MethodName := ⟨RX7, "about", "(I)I"⟩
abbrev cX7_road : ByteArray := prog_1_method_7_code
def yX7_road : MethodName := ⟨RX7, "road", "(II)I"⟩
abbrev cX7_put : ByteArray := prog_1_method_8_code
def yX7_put : MethodName := ⟨RX7, "put", "(III)I"⟩
abbrev cX7_mode : ByteArray := prog_1_method_9_code
def yX7_mode : MethodName := ⟨RX7, "mode", "(I)I"⟩
abbrev cX7_player : ByteArray := prog_1_method_10_code
def yX7_player : MethodName := ⟨RX7, "player", "(II)I"⟩
abbrev cX7_drop : ByteArray := prog_1_method_11_code
def yX7_drop : MethodName := ⟨RX7, "drop", "()I"⟩
abbrev cX7_who : ByteArray := prog_1_method_12_code
def yX7_who : MethodName := ⟨RX7, "who", "(II)I"⟩
abbrev cX7_way : ByteArray := prog_1_method_13_code
def yX7_way : MethodName := ⟨RX7, "way", "(III)I"⟩
abbrev cX7_pay : ByteArray := prog_1_method_14_code
def yX7_pay : MethodName := ⟨RX7, "pay", "(II)I"⟩
abbrev cX7_set : ByteArray := prog_1_method_15_code
def yX7_set : MethodName := ⟨RX7, "set", "(II)I"⟩
abbrev cX7_turn : ByteArray := prog_1_method_16_code
def yX7_turn : MethodName := ⟨RX7, "turn", "()I"⟩
abbrev cX7_run : ByteArray := prog_1_method_17_code
def yX7_run : MethodName := ⟨RX7, "run", "(I)I"⟩
abbrev cX7_rests : ByteArray := prog_1_method_18_code
def yX7_rests : MethodName := ⟨RX7, "rests", "(I)I"⟩
abbrev cX7_rest : ByteArray := prog_1_method_19_code
def yX7_rest : MethodName := ⟨RX7, "rest", "(II)I"⟩
abbrev cX7_go : ByteArray := prog_1_method_20_code
def yX7_go : MethodName := ⟨RX7, "go", "(I)I"⟩
abbrev cX7_best : ByteArray := prog_1_method_21_code
def yX7_best : MethodName := ⟨RX7, "best", "()I"⟩
abbrev cX7_price : ByteArray := prog_1_method_22_code
def yX7_price : MethodName := ⟨RX7, "price", "(I)I"⟩
abbrev cX7_reach : ByteArray := prog_1_method_23_code
def yX7_reach : MethodName := ⟨RX7, "reach", "(I)I"⟩
abbrev cX7_lead : ByteArray := prog_1_method_24_code
def yX7_lead : MethodName := ⟨RX7, "lead", "(II)I"⟩
abbrev cX7_leads : ByteArray := prog_1_method_25_code
def yX7_leads : MethodName := ⟨RX7, "leads", "(I)I"⟩
abbrev cX7_follow : ByteArray := prog_1_method_26_code
def yX7_follow : MethodName := ⟨RX7, "follow", "(I)I"⟩
abbrev cX7_lane : ByteArray := prog_1_method_27_code
def yX7_lane : MethodName := ⟨RX7, "lane", "(II)I"⟩
abbrev cX7_clear : ByteArray := prog_1_method_28_code
def yX7_clear : MethodName := ⟨RX7, "clear", "()I"⟩
abbrev cX7_stream : ByteArray := prog_1_method_29_code
def yX7_stream : MethodName := ⟨RX7, "stream", "(I)I"⟩
abbrev cX7_share : ByteArray := prog_1_method_30_code
def yX7_share : MethodName := ⟨RX7, "share", "(I)I"⟩
abbrev cX7_flow : ByteArray := prog_1_method_31_code
def yX7_flow : MethodName := ⟨RX7, "flow", "(III)I"⟩
abbrev cX7_level : ByteArray := prog_1_method_32_code
def yX7_level : MethodName := ⟨RX7, "level", "(I)I"⟩
abbrev cX7_total : ByteArray := prog_1_method_33_code
def yX7_total : MethodName := ⟨RX7, "total", "(I)I"⟩
abbrev cX7_worse : ByteArray := prog_1_method_34_code
def yX7_worse : MethodName := ⟨RX7, "worse", "(I)I"⟩
abbrev cX7_count : ByteArray := prog_1_method_35_code
def yX7_count : MethodName := ⟨RX7, "count", "(I)I"⟩
abbrev cX7_digest : ByteArray := prog_1_method_36_code
def yX7_digest : MethodName := ⟨RX7, "digest", "()J"⟩
abbrev cX7_mix : ByteArray := prog_1_method_37_code
def yX7_mix : MethodName := ⟨RX7, "mix", "(JJ)J"⟩
abbrev cX7_mixNet : ByteArray := prog_1_method_38_code
def yX7_mixNet : MethodName := ⟨RX7, "mixNet", "(J)J"⟩
abbrev cX7_mixPlayers : ByteArray := prog_1_method_39_code
def yX7_mixPlayers : MethodName := ⟨RX7, "mixPlayers", "(J)J"⟩
abbrev cX7_mixSets : ByteArray := prog_1_method_40_code
def yX7_mixSets : MethodName := ⟨RX7, "mixSets", "(J)J"⟩
abbrev cX7_mixLeads : ByteArray := prog_1_method_41_code
def yX7_mixLeads : MethodName := ⟨RX7, "mixLeads", "(J)J"⟩
abbrev cX7_mixLanes : ByteArray := prog_1_method_42_code
def yX7_mixLanes : MethodName := ⟨RX7, "mixLanes", "(J)J"⟩
abbrev cX7_within : ByteArray := prog_1_method_43_code
def yX7_within : MethodName := ⟨RX7, "within", "(III)Z"⟩
abbrev cX7_hasNet : ByteArray := prog_1_method_44_code
def yX7_hasNet : MethodName := ⟨RX7, "hasNet", "()Z"⟩
abbrev cX7_isRoad : ByteArray := prog_1_method_45_code
def yX7_isRoad : MethodName := ⟨RX7, "isRoad", "(I)Z"⟩
abbrev cX7_isPlayer : ByteArray := prog_1_method_46_code
def yX7_isPlayer : MethodName := ⟨RX7, "isPlayer", "(I)Z"⟩
abbrev cX7_isWay : ByteArray := prog_1_method_47_code
def yX7_isWay : MethodName := ⟨RX7, "isWay", "(II)Z"⟩
abbrev cX7_surveyed : ByteArray := prog_1_method_48_code
def yX7_surveyed : MethodName := ⟨RX7, "surveyed", "()Z"⟩
abbrev cX7_greatestDivisor : ByteArray := prog_1_method_49_code
def yX7_greatestDivisor : MethodName := ⟨RX7, "greatestDivisor", "(JJ)J"⟩
abbrev cX7_lowestAbove : ByteArray := prog_1_method_50_code
def yX7_lowestAbove : MethodName := ⟨RX7, "lowestAbove", "(JJ)I"⟩
abbrev cX7_lowestBelow : ByteArray := prog_1_method_51_code
def yX7_lowestBelow : MethodName := ⟨RX7, "lowestBelow", "(JJ)I"⟩
def RX8 : String := "SelfishWaysModel"
def TX8 : u_T := fun k => match k with
  | 0 => ("SelfishWaysModel", "nodes", "I", false)
  | 1 => ("SelfishWaysModel", "roads", "I", false)
  | 2 => ("SelfishWaysModel", "from", "[I", true)
  | 3 => ("SelfishWaysModel", "to", "[I", true)
  | 4 => ("SelfishWaysModel", "a", "[I", true)
  | 5 => ("SelfishWaysModel", "b", "[I", true)
  | 6 => ("SelfishWaysModel", "toll", "[I", true)
  | 7 => ("SelfishWaysModel", "tolls", "I", false)
  | 8 => ("SelfishWaysModel", "nets", "I", false)
  | 9 => ("SelfishWaysModel", "players", "I", false)
  | 10 => ("SelfishWaysModel", "start", "[I", true)
  | 11 => ("SelfishWaysModel", "end", "[I", true)
  | 12 => ("SelfishWaysModel", "ways", "[I", true)
  | 13 => ("SelfishWaysModel", "takes", "[I", true)
  | 14 => ("SelfishWaysModel", "length", "[I", true)
  | 15 => ("SelfishWaysModel", "roadAt", "[I", true)
  | 16 => ("SelfishWaysModel", "playersEver", "I", false)
  | 17 => ("SelfishWaysModel", "turnsEver", "I", false)
  | 18 => ("SelfishWaysModel", "lanes", "I", false)
  | 19 => ("SelfishWaysModel", "laneA", "[I", true)
  | 20 => ("SelfishWaysModel", "laneB", "[I", true)
  | 21 => ("SelfishWaysModel", "stream", "I", false)
  | 22 => ("SelfishWaysModel", "share", "I", false)
  | 23 => ("SelfishWaysModel", "pageLength", "I", false)
  | 24 => ("SelfishWaysModel", "page", "[I", true)
  | 25 => ("SelfishWaysModel", "stage", "I", false)
  | 26 => ("SelfishWaysModel", "newNodes", "I", false)
  | 27 => ("SelfishWaysModel", "newRoads", "I", false)
  | 28 => ("SelfishWaysModel", "newFrom", "[I", true)
  | 29 => ("SelfishWaysModel", "newTo", "[I", true)
  | 30 => ("SelfishWaysModel", "newA", "[I", true)
  | 31 => ("SelfishWaysModel", "newB", "[I", true)
  | 32 => ("SelfishWaysModel", "load", "[I", true)
  | 33 => ("SelfishWaysModel", "walk", "[I", true)
  | 34 => ("SelfishWaysModel", "kept", "[I", true)
  | 35 => ("SelfishWaysModel", "restMany", "I", false)
  | 36 => ("SelfishWaysModel", "restLeast", "I", false)
  | 37 => ("SelfishWaysModel", "restMost", "I", false)
  | 38 => ("SelfishWaysModel", "allLeast", "I", false)
  | 39 => ("SelfishWaysModel", "allPotential", "I", false)
  | 40 => ("SelfishWaysModel", "allMany", "I", false)
  | 41 => ("SelfishWaysModel", "allFirst", "I", false)
  | 42 => ("SelfishWaysModel", "chain", "[I", true)
  | 43 => ("SelfishWaysModel", "next", "[I", true)
  | 44 => ("SelfishWaysModel", "depth", "[I", true)
  | 45 => ("SelfishWaysModel", "levelAbove", "J", false)
  | 46 => ("SelfishWaysModel", "levelBelow", "J", false)
  | 47 => ("SelfishWaysModel", "base", "[J", true)
  | 48 => ("SelfishWaysModel", "even", "[J", true)
  | 49 => ("SelfishWaysModel", "evenBelow", "J", false)
  | 50 => ("SelfishWaysModel", "wise", "[J", true)
  | 51 => ("SelfishWaysModel", "wiseBelow", "J", false)
  | 52 => ("SelfishWaysModel", "led", "[J", true)
  | 53 => ("SelfishWaysModel", "ledBelow", "J", false)
  | 54 => ("SelfishWaysModel", "leader", "[J", true)
  | 55 => ("SelfishWaysModel", "leaderBelow", "J", false)
  | _ => ("SelfishWaysModel", "h", "J", false)
def tyX8 : Nat → FieldType := fun k => match k with
  | 0 => .int
  | 1 => .int
  | 2 => .array .int
  | 3 => .array .int
  | 4 => .array .int
  | 5 => .array .int
  | 6 => .array .int
  | 7 => .int
  | 8 => .int
  | 9 => .int
  | 10 => .array .int
  | 11 => .array .int
  | 12 => .array .int
  | 13 => .array .int
  | 14 => .array .int
  | 15 => .array .int
  | 16 => .int
  | 17 => .int
  | 18 => .int
  | 19 => .array .int
  | 20 => .array .int
  | 21 => .int
  | 22 => .int
  | 23 => .int
  | 24 => .array .int
  | 25 => .int
  | 26 => .int
  | 27 => .int
  | 28 => .array .int
  | 29 => .array .int
  | 30 => .array .int
  | 31 => .array .int
  | 32 => .array .int
  | 33 => .array .int
  | 34 => .array .int
  | 35 => .int
  | 36 => .int
  | 37 => .int
  | 38 => .int
  | 39 => .int
  | 40 => .int
  | 41 => .int
  | 42 => .array .int
  | 43 => .array .int
  | 44 => .array .int
  | 45 => .long
  | 46 => .long
  | 47 => .array .long
  | 48 => .array .long
  | 49 => .long
  | 50 => .array .long
  | 51 => .long
  | 52 => .array .long
  | 53 => .long
  | 54 => .array .long
  | 55 => .long
  | _ => .long
abbrev wsX80 : List Cond := u_ws RX8 TX8 57
theorem nmX8 : ∀ a, a < 57 → ∀ b, b < 57 → a ≠ b → (TX8 a).2.1 ≠ (TX8 b).2.1 := by decide +kernel
theorem tyX8_ok : ∀ k, k < 57 → parseFieldDescriptor (TX8 k).2.2.1 = some (tyX8 k) := by decide +kernel
abbrev cX8_init : ByteArray := prog_10_method_1_code
def yX8_init : MethodName := ⟨RX8, "<init>", "()V"⟩
abbrev cX8_within : ByteArray := prog_10_method_3_code
def yX8_within : MethodName := ⟨RX8, "within", "(III)Z"⟩
abbrev cX8_letter : ByteArray := prog_10_method_4_code
def yX8_letter : MethodName := ⟨RX8, "letter", "(I)I"⟩
abbrev cX8_blank : ByteArray := prog_10_method_5_code
def yX8_blank : MethodName := ⟨RX8, "blank", "()I"⟩
abbrev cX8_goes : ByteArray := prog_10_method_6_code
def yX8_goes : MethodName := ⟨RX8, "goes", "(ZI)Z"⟩
abbrev cX8_takesEnd : ByteArray := prog_10_method_7_code
def yX8_takesEnd : MethodName := ⟨RX8, "takesEnd", "(I)Z"⟩
abbrev cX8_takesA : ByteArray := prog_10_method_8_code
def yX8_takesA : MethodName := ⟨RX8, "takesA", "(I)Z"⟩
abbrev cX8_takesB : ByteArray := prog_10_method_9_code
def yX8_takesB : MethodName := ⟨RX8, "takesB", "(I)Z"⟩
abbrev cX8_takesLetter : ByteArray := prog_10_method_10_code
def yX8_takesLetter : MethodName := ⟨RX8, "takesLetter", "(I)Z"⟩
abbrev cX8_read : ByteArray := prog_10_method_11_code
def yX8_read : MethodName := ⟨RX8, "read", "()I"⟩
abbrev cX8_fault : ByteArray := prog_10_method_12_code
def yX8_fault : MethodName := ⟨RX8, "fault", "()I"⟩
abbrev cX8_net : ByteArray := prog_10_method_13_code
def yX8_net : MethodName := ⟨RX8, "net", "()I"⟩
abbrev cX8_isNet : ByteArray := prog_10_method_14_code
def yX8_isNet : MethodName := ⟨RX8, "isNet", "()Z"⟩
abbrev cX8_layLoad : ByteArray := prog_10_method_15_code
def yX8_layLoad : MethodName := ⟨RX8, "layLoad", "()V"⟩
abbrev cX8_addWay : ByteArray := prog_10_method_16_code
def yX8_addWay : MethodName := ⟨RX8, "addWay", "(III)V"⟩
abbrev cX8_roadOf : ByteArray := prog_10_method_17_code
def yX8_roadOf : MethodName := ⟨RX8, "roadOf", "(III)I"⟩
abbrev cX8_payAt : ByteArray := prog_10_method_18_code
def yX8_payAt : MethodName := ⟨RX8, "payAt", "(II)I"⟩
abbrev cX8_payNow : ByteArray := prog_10_method_19_code
def yX8_payNow : MethodName := ⟨RX8, "payNow", "(II)I"⟩
abbrev cX8_payOf : ByteArray := prog_10_method_20_code
def yX8_payOf : MethodName := ⟨RX8, "payOf", "(II)I"⟩
abbrev cX8_socialNow : ByteArray := prog_10_method_21_code
def yX8_socialNow : MethodName := ⟨RX8, "socialNow", "()I"⟩
abbrev cX8_potentialNow : ByteArray := prog_10_method_22_code
def yX8_potentialNow : MethodName := ⟨RX8, "potentialNow", "()I"⟩
abbrev cX8_bestWay : ByteArray := prog_10_method_23_code
def yX8_bestWay : MethodName := ⟨RX8, "bestWay", "(I)I"⟩
abbrev cX8_restless : ByteArray := prog_10_method_24_code
def yX8_restless : MethodName := ⟨RX8, "restless", "(I)I"⟩
abbrev cX8_setsAll : ByteArray := prog_10_method_25_code
def yX8_setsAll : MethodName := ⟨RX8, "setsAll", "()I"⟩
abbrev cX8_greatestLoad : ByteArray := prog_10_method_26_code
def yX8_greatestLoad : MethodName := ⟨RX8, "greatestLoad", "()I"⟩
abbrev cX8_aboutNow : ByteArray := prog_10_method_27_code
def yX8_aboutNow : MethodName := ⟨RX8, "aboutNow", "(I)I"⟩
abbrev cX8_about : ByteArray := prog_10_method_28_code
def yX8_about : MethodName := ⟨RX8, "about", "(I)I"⟩
abbrev cX8_isRoad : ByteArray := prog_10_method_29_code
def yX8_isRoad : MethodName := ⟨RX8, "isRoad", "(I)Z"⟩
abbrev cX8_roadNow : ByteArray := prog_10_method_30_code
def yX8_roadNow : MethodName := ⟨RX8, "roadNow", "(II)I"⟩
abbrev cX8_road : ByteArray := prog_10_method_31_code
def yX8_road : MethodName := ⟨RX8, "road", "(II)I"⟩
abbrev cX8_put : ByteArray := prog_10_method_32_code
def yX8_put : MethodName := ⟨RX8, "put", "(III)I"⟩
abbrev cX8_mode : ByteArray := prog_10_method_33_code
def yX8_mode : MethodName := ⟨RX8, "mode", "(I)I"⟩
abbrev cX8_goesOn : ByteArray := prog_10_method_34_code
def yX8_goesOn : MethodName := ⟨RX8, "goesOn", "(III)Z"⟩
abbrev cX8_layWays : ByteArray := prog_10_method_35_code
def yX8_layWays : MethodName := ⟨RX8, "layWays", "(IIIII)I"⟩
abbrev cX8_keepWay : ByteArray := prog_10_method_36_code
def yX8_keepWay : MethodName := ⟨RX8, "keepWay", "(III)V"⟩
abbrev cX8_leastPay : ByteArray := prog_10_method_37_code
def yX8_leastPay : MethodName := ⟨RX8, "leastPay", "(I)I"⟩
abbrev cX8_isNode : ByteArray := prog_10_method_38_code
def yX8_isNode : MethodName := ⟨RX8, "isNode", "(I)Z"⟩
abbrev cX8_player : ByteArray := prog_10_method_39_code
def yX8_player : MethodName := ⟨RX8, "player", "(II)I"⟩
abbrev cX8_drop : ByteArray := prog_10_method_40_code
def yX8_drop : MethodName := ⟨RX8, "drop", "()I"⟩
abbrev cX8_isPlayer : ByteArray := prog_10_method_41_code
def yX8_isPlayer : MethodName := ⟨RX8, "isPlayer", "(I)Z"⟩
abbrev cX8_isWay : ByteArray := prog_10_method_42_code
def yX8_isWay : MethodName := ⟨RX8, "isWay", "(II)Z"⟩
abbrev cX8_whoNow : ByteArray := prog_10_method_43_code
def yX8_whoNow : MethodName := ⟨RX8, "whoNow", "(II)I"⟩
abbrev cX8_who : ByteArray := prog_10_method_44_code
def yX8_who : MethodName := ⟨RX8, "who", "(II)I"⟩
abbrev cX8_way : ByteArray := prog_10_method_45_code
def yX8_way : MethodName := ⟨RX8, "way", "(III)I"⟩
abbrev cX8_pay : ByteArray := prog_10_method_46_code
def yX8_pay : MethodName := ⟨RX8, "pay", "(II)I"⟩
abbrev cX8_set : ByteArray := prog_10_method_47_code
def yX8_set : MethodName := ⟨RX8, "set", "(II)I"⟩
abbrev cX8_turnOf : ByteArray := prog_10_method_48_code
def yX8_turnOf : MethodName := ⟨RX8, "turnOf", "(I)I"⟩
abbrev cX8_turn : ByteArray := prog_10_method_49_code
def yX8_turn : MethodName := ⟨RX8, "turn", "()I"⟩
abbrev cX8_run : ByteArray := prog_10_method_50_code
def yX8_run : MethodName := ⟨RX8, "run", "(I)I"⟩
abbrev cX8_keep : ByteArray := prog_10_method_51_code
def yX8_keep : MethodName := ⟨RX8, "keep", "()V"⟩
abbrev cX8_putBack : ByteArray := prog_10_method_52_code
def yX8_putBack : MethodName := ⟨RX8, "putBack", "()V"⟩
abbrev cX8_take : ByteArray := prog_10_method_53_code
def yX8_take : MethodName := ⟨RX8, "take", "(I)V"⟩
abbrev cX8_numberNow : ByteArray := prog_10_method_54_code
def yX8_numberNow : MethodName := ⟨RX8, "numberNow", "()I"⟩
abbrev cX8_isCounted : ByteArray := prog_10_method_55_code
def yX8_isCounted : MethodName := ⟨RX8, "isCounted", "()Z"⟩
abbrev cX8_beginRests : ByteArray := prog_10_method_56_code
def yX8_beginRests : MethodName := ⟨RX8, "beginRests", "()V"⟩
abbrev cX8_layRests : ByteArray := prog_10_method_57_code
def yX8_layRests : MethodName := ⟨RX8, "layRests", "()V"⟩
abbrev cX8_restsNow : ByteArray := prog_10_method_58_code
def yX8_restsNow : MethodName := ⟨RX8, "restsNow", "(I)I"⟩
abbrev cX8_rests : ByteArray := prog_10_method_59_code
def yX8_rests : MethodName := ⟨RX8, "rests", "(I)I"⟩
abbrev cX8_restAt : ByteArray := prog_10_method_60_code
def yX8_restAt : MethodName := ⟨RX8, "restAt", "(I)I"⟩
abbrev cX8_rest : ByteArray := prog_10_method_61_code
def yX8_rest : MethodName := ⟨RX8, "rest", "(II)I"⟩
abbrev cX8_go : ByteArray := prog_10_method_62_code
def yX8_go : MethodName := ⟨RX8, "go", "(I)I"⟩
abbrev cX8_best : ByteArray := prog_10_method_63_code
def yX8_best : MethodName := ⟨RX8, "best", "()I"⟩
abbrev cX8_common : ByteArray := prog_10_method_64_code
def yX8_common : MethodName := ⟨RX8, "common", "(JJ)J"⟩
abbrev cX8_part : ByteArray := prog_10_method_65_code
def yX8_part : MethodName := ⟨RX8, "part", "(JJI)I"⟩
abbrev cX8_priceNow : ByteArray := prog_10_method_66_code
def yX8_priceNow : MethodName := ⟨RX8, "priceNow", "(I)I"⟩
abbrev cX8_price : ByteArray := prog_10_method_67_code
def yX8_price : MethodName := ⟨RX8, "price", "(I)I"⟩
abbrev cX8_layChains : ByteArray := prog_10_method_68_code
def yX8_layChains : MethodName := ⟨RX8, "layChains", "()V"⟩
abbrev cX8_spread : ByteArray := prog_10_method_69_code
def yX8_spread : MethodName := ⟨RX8, "spread", "(I)V"⟩
abbrev cX8_reachNow : ByteArray := prog_10_method_70_code
def yX8_reachNow : MethodName := ⟨RX8, "reachNow", "(I)I"⟩
abbrev cX8_reach : ByteArray := prog_10_method_71_code
def yX8_reach : MethodName := ⟨RX8, "reach", "(I)I"⟩
abbrev cX8_ledBy : ByteArray := prog_10_method_72_code
def yX8_ledBy : MethodName := ⟨RX8, "ledBy", "(II)I"⟩
abbrev cX8_leadNow : ByteArray := prog_10_method_73_code
def yX8_leadNow : MethodName := ⟨RX8, "leadNow", "(II)I"⟩
abbrev cX8_lead : ByteArray := prog_10_method_74_code
def yX8_lead : MethodName := ⟨RX8, "lead", "(II)I"⟩
abbrev cX8_leadsBy : ByteArray := prog_10_method_75_code
def yX8_leadsBy : MethodName := ⟨RX8, "leadsBy", "(I)I"⟩
abbrev cX8_leads : ByteArray := prog_10_method_76_code
def yX8_leads : MethodName := ⟨RX8, "leads", "(I)I"⟩
abbrev cX8_follow : ByteArray := prog_10_method_77_code
def yX8_follow : MethodName := ⟨RX8, "follow", "(I)I"⟩
abbrev cX8_lane : ByteArray := prog_10_method_78_code
def yX8_lane : MethodName := ⟨RX8, "lane", "(II)I"⟩
abbrev cX8_clear : ByteArray := prog_10_method_79_code
def yX8_clear : MethodName := ⟨RX8, "clear", "()I"⟩
abbrev cX8_stream : ByteArray := prog_10_method_80_code
def yX8_stream : MethodName := ⟨RX8, "stream", "(I)I"⟩
abbrev cX8_share : ByteArray := prog_10_method_81_code
def yX8_share : MethodName := ⟨RX8, "share", "(I)I"⟩
abbrev cX8_weight : ByteArray := prog_10_method_82_code
def yX8_weight : MethodName := ⟨RX8, "weight", "(I)I"⟩
abbrev cX8_isLevel : ByteArray := prog_10_method_83_code
def yX8_isLevel : MethodName := ⟨RX8, "isLevel", "(IJJI)Z"⟩
abbrev cX8_findLevel : ByteArray := prog_10_method_84_code
def yX8_findLevel : MethodName := ⟨RX8, "findLevel", "(JJI)I"⟩
abbrev cX8_layEven : ByteArray := prog_10_method_85_code
def yX8_layEven : MethodName := ⟨RX8, "layEven", "()V"⟩
abbrev cX8_layWise : ByteArray := prog_10_method_86_code
def yX8_layWise : MethodName := ⟨RX8, "layWise", "()V"⟩
abbrev cX8_wiseCost : ByteArray := prog_10_method_87_code
def yX8_wiseCost : MethodName := ⟨RX8, "wiseCost", "(I)J"⟩
abbrev cX8_costsMore : ByteArray := prog_10_method_88_code
def yX8_costsMore : MethodName := ⟨RX8, "costsMore", "(II)Z"⟩
abbrev cX8_dearest : ByteArray := prog_10_method_89_code
def yX8_dearest : MethodName := ⟨RX8, "dearest", "(I)I"⟩
abbrev cX8_layLeader : ByteArray := prog_10_method_90_code
def yX8_layLeader : MethodName := ⟨RX8, "layLeader", "()V"⟩
abbrev cX8_layLed : ByteArray := prog_10_method_91_code
def yX8_layLed : MethodName := ⟨RX8, "layLed", "()V"⟩
abbrev cX8_layFlow : ByteArray := prog_10_method_92_code
def yX8_layFlow : MethodName := ⟨RX8, "layFlow", "(I)V"⟩
abbrev cX8_amountOf : ByteArray := prog_10_method_93_code
def yX8_amountOf : MethodName := ⟨RX8, "amountOf", "(II)J"⟩
abbrev cX8_belowOf : ByteArray := prog_10_method_94_code
def yX8_belowOf : MethodName := ⟨RX8, "belowOf", "(I)J"⟩
abbrev cX8_flowNow : ByteArray := prog_10_method_95_code
def yX8_flowNow : MethodName := ⟨RX8, "flowNow", "(III)I"⟩
abbrev cX8_flow : ByteArray := prog_10_method_96_code
def yX8_flow : MethodName := ⟨RX8, "flow", "(III)I"⟩
abbrev cX8_levelNow : ByteArray := prog_10_method_97_code
def yX8_levelNow : MethodName := ⟨RX8, "levelNow", "(I)I"⟩
abbrev cX8_level : ByteArray := prog_10_method_98_code
def yX8_level : MethodName := ⟨RX8, "level", "(I)I"⟩
abbrev cX8_totalNow : ByteArray := prog_10_method_99_code
def yX8_totalNow : MethodName := ⟨RX8, "totalNow", "(I)I"⟩
abbrev cX8_total : ByteArray := prog_10_method_100_code
def yX8_total : MethodName := ⟨RX8, "total", "(I)I"⟩
abbrev cX8_worse : ByteArray := prog_10_method_101_code
def yX8_worse : MethodName := ⟨RX8, "worse", "(I)I"⟩
abbrev cX8_howMany : ByteArray := prog_10_method_102_code
def yX8_howMany : MethodName := ⟨RX8, "howMany", "(I)I"⟩
abbrev cX8_count : ByteArray := prog_10_method_103_code
def yX8_count : MethodName := ⟨RX8, "count", "(I)I"⟩
abbrev cX8_mix : ByteArray := prog_10_method_104_code
def yX8_mix : MethodName := ⟨RX8, "mix", "(J)V"⟩
abbrev cX8_mixPlayer : ByteArray := prog_10_method_105_code
def yX8_mixPlayer : MethodName := ⟨RX8, "mixPlayer", "(I)V"⟩
abbrev cX8_mixNet : ByteArray := prog_10_method_106_code
def yX8_mixNet : MethodName := ⟨RX8, "mixNet", "()V"⟩
abbrev cX8_mixSets : ByteArray := prog_10_method_107_code
def yX8_mixSets : MethodName := ⟨RX8, "mixSets", "()V"⟩
abbrev cX8_mixLeads : ByteArray := prog_10_method_108_code
def yX8_mixLeads : MethodName := ⟨RX8, "mixLeads", "()V"⟩
abbrev cX8_mixLanes : ByteArray := prog_10_method_109_code
def yX8_mixLanes : MethodName := ⟨RX8, "mixLanes", "()V"⟩
abbrev cX8_digest : ByteArray := prog_10_method_110_code
def yX8_digest : MethodName := ⟨RX8, "digest", "()J"⟩
def RJ9 : String := "java/lang/Math"
def TJ9 : u_T := fun k => match k with
  | _ => ("", "", "", false)
def tyJ9 : Nat → FieldType := fun k => match k with
  | _ => .int
abbrev wsJ90 : List Cond := u_ws RJ9 TJ9 0
theorem nmJ9 : ∀ a, a < 0 → ∀ b, b < 0 → a ≠ b → (TJ9 a).2.1 ≠ (TJ9 b).2.1 := by decide +kernel
theorem tyJ9_ok : ∀ k, k < 0 → parseFieldDescriptor (TJ9 k).2.2.1 = some (tyJ9 k) := by decide +kernel
abbrev cJ9_max_7cf53 : ByteArray := prog_11_method_65_code
def yJ9_max_7cf53 : MethodName := ⟨RJ9, "max", "(II)I"⟩
abbrev cJ9_min_7cf53 : ByteArray := prog_11_method_69_code
def yJ9_min_7cf53 : MethodName := ⟨RJ9, "min", "(II)I"⟩
abbrev cJ9_min_f86c9 : ByteArray := prog_11_method_70_code
def yJ9_min_f86c9 : MethodName := ⟨RJ9, "min", "(JJ)J"⟩
def RL : String := "SelfishWaysLaw"
abbrev cL_law : ByteArray := code
def yL_law : MethodName := ⟨RL, "law", "([I)Z"⟩
abbrev vwCl : List vw_C := [(RX0, TX0, 19), (RX1, TX1, 15), (RX2, TX2, 7), (RX3, TX3, 4), (RX4, TX4, 8), (RX5, TX5, 6), (RX6, TX6, 7), (RX7, TX7, 7), (RX8, TX8, 57)]
end
section
/-! THE SMALL MACHINE: numbers, memory, layout, worlds -/
abbrev mm_M : Type := Nat → Nat → Int
abbrev mm_V : Type := Int ⊕ (Int ⊕ Nat)
abbrev mm_L : Type := List (Option mm_V)
abbrev mm_F : Type := List mm_V → mm_M → (Option mm_V → mm_M → Prop) → Prop
def mm_up (M : mm_M) (q k : Nat) (z : Int) : mm_M := fun a i => if a = q then (if i = k then z else M a i) else M a i
def mm_w (z : Int) : Int := Int.bmod z 4294967296
def mm_wl (z : Int) : Int := Int.bmod z 18446744073709551616
def mm_R (z : Int) : Prop := -2147483648 ≤ z ∧ z < 2147483648
def mm_RL (z : Int) : Prop := -9223372036854775808 ≤ z ∧ z < 9223372036854775808
def mm_and (x y : Int) : Int := (Int32.ofInt x &&& Int32.ofInt y).toInt
def mm_or (x y : Int) : Int := (Int32.ofInt x ||| Int32.ofInt y).toInt
def mm_shl (x y : Int) : Int := (Int32.ofInt x <<< (Int32.ofInt y &&& 31)).toInt
def mm_shr (x y : Int) : Int := (Int32.ofInt x >>> (Int32.ofInt y &&& 31)).toInt
def mm_div (x y : Int) : Int := mm_w (x.tdiv y)
def mm_rem (x y : Int) : Int := x.tmod y
def mm_divl (x y : Int) : Int := mm_wl (x.tdiv y)
def mm_reml (x y : Int) : Int := x.tmod y
def mm_cmp (x y : Int) : Int := if y < x then 1 else if x = y then 0 else -1
def mm_chk (b : Bool) (P : Prop) : Prop := match b with
  | true => P
  | false => False
theorem mm_chk_e {b : Bool} {P : Prop} (h : mm_chk b P) : b = true ∧ P := by
  cases b
  · exact h.elim
  · exact ⟨rfl, h⟩
theorem mm_chk_i {b : Bool} {P : Prop} (hb : b = true) (h : P) : mm_chk b P := by
  subst hb; exact h
theorem mm_w_R (z : Int) : mm_R (mm_w z) := by
  unfold mm_R mm_w
  have h1 := Int.le_bmod (x := z) (m := 4294967296) (by decide)
  have h2 := Int.bmod_lt (x := z) (m := 4294967296) (by decide)
  omega
theorem mm_wl_R (z : Int) : mm_RL (mm_wl z) := by
  unfold mm_RL mm_wl
  have h1 := Int.le_bmod (x := z) (m := 18446744073709551616) (by decide)
  have h2 := Int.bmod_lt (x := z) (m := 18446744073709551616) (by decide)
  omega
theorem mm_w_id {z : Int} (h1 : -2147483648 ≤ z) (h2 : z < 2147483648) : mm_w z = z := by
  unfold mm_w
  exact Int.bmod_eq_of_le (by omega) (by omega)
theorem mm_wl_id {z : Int} (h1 : -9223372036854775808 ≤ z) (h2 : z < 9223372036854775808) : mm_wl z = z := by
  unfold mm_wl
  exact Int.bmod_eq_of_le (by omega) (by omega)
theorem mm_t {z : Int} (h : mm_R z) : (Int32.ofInt z).toInt = z := Int32.toInt_ofInt_of_le h.1 h.2
theorem mm_tl {z : Int} (h : mm_RL z) : (Int64.ofInt z).toInt = z := Int64.toInt_ofInt_of_le h.1 h.2
theorem mm_ofw (z : Int) : Int32.ofInt (mm_w z) = Int32.ofInt z := by
  rw [← Int32.toInt_inj, Int32.toInt_ofInt, Int32.toInt_ofInt]
  unfold mm_w
  exact Int.bmod_bmod
theorem mm_ofwl (z : Int) : Int64.ofInt (mm_wl z) = Int64.ofInt z := by
  rw [← Int64.toInt_inj, Int64.toInt_ofInt, Int64.toInt_ofInt]
  unfold mm_wl
  exact Int.bmod_bmod
theorem mm_toR (x : Int32) : mm_R x.toInt := ⟨Int32.le_toInt x, Int32.toInt_lt x⟩
theorem mm_toRL (x : Int64) : mm_RL x.toInt := ⟨Int64.le_toInt x, Int64.toInt_lt x⟩
theorem mm_tmod_R {x y : Int} (h : mm_R x) : mm_R (x.tmod y) := by
  unfold mm_R at *
  have h1 : (x.tmod y).natAbs ≤ x.natAbs := by rw [Int.natAbs_tmod]; exact Nat.mod_le _ _
  rcases Int.le_total 0 x with q | q
  · have := Int.tmod_nonneg y q
    omega
  · have h2 : (x.tmod y) ≤ 0 := by
      have := Int.tmod_nonneg y (show 0 ≤ -x by omega)
      rw [Int.neg_tmod] at this
      omega
    omega
theorem mm_tmod_RL {x y : Int} (h : mm_RL x) : mm_RL (x.tmod y) := by
  unfold mm_RL at *
  have h1 : (x.tmod y).natAbs ≤ x.natAbs := by rw [Int.natAbs_tmod]; exact Nat.mod_le _ _
  rcases Int.le_total 0 x with q | q
  · have := Int.tmod_nonneg y q
    omega
  · have h2 : (x.tmod y) ≤ 0 := by
      have := Int.tmod_nonneg y (show 0 ≤ -x by omega)
      rw [Int.neg_tmod] at this
      omega
    omega
theorem mm_rem_eq {x y : Int} (hx : mm_R x) (hy : mm_R y) : Int32.ofInt x - Int32.ofInt x / Int32.ofInt y * Int32.ofInt y = Int32.ofInt (x.tmod y) := by
  rw [← Int32.ofInt_tdiv (by exact hx.1) (by have := hx.2; show x ≤ 2147483647; omega) (by exact hy.1) (by have := hy.2; show y ≤ 2147483647; omega), ← Int32.ofInt_mul, ← Int32.ofInt_sub, Int.tmod_def, Int.mul_comm]
theorem mm_reml_eq {x y : Int} (hx : mm_RL x) (hy : mm_RL y) : Int64.ofInt x - Int64.ofInt x / Int64.ofInt y * Int64.ofInt y = Int64.ofInt (x.tmod y) := by
  rw [← Int64.ofInt_tdiv (by exact hx.1) (by have := hx.2; show x ≤ 9223372036854775807; omega) (by exact hy.1) (by have := hy.2; show y ≤ 9223372036854775807; omega), ← Int64.ofInt_mul, ← Int64.ofInt_sub, Int.tmod_def, Int.mul_comm]
theorem mm_div_eq {x y : Int} (hx : mm_R x) (hy : mm_R y) : Int32.ofInt x / Int32.ofInt y = Int32.ofInt (mm_div x y) := by
  unfold mm_div
  rw [mm_ofw, ← Int32.ofInt_tdiv (by exact hx.1) (by have := hx.2; show x ≤ 2147483647; omega) (by exact hy.1) (by have := hy.2; show y ≤ 2147483647; omega)]
theorem mm_divl_eq {x y : Int} (hx : mm_RL x) (hy : mm_RL y) : Int64.ofInt x / Int64.ofInt y = Int64.ofInt (mm_divl x y) := by
  unfold mm_divl
  rw [mm_ofwl, ← Int64.ofInt_tdiv (by exact hx.1) (by have := hx.2; show x ≤ 9223372036854775807; omega) (by exact hy.1) (by have := hy.2; show y ≤ 9223372036854775807; omega)]
theorem mm_lt {x y : Int} (hx : mm_R x) (hy : mm_R y) : Int32.ofInt x < Int32.ofInt y ↔ x < y := by
  rw [Int32.lt_iff_toInt_lt, mm_t hx, mm_t hy]
theorem mm_le {x y : Int} (hx : mm_R x) (hy : mm_R y) : Int32.ofInt x ≤ Int32.ofInt y ↔ x ≤ y := by
  rw [Int32.le_iff_toInt_le, mm_t hx, mm_t hy]
theorem mm_eq {x y : Int} (hx : mm_R x) (hy : mm_R y) : Int32.ofInt x = Int32.ofInt y ↔ x = y := by
  rw [← Int32.toInt_inj, mm_t hx, mm_t hy]
theorem mm_eql {x y : Int} (hx : mm_RL x) (hy : mm_RL y) : Int64.ofInt x = Int64.ofInt y ↔ x = y := by
  rw [← Int64.toInt_inj, mm_tl hx, mm_tl hy]
theorem mm_R0 : mm_R 0 := ⟨by decide, by decide⟩
theorem mm_RL0 : mm_RL 0 := ⟨by decide, by decide⟩
theorem mm_of0 : Int32.ofInt 0 = 0 := rfl
theorem mm_of0l : Int64.ofInt 0 = 0 := rfl
theorem mm_cmp_eq {x y : Int} (hx : mm_RL x) (hy : mm_RL y) : lg_cmp (Int64.ofInt x) (Int64.ofInt y) = Int32.ofInt (mm_cmp x y) := by
  unfold lg_cmp mm_cmp
  simp only [gt_iff_lt, Int64.lt_iff_toInt_lt, mm_tl hx, mm_tl hy, mm_eql hx hy]
  split
  · rfl
  · split <;> rfl
theorem mm_cmp_R (x y : Int) : mm_R (mm_cmp x y) := by
  unfold mm_cmp mm_R
  split
  · omega
  · split <;> omega
theorem mm_in_ok {x : Int} {n : Nat} (hx : mm_R x) (h : 0 ≤ x ∧ x < (n : Int)) : vp_in (Int32.ofInt x) n := vp_in_iff.mpr (by rw [mm_t hx]; exact h)
theorem mm_cl {x : Int} (hx : mm_R x) : (Int32.ofInt x).toNatClampNeg = x.toNat := Int32.toNatClampNeg_ofInt_of_le hx.1 hx.2
/-! values -/
def mm_rv (ad : Nat → Nat) : mm_V → Value
  | .inl z => .int (Int32.ofInt z)
  | .inr (.inl z) => .long (Int64.ofInt z)
  | .inr (.inr q) => .ref (ad q)
def mm_N : mm_V → Prop
  | .inl z => mm_R z
  | .inr (.inl z) => mm_RL z
  | .inr (.inr _) => True
def mm_cat : mm_V → Nat
  | .inr (.inl _) => 2
  | _ => 1
theorem mm_cat_eq (ad : Nat → Nat) (v : mm_V) : (mm_rv ad v).category = mm_cat v := by
  rcases v with z | z | q <;> rfl
def mm_cs : List mm_V → Nat
  | [] => 0
  | v :: l => mm_cat v + mm_cs l
theorem mm_cs_eq (ad : Nat → Nat) : ∀ l : List mm_V, ((l.map (mm_rv ad)).map fun v => v.category).sum = mm_cs l
  | [] => rfl
  | v :: l => by
    show ((mm_rv ad v).category :: ((l.map (mm_rv ad)).map fun v => v.category)).sum = _
    rw [List.sum_cons, mm_cat_eq, mm_cs_eq ad l]
    rfl
/-! locals -/
def mm_lv (ad : Nat → Nat) (ls : mm_L) : List (Nat × Value) := (List.range ls.length).filterMap (fun k => (ls[k]?.join).map (fun v => (k, mm_rv ad v)))
theorem mm_lv_mem {ad : Nat → Nat} {ls : mm_L} {k : Nat} {w : Value} : (k, w) ∈ mm_lv ad ls ↔ ∃ v, ls[k]? = some (some v) ∧ w = mm_rv ad v := by
  unfold mm_lv
  rw [List.mem_filterMap]
  constructor
  · rintro ⟨i, -, h⟩
    cases hj : ls[i]? with
    | none => rw [hj] at h; cases h
    | some o =>
      cases o with
      | none => rw [hj] at h; cases h
      | some v =>
        rw [hj] at h
        cases h
        exact ⟨v, hj, rfl⟩
  · rintro ⟨v, h, rfl⟩
    refine ⟨k, List.mem_range.mpr (List.getElem?_eq_some_iff.mp h).1, ?_⟩
    rw [h]
    rfl
theorem mm_lv_at {ad : Nat → Nat} {ls : mm_L} {la : Array Slot} {nL k : Nat} {v : mm_V} (h : lv_has la nL (mm_lv ad ls)) (hk : ls[k]? = some (some v)) : la[k]? = some (.val (mm_rv ad v)) := h.2.2 (k, mm_rv ad v) (mm_lv_mem.mpr ⟨v, hk, rfl⟩)
theorem mm_lv_ix {ad : Nat → Nat} {ls : mm_L} {k : Nat} {v : mm_V} (hk : ls[k]? = some (some v)) : ∃ i : Nat, (mm_lv ad ls)[i]? = some (k, mm_rv ad v) := List.getElem?_of_mem (mm_lv_mem.mpr ⟨v, hk, rfl⟩)
/-- the place ahead holds no long -/
def mm_nl (ls : mm_L) : Nat → Bool
  | 0 => true
  | k + 1 => match ls[k]? with
    | some (some (.inr (.inl _))) => false
    | _ => true
theorem mm_nl_e {ls : mm_L} {k : Nat} {u : mm_V} (h : mm_nl ls (k + 1) = true) (hu : ls[k]? = some (some u)) : mm_cat u = 1 := by
  change (match ls[k]? with | some (some (Sum.inr (Sum.inl _))) => false | _ => true) = true at h
  rw [hu] at h
  rcases u with z | z | q
  · rfl
  · cases h
  · rfl
theorem mm_lv_set1 {ad : Nat → Nat} {ls : mm_L} {la : Array Slot} {nL k : Nat} {v : mm_V} (hn : mm_nl ls k = true) (h : lv_has la nL ((k, mm_rv ad v) :: (mm_lv ad ls).filter (fun q => !(q.1 == k) && !(q.1 + 1 == k && q.2.category == 2)))) : lv_has la nL (mm_lv ad (ls.set k (some v))) := by
  refine ⟨h.1, h.2.1, fun q hq => h.2.2 q ?_⟩
  obtain ⟨i, w⟩ := q
  obtain ⟨u, h1, rfl⟩ := mm_lv_mem.mp hq
  rw [List.getElem?_set] at h1
  by_cases e : k = i
  · subst e
    rw [if_pos rfl] at h1
    split at h1
    · cases h1; exact List.mem_cons_self
    · cases h1
  · rw [if_neg e] at h1
    refine List.mem_cons_of_mem _ (List.mem_filter.mpr ⟨mm_lv_mem.mpr ⟨u, h1, rfl⟩, ?_⟩)
    have e1 : (i == k) = false := by simp; omega
    by_cases e2 : i + 1 = k
    · subst e2
      have := mm_nl_e hn h1
      simp [mm_cat_eq, this]
    · have : (i + 1 == k) = false := by simp [e2]
      simp [e1, this]
theorem mm_lv_set2 {ad : Nat → Nat} {ls : mm_L} {la : Array Slot} {nL k : Nat} {v : mm_V} (hn : mm_nl ls k = true) (h : lv_has la nL ((k, mm_rv ad v) :: (mm_lv ad ls).filter (fun q => !(q.1 == k) && (!(q.1 == k + 1) && !(q.1 + 1 == k && q.2.category == 2))))) : lv_has la nL (mm_lv ad ((ls.set (k + 1) none).set k (some v))) := by
  refine ⟨h.1, h.2.1, fun q hq => h.2.2 q ?_⟩
  obtain ⟨i, w⟩ := q
  obtain ⟨u, h1, rfl⟩ := mm_lv_mem.mp hq
  rw [List.getElem?_set] at h1
  by_cases e : k = i
  · subst e
    rw [if_pos rfl] at h1
    split at h1
    · cases h1; exact List.mem_cons_self
    · cases h1
  · rw [if_neg e, List.getElem?_set] at h1
    by_cases e3 : k + 1 = i
    · rw [if_pos e3] at h1
      split at h1 <;> cases h1
    rw [if_neg e3] at h1
    refine List.mem_cons_of_mem _ (List.mem_filter.mpr ⟨mm_lv_mem.mpr ⟨u, h1, rfl⟩, ?_⟩)
    have e1 : (i == k) = false := by simp; omega
    have e4 : (i == k + 1) = false := by simp; omega
    by_cases e2 : i + 1 = k
    · subst e2
      have := mm_nl_e hn h1
      simp [mm_cat_eq, this, e4]
    · have : (i + 1 == k) = false := by simp [e2]
      simp [e1, this, e4]
end
section
/-! the fields by their kinds: 0 int, 1 long, 2 a reference that stays, 3 one that changes, 4 boolean -/
def mm_fts : Nat → List Nat
  | 0 => [4, 0, 0, 2, 2, 2, 2, 2, 0, 0, 0, 0, 0, 0, 0, 2, 0, 0, 0]
  | 1 => [2, 2, 2, 0, 0, 0, 4, 2, 2, 1, 1, 2, 2, 1, 1]
  | 2 => [0, 0, 2, 2, 2, 2, 2]
  | 3 => [2, 0, 2, 0]
  | 4 => [0, 0, 0, 0, 2, 2, 2, 2]
  | 5 => [0, 2, 3, 0, 3, 0]
  | 6 => [2, 2, 0, 0, 2, 2, 2]
  | 7 => [2, 2, 2, 2, 0, 0, 0]
  | 8 => [0, 0, 2, 2, 2, 2, 2, 0, 0, 0, 2, 2, 2, 2, 2, 2, 0, 0, 0, 2, 2, 0, 0, 0, 2, 0, 0, 0, 2, 2, 2, 2, 2, 2, 2, 0, 0, 0, 0, 0, 0, 0, 2, 2, 2, 1, 1, 2, 2, 1, 2, 1, 2, 1, 2, 1, 1]
  | _ => []
/-- where a reference that stays leads -/
def mm_rfc (ci k q : Nat) : Nat := match ci, k with
  | 0, 3 => q + 1
  | 0, 4 => q + 2
  | 0, 5 => q + 3
  | 0, 6 => q + 4
  | 0, 7 => q + 5
  | 0, 15 => q + 6
  | 1, 0 => q + 1
  | 1, 1 => q + 2
  | 1, 2 => q + 3
  | 1, 7 => q + 7
  | 1, 8 => q + 4
  | 1, 11 => q + 5
  | 1, 12 => q + 6
  | 2, 2 => q + 1
  | 2, 3 => q + 2
  | 2, 4 => q + 3
  | 2, 5 => q + 4
  | 2, 6 => q + 5
  | 3, 0 => q + 1
  | 3, 2 => q + 2
  | 4, 4 => q + 1
  | 4, 5 => q + 2
  | 4, 6 => q + 4
  | 4, 7 => q + 3
  | 5, 1 => q + 1
  | 6, 0 => q + 1
  | 6, 1 => q + 20
  | 6, 4 => q + 7
  | 6, 5 => q + 9
  | 6, 6 => q + 8
  | 7, 0 => q + 1
  | 7, 1 => q + 9
  | 7, 2 => q + 115
  | 7, 3 => q + 125
  | 8, 2 => q + 1
  | 8, 3 => q + 2
  | 8, 4 => q + 3
  | 8, 5 => q + 4
  | 8, 6 => q + 5
  | 8, 10 => q + 6
  | 8, 11 => q + 7
  | 8, 12 => q + 8
  | 8, 13 => q + 9
  | 8, 14 => q + 10
  | 8, 15 => q + 11
  | 8, 19 => q + 12
  | 8, 20 => q + 13
  | 8, 24 => q + 14
  | 8, 28 => q + 15
  | 8, 29 => q + 16
  | 8, 30 => q + 17
  | 8, 31 => q + 18
  | 8, 32 => q + 19
  | 8, 33 => q + 20
  | 8, 34 => q + 21
  | 8, 42 => q + 22
  | 8, 43 => q + 23
  | 8, 44 => q + 24
  | 8, 47 => q + 25
  | 8, 48 => q + 26
  | 8, 50 => q + 27
  | 8, 52 => q + 28
  | 8, 54 => q + 29
  | _, _ => q
def mm_el (t q k : Nat) : Nat := match t with
  | 3 => q + 1 + 17 * k
  | _ => q + 1 + k
abbrev mm_S : Type := Nat ⊕ (Nat × Nat)
def lay_c : List mm_S := [.inl 7, .inl 3, .inr (0, 92), .inl 2, .inr (0, 10), .inr (0, 10), .inr (0, 10), .inr (0, 10), .inr (0, 10), .inl 6, .inl 2, .inr (0, 10), .inr (0, 10), .inr (0, 10), .inr (0, 10), .inr (0, 10), .inr (0, 10), .inr (0, 5), .inr (4, 10), .inr (0, 7), .inr (0, 7), .inr (0, 7), .inr (0, 7), .inr (0, 7), .inr (0, 7), .inr (0, 7), .inr (0, 7), .inr (0, 7), .inr (0, 7), .inr (3, 5), .inl 4, .inr (0, 12), .inr (0, 12), .inr (0, 5), .inr (4, 12), .inr (0, 5), .inr (0, 5), .inr (0, 5), .inr (0, 5), .inr (0, 5), .inr (0, 5), .inr (0, 5), .inr (0, 5), .inr (0, 5), .inr (0, 5), .inr (0, 5), .inr (0, 5), .inl 4, .inr (0, 12), .inr (0, 12), .inr (0, 5), .inr (4, 12), .inr (0, 5), .inr (0, 5), .inr (0, 5), .inr (0, 5), .inr (0, 5), .inr (0, 5), .inr (0, 5), .inr (0, 5), .inr (0, 5), .inr (0, 5), .inr (0, 5), .inr (0, 5), .inl 4, .inr (0, 12), .inr (0, 12), .inr (0, 5), .inr (4, 12), .inr (0, 5), .inr (0, 5), .inr (0, 5), .inr (0, 5), .inr (0, 5), .inr (0, 5), .inr (0, 5), .inr (0, 5), .inr (0, 5), .inr (0, 5), .inr (0, 5), .inr (0, 5), .inl 4, .inr (0, 12), .inr (0, 12), .inr (0, 5), .inr (4, 12), .inr (0, 5), .inr (0, 5), .inr (0, 5), .inr (0, 5), .inr (0, 5), .inr (0, 5), .inr (0, 5), .inr (0, 5), .inr (0, 5), .inr (0, 5), .inr (0, 5), .inr (0, 5), .inl 4, .inr (0, 12), .inr (0, 12), .inr (0, 5), .inr (4, 12), .inr (0, 5), .inr (0, 5), .inr (0, 5), .inr (0, 5), .inr (0, 5), .inr (0, 5), .inr (0, 5), .inr (0, 5), .inr (0, 5), .inr (0, 5), .inr (0, 5), .inr (0, 5), .inl 0, .inr (0, 5), .inr (0, 5), .inr (0, 500), .inr (0, 500), .inr (0, 500), .inl 5, .inr (0, 500), .inr (0, 500), .inr (0, 500), .inl 1, .inr (0, 5), .inr (0, 5), .inr (0, 5), .inr (1, 4), .inr (1, 5), .inr (2, 5), .inr (5, 4), .inr (1, 5), .inr (1, 5), .inr (1, 5), .inr (1, 5)]
def lay_m : List mm_S := [.inl 8, .inr (0, 10), .inr (0, 10), .inr (0, 10), .inr (0, 10), .inr (0, 10), .inr (0, 5), .inr (0, 5), .inr (0, 5), .inr (0, 5), .inr (0, 60), .inr (0, 300), .inr (0, 5), .inr (0, 5), .inr (0, 92), .inr (0, 10), .inr (0, 10), .inr (0, 10), .inr (0, 10), .inr (0, 10), .inr (0, 6), .inr (0, 5), .inr (0, 4351), .inr (0, 500), .inr (0, 500), .inr (1, 5), .inr (1, 5), .inr (1, 5), .inr (1, 5), .inr (1, 5)]
def mm_fval (ad : Nat → Nat) (ci q : Nat) (f : Nat → Int) (k t : Nat) : Value := match t with
  | 1 => .long (Int64.ofInt (f k))
  | 2 => .ref (ad (mm_rfc ci k q))
  | 3 => .ref (ad (f k).toNat)
  | _ => .int (Int32.ofInt (f k))
def mm_fs (ad : Nat → Nat) (ci q : Nat) (f : Nat → Int) : Nat → List Nat → List Value
  | _, [] => []
  | k, t :: ts => mm_fval ad ci q f k t :: mm_fs ad ci q f (k + 1) ts
theorem mm_fs_get (ad : Nat → Nat) (ci q : Nat) (f : Nat → Int) : ∀ (ts : List Nat) (k j : Nat), (mm_fs ad ci q f k ts)[j]? = (ts[j]?).map (fun t => mm_fval ad ci q f (k + j) t)
  | [], _, _ => by simp [mm_fs]
  | t :: ts, k, 0 => by simp [mm_fs]
  | t :: ts, k, j + 1 => by
    simp only [mm_fs, List.getElem?_cons_succ]
    rw [mm_fs_get ad ci q f ts (k + 1) j, Nat.add_assoc, Nat.add_comm 1 j]
theorem mm_fs_len (ad : Nat → Nat) (ci q : Nat) (f : Nat → Int) : ∀ (ts : List Nat) (k : Nat), (mm_fs ad ci q f k ts).length = ts.length
  | [], _ => rfl
  | t :: ts, k => by simp [mm_fs, mm_fs_len ad ci q f ts (k + 1)]
theorem mm_fs_set {ad : Nat → Nat} {ci q : Nat} {f : Nat → Int} {ts : List Nat} {j t : Nat} {z : Int} (ht : ts[j]? = some t) : (mm_fs ad ci q f 0 ts).set j (mm_fval ad ci q (fun i => if i = j then z else f i) j t) = mm_fs ad ci q (fun i => if i = j then z else f i) 0 ts := by
  apply List.ext_getElem?
  intro i
  rw [List.getElem?_set, mm_fs_get, mm_fs_get, mm_fs_len]
  have hj := (List.getElem?_eq_some_iff.mp ht).1
  by_cases e : j = i
  · subst e
    rw [if_pos rfl, if_pos hj, ht]
    simp
  · rw [if_neg e]
    have e2 : ∀ t, mm_fval ad ci q (fun k => if k = j then z else f k) (0 + i) t = mm_fval ad ci q f (0 + i) t := by
      intro t
      have : ¬ (0 + i = j) := by omega
      unfold mm_fval
      simp only [this, if_false]
    simp only [e2]
def mm_cell (cA : Nat → ClassId) (ad : Nat → Nat) (q : Nat) (sh : mm_S) (f : Nat → Int) : va_E := match sh with
  | .inl ci => .inr (ci, mm_fs ad ci q f 0 (mm_fts ci))
  | .inr (t, n) => .inl (cA t, n, match t with
    | 0 => .inl (fun k => Int32.ofInt (f k))
    | 1 => .inr (.inl (fun k => Int64.ofInt (f k)))
    | 2 => .inl (fun k => Int32.ofInt (f k))
    | t => .inr (.inr (.inr (.inr (fun k => some (ad (mm_el t q k)))))))
def mm_W (lay : List mm_S) (cA : Nat → ClassId) (ad : Nat → Nat) (M : mm_M) : va_W := lay.mapIdx (fun q sh => (ad q, mm_cell cA ad q sh (M q)))
theorem mm_W_get {lay : List mm_S} {cA : Nat → ClassId} {ad : Nat → Nat} {M : mm_M} {q : Nat} {sh : mm_S} (h : lay[q]? = some sh) : (mm_W lay cA ad M)[q]? = some (ad q, mm_cell cA ad q sh (M q)) := by
  simp [mm_W, List.getElem?_mapIdx, h]
theorem mm_W_ex {lay : List mm_S} {cA : Nat → ClassId} {ad : Nat → Nat} {M : mm_M} {q : Nat} {x : Nat × va_E} (h : (mm_W lay cA ad M)[q]? = some x) : ∃ sh, lay[q]? = some sh ∧ x = (ad q, mm_cell cA ad q sh (M q)) := by
  simp only [mm_W, List.getElem?_mapIdx] at h
  cases hs : lay[q]? with
  | none => rw [hs] at h; cases h
  | some sh => rw [hs] at h; cases h; exact ⟨sh, rfl, rfl⟩
theorem mm_W_set {lay : List mm_S} {cA : Nat → ClassId} {ad : Nat → Nat} {M : mm_M} {q k : Nat} {z : Int} {sh : mm_S} {x : va_E} (h : lay[q]? = some sh) (e : x = mm_cell cA ad q sh (mm_up M q k z q)) : (mm_W lay cA ad M).set q (ad q, x) = mm_W lay cA ad (mm_up M q k z) := by
  subst e
  apply List.ext_getElem?
  intro i
  rw [List.getElem?_set]
  by_cases e : q = i
  · subst e
    rw [if_pos rfl, mm_W_get h, if_pos]
    simpa [mm_W] using (List.getElem?_eq_some_iff.mp h).1
  · rw [if_neg e]
    simp only [mm_W, List.getElem?_mapIdx]
    have : mm_up M q k z i = M i := by
      funext j
      simp [mm_up, show ¬ i = q by omega]
    rw [this]
theorem mm_D_of {A : Nat → Prop} {lay : List mm_S} {cA : Nat → ClassId} {ad : Nat → Nat} {M : mm_M} (M' : mm_M) (h : va_D A (mm_W lay cA ad M)) : va_D A (mm_W lay cA ad M') := by
  constructor
  · intro i j x y hx hy hxy
    obtain ⟨s1, h1, rfl⟩ := mm_W_ex hx
    obtain ⟨s2, h2, rfl⟩ := mm_W_ex hy
    exact h.1 i j _ _ (mm_W_get h1) (mm_W_get h2) hxy
  · intro k x hx
    obtain ⟨s1, h1, rfl⟩ := mm_W_ex hx
    have h3 := h.2 k _ (mm_W_get (cA := cA) (ad := ad) (M := M) h1)
    exact h3
/-- kinds -/
def mm_kd (lay : List mm_S) (q ci : Nat) : Bool := match lay[q]? with
  | some (.inl c) => c == ci
  | _ => false
theorem mm_kd_e {lay : List mm_S} {q ci : Nat} (h : mm_kd lay q ci = true) : lay[q]? = some (.inl ci) := by
  unfold mm_kd at h
  split at h
  · rename_i c e
    rw [e, eq_of_beq h]
  · cases h
def mm_ak (lay : List mm_S) (q : Nat) : Nat × Nat := match lay[q]? with
  | some (.inr a) => a
  | _ => (99, 0)
theorem mm_ak_e {lay : List mm_S} {q t n : Nat} (h : (mm_ak lay q).1 = t) (ht : t ≠ 99) : lay[q]? = some (.inr (t, (mm_ak lay q).2)) := by
  unfold mm_ak at *
  split at h
  · rename_i c e
    rw [e, ← h]
  · exact absurd h.symm ht
/-- numbers are in their ranges -/
def mm_ty (lay : List mm_S) (q k : Nat) : Nat := match lay[q]? with
  | some (.inl c) => (mm_fts c).getD k 9
  | some (.inr (t, _)) => match t with
    | 0 => 0
    | 1 => 1
    | 2 => 4
    | _ => 2
  | none => 9
def mm_NM (lay : List mm_S) (M : mm_M) : Prop := ∀ q k, (mm_ty lay q k = 0 ∨ mm_ty lay q k = 4 → mm_R (M q k)) ∧ (mm_ty lay q k = 1 → mm_RL (M q k))
theorem mm_NM_up {lay : List mm_S} {M : mm_M} (h : mm_NM lay M) {q k : Nat} {z : Int} (h1 : mm_ty lay q k = 0 ∨ mm_ty lay q k = 4 → mm_R z) (h2 : mm_ty lay q k = 1 → mm_RL z) : mm_NM lay (mm_up M q k z) := by
  intro a i
  unfold mm_up
  by_cases e : a = q
  · subst e
    by_cases e2 : i = k
    · subst e2
      simp only [if_pos]
      exact ⟨h1, h2⟩
    · simp only [if_pos, if_neg e2]
      exact h a i
  · simp only [if_neg e]
    exact h a i
end
section
/-! one instruction of the small machine, and that it is the machine's -/
abbrev mm_K : Type := mm_L → List mm_V → mm_M → Prop
def mm_pi (st : List mm_V) (k : Int → List mm_V → Prop) : Prop := match st with
  | .inl z :: st => k z st
  | _ => False
def mm_pl (st : List mm_V) (k : Int → List mm_V → Prop) : Prop := match st with
  | .inr (.inl z) :: st => k z st
  | _ => False
def mm_pr (st : List mm_V) (k : Nat → List mm_V → Prop) : Prop := match st with
  | .inr (.inr z) :: st => k z st
  | _ => False
theorem mm_pi_e {st : List mm_V} {k : Int → List mm_V → Prop} (h : mm_pi st k) : ∃ z st', st = .inl z :: st' ∧ k z st' := by
  unfold mm_pi at h
  split at h
  · exact ⟨_, _, rfl, h⟩
  · exact h.elim
theorem mm_pl_e {st : List mm_V} {k : Int → List mm_V → Prop} (h : mm_pl st k) : ∃ z st', st = .inr (.inl z) :: st' ∧ k z st' := by
  unfold mm_pl at h
  split at h
  · exact ⟨_, _, rfl, h⟩
  · exact h.elim
theorem mm_pr_e {st : List mm_V} {k : Nat → List mm_V → Prop} (h : mm_pr st k) : ∃ z st', st = .inr (.inr z) :: st' ∧ k z st' := by
  unfold mm_pr at h
  split at h
  · exact ⟨_, _, rfl, h⟩
  · exact h.elim
def mm_li (ls : mm_L) (k : Nat) (f : Int → Prop) : Prop := match ls[k]? with
  | some (some (.inl z)) => f z
  | _ => False
def mm_ll (ls : mm_L) (k : Nat) (f : Int → Prop) : Prop := match ls[k]? with
  | some (some (.inr (.inl z))) => f z
  | _ => False
def mm_lr (ls : mm_L) (k : Nat) (f : Nat → Prop) : Prop := match ls[k]? with
  | some (some (.inr (.inr z))) => f z
  | _ => False
theorem mm_li_e {ls : mm_L} {k : Nat} {f : Int → Prop} (h : mm_li ls k f) : ∃ z, ls[k]? = some (some (.inl z)) ∧ f z := by
  unfold mm_li at h
  split at h
  · exact ⟨_, by assumption, h⟩
  · exact h.elim
theorem mm_ll_e {ls : mm_L} {k : Nat} {f : Int → Prop} (h : mm_ll ls k f) : ∃ z, ls[k]? = some (some (.inr (.inl z))) ∧ f z := by
  unfold mm_ll at h
  split at h
  · exact ⟨_, by assumption, h⟩
  · exact h.elim
theorem mm_lr_e {ls : mm_L} {k : Nat} {f : Nat → Prop} (h : mm_lr ls k f) : ∃ z, ls[k]? = some (some (.inr (.inr z))) ∧ f z := by
  unfold mm_lr at h
  split at h
  · exact ⟨_, by assumption, h⟩
  · exact h.elim
def mm_s1 (ls : mm_L) (k : Nat) (v : mm_V) (f : mm_L → Prop) : Prop := mm_chk (Nat.blt k ls.length && mm_nl ls k) (f (ls.set k (some v)))
def mm_s2 (ls : mm_L) (k : Nat) (v : mm_V) (f : mm_L → Prop) : Prop := mm_chk (Nat.blt (k + 1) ls.length && mm_nl ls k) (f ((ls.set (k + 1) none).set k (some v)))
def mm_bt (c : Jvm.ClassFile.Cond) (x y : Int) (A B : Prop) : Prop := match c with
  | .eq => (x = y → A) ∧ (¬ x = y → B)
  | .ne => (¬ x = y → A) ∧ (x = y → B)
  | .lt => (x < y → A) ∧ (y ≤ x → B)
  | .ge => (y ≤ x → A) ∧ (x < y → B)
  | .gt => (y < x → A) ∧ (x ≤ y → B)
  | .le => (x ≤ y → A) ∧ (y < x → B)
def mm_fv (ci k t q : Nat) (M : mm_M) : mm_V := match t with
  | 1 => .inr (.inl (M q k))
  | 2 => .inr (.inr (mm_rfc ci k q))
  | 3 => .inr (.inr (M q k).toNat)
  | _ => .inl (M q k)
def mm_swc (x : Int) (f : Nat → Prop) : Int → List Nat → Prop
  | _, [] => True
  | lo, t :: ts => (x = lo → f t) ∧ mm_swc x f (lo + 1) ts
def mm_lkc (x : Int) (f : Nat → Prop) : List (Int × Int) → List Nat → Prop
  | p :: ps, t :: ts => (x = p.1 → f t) ∧ mm_lkc x f ps ts
  | _, _ => True
def mm_lkn (x : Int) : List (Int × Int) → Prop → Prop
  | [], P => P
  | p :: ps, P => ¬ x = p.1 → mm_lkn x ps P
abbrev mm_Fl : Type := Nat → Option (Nat × Nat × Nat)
abbrev mm_Cl : Type := Nat → Option (Nat × Nat × mm_F)
abbrev mm_Ct : Type := Nat → Option Int
def mm_ri (rt : Nat) (z : Int) (P : Prop) : Prop := match rt with
  | 1 => P
  | 2 => (z = 0 ∨ z = 1) ∧ P
  | _ => False
def mm_rcv (lay : List mm_S) (ci : Nat) (as : List mm_V) : Bool := match as with
  | .inr (.inr q) :: _ => mm_kd lay q ci
  | _ => false
def mm_inv (n : Nat) (b : List mm_V → Bool) (f : mm_F) (ls : mm_L) (st : List mm_V) (M : mm_M) (nx : mm_K) : Prop :=
  mm_chk (Nat.ble n st.length && (Nat.ble (mm_cs (st.drop n)) 8 && b (st.take n).reverse)) (f (st.take n).reverse M (fun r M' => nx ls (r.toList ++ st.drop n) M'))
def mm_in (lay : List mm_S) (fl : mm_Fl) (vt st' : mm_Cl) (ct : mm_Ct) (rt : Nat) (Q : Option mm_V → mm_M → Prop) (i : Instr) (ts : List Nat) (ls : mm_L) (st : List mm_V) (M : mm_M) (nx : mm_K) (jp : Nat → mm_K) : Prop := match i with
  | .aload_n n => mm_lr ls n.val fun q => nx ls (.inr (.inr q) :: st) M
  | .aload n => mm_lr ls n fun q => nx ls (.inr (.inr q) :: st) M
  | .iload_n n => mm_li ls n.val fun z => nx ls (.inl z :: st) M
  | .iload n => mm_li ls n fun z => nx ls (.inl z :: st) M
  | .lload_n n => mm_ll ls n.val fun z => nx ls (.inr (.inl z) :: st) M
  | .lload n => mm_ll ls n fun z => nx ls (.inr (.inl z) :: st) M
  | .astore_n n => mm_pr st fun q st => mm_s1 ls n.val (.inr (.inr q)) fun ls => nx ls st M
  | .astore n => mm_pr st fun q st => mm_s1 ls n (.inr (.inr q)) fun ls => nx ls st M
  | .istore_n n => mm_pi st fun z st => mm_s1 ls n.val (.inl z) fun ls => nx ls st M
  | .istore n => mm_pi st fun z st => mm_s1 ls n (.inl z) fun ls => nx ls st M
  | .lstore_n n => mm_pl st fun z st => mm_s2 ls n.val (.inr (.inl z)) fun ls => nx ls st M
  | .lstore n => mm_pl st fun z st => mm_s2 ls n (.inr (.inl z)) fun ls => nx ls st M
  | .iconst n => mm_chk (decide (-128 ≤ n ∧ n < 128)) (nx ls (.inl n :: st) M)
  | .bipush n => mm_chk (decide (-128 ≤ n ∧ n < 128)) (nx ls (.inl n :: st) M)
  | .sipush n => mm_chk (decide (-32768 ≤ n ∧ n < 32768)) (nx ls (.inl n :: st) M)
  | .lconst n => nx ls (.inr (.inl (n.val : Int)) :: st) M
  | .ldc n => match ct n with
    | some z => nx ls (.inl z :: st) M
    | none => False
  | .ldc2_w n => match ct n with
    | some z => nx ls (.inr (.inl z) :: st) M
    | none => False
  | .iadd => mm_pi st fun y st => mm_pi st fun x st => nx ls (.inl (mm_w (x + y)) :: st) M
  | .isub => mm_pi st fun y st => mm_pi st fun x st => nx ls (.inl (mm_w (x - y)) :: st) M
  | .imul => mm_pi st fun y st => mm_pi st fun x st => nx ls (.inl (mm_w (x * y)) :: st) M
  | .idiv => mm_pi st fun y st => mm_pi st fun x st => ¬ y = 0 ∧ nx ls (.inl (mm_div x y) :: st) M
  | .irem => mm_pi st fun y st => mm_pi st fun x st => ¬ y = 0 ∧ nx ls (.inl (mm_rem x y) :: st) M
  | .iand => mm_pi st fun y st => mm_pi st fun x st => nx ls (.inl (mm_and x y) :: st) M
  | .ior => mm_pi st fun y st => mm_pi st fun x st => nx ls (.inl (mm_or x y) :: st) M
  | .ishl => mm_pi st fun y st => mm_pi st fun x st => nx ls (.inl (mm_shl x y) :: st) M
  | .ishr => mm_pi st fun y st => mm_pi st fun x st => nx ls (.inl (mm_shr x y) :: st) M
  | .ladd => mm_pl st fun y st => mm_pl st fun x st => nx ls (.inr (.inl (mm_wl (x + y))) :: st) M
  | .lsub => mm_pl st fun y st => mm_pl st fun x st => nx ls (.inr (.inl (mm_wl (x - y))) :: st) M
  | .lmul => mm_pl st fun y st => mm_pl st fun x st => nx ls (.inr (.inl (mm_wl (x * y))) :: st) M
  | .ldiv => mm_pl st fun y st => mm_pl st fun x st => ¬ y = 0 ∧ nx ls (.inr (.inl (mm_divl x y)) :: st) M
  | .lrem => mm_pl st fun y st => mm_pl st fun x st => ¬ y = 0 ∧ nx ls (.inr (.inl (mm_reml x y)) :: st) M
  | .lcmp => mm_pl st fun y st => mm_pl st fun x st => nx ls (.inl (mm_cmp x y) :: st) M
  | .i2l => mm_pi st fun x st => nx ls (.inr (.inl x) :: st) M
  | .l2i => mm_pl st fun x st => nx ls (.inl (mm_w x) :: st) M
  | .iinc n z => mm_li ls n fun x => mm_s1 ls n (.inl (mm_w (x + z))) fun ls => nx ls st M
  | .dup => match st with
    | v :: st => mm_chk (Nat.beq (mm_cat v) 1) (nx ls (v :: v :: st) M)
    | _ => False
  | .dup2 => match st with
    | v :: w :: st => mm_chk (Nat.beq (mm_cat v) 1 && Nat.beq (mm_cat w) 1) (nx ls (v :: w :: v :: w :: st) M)
    | _ => False
  | .goto _ => match ts with
    | [t] => jp t ls st M
    | _ => False
  | .ifCond c _ => match ts with
    | [t] => mm_pi st fun x st => mm_bt c x 0 (jp t ls st M) (nx ls st M)
    | _ => False
  | .if_icmp c _ => match ts with
    | [t] => mm_pi st fun y st => mm_pi st fun x st => mm_bt c x y (jp t ls st M) (nx ls st M)
    | _ => False
  | .tableswitch _ lo hi _ => match ts with
    | t :: ts => mm_pi st fun x st => (x < lo ∨ hi < x → jp t ls st M) ∧ mm_swc x (fun t => jp t ls st M) lo ts
    | _ => False
  | .lookupswitch _ ps => match ts with
    | t :: ts => mm_pi st fun x st => mm_lkn x ps.toList (jp t ls st M) ∧ mm_lkc x (fun t => jp t ls st M) ps.toList ts
    | _ => False
  | .getfield n => match fl n with
    | some (ci, k, t) => mm_pr st fun q st => mm_chk (mm_kd lay q ci) (nx ls (mm_fv ci k t q M :: st) M)
    | none => False
  | .putfield n => match fl n with
    | some (ci, k, t) => match t with
      | 0 => mm_pi st fun z st => mm_pr st fun q st => mm_chk (mm_kd lay q ci) (nx ls st (mm_up M q k z))
      | 1 => mm_pl st fun z st => mm_pr st fun q st => mm_chk (mm_kd lay q ci) (nx ls st (mm_up M q k z))
      | 3 => mm_pr st fun z st => mm_pr st fun q st => mm_chk (mm_kd lay q ci) (nx ls st (mm_up M q k z))
      | 4 => mm_pi st fun z st => mm_pr st fun q st => mm_chk (mm_kd lay q ci && (z == 0 || z == 1)) (nx ls st (mm_up M q k z))
      | _ => False
    | none => False
  | .iaload => mm_pi st fun x st => mm_pr st fun q st => mm_chk (Nat.beq (mm_ak lay q).1 0) ((0 ≤ x ∧ x < ((mm_ak lay q).2 : Int)) ∧ nx ls (.inl (M q x.toNat) :: st) M)
  | .laload => mm_pi st fun x st => mm_pr st fun q st => mm_chk (Nat.beq (mm_ak lay q).1 1) ((0 ≤ x ∧ x < ((mm_ak lay q).2 : Int)) ∧ nx ls (.inr (.inl (M q x.toNat)) :: st) M)
  | .baload => mm_pi st fun x st => mm_pr st fun q st => mm_chk (Nat.beq (mm_ak lay q).1 2) ((0 ≤ x ∧ x < ((mm_ak lay q).2 : Int)) ∧ nx ls (.inl (M q x.toNat) :: st) M)
  | .aaload => mm_pi st fun x st => mm_pr st fun q st => mm_chk (Nat.ble 3 (mm_ak lay q).1 && Nat.ble (mm_ak lay q).1 5) ((0 ≤ x ∧ x < ((mm_ak lay q).2 : Int)) ∧ nx ls (.inr (.inr (mm_el (mm_ak lay q).1 q x.toNat)) :: st) M)
  | .iastore => mm_pi st fun z st => mm_pi st fun x st => mm_pr st fun q st => mm_chk (Nat.beq (mm_ak lay q).1 0) ((0 ≤ x ∧ x < ((mm_ak lay q).2 : Int)) ∧ nx ls st (mm_up M q x.toNat z))
  | .lastore => mm_pl st fun z st => mm_pi st fun x st => mm_pr st fun q st => mm_chk (Nat.beq (mm_ak lay q).1 1) ((0 ≤ x ∧ x < ((mm_ak lay q).2 : Int)) ∧ nx ls st (mm_up M q x.toNat z))
  | .bastore => mm_pi st fun z st => mm_pi st fun x st => mm_pr st fun q st => mm_chk (Nat.beq (mm_ak lay q).1 2 && (z == 0 || z == 1)) ((0 ≤ x ∧ x < ((mm_ak lay q).2 : Int)) ∧ nx ls st (mm_up M q x.toNat z))
  | .invokevirtual n => match vt n with
    | some (ci, n, f) => mm_inv n (mm_rcv lay ci) f ls st M nx
    | none => False
  | .invokestatic n => match st' n with
    | some (_, n, f) => mm_inv n (fun _ => true) f ls st M nx
    | none => False
  | .ireturn => match st with
    | [.inl z] => mm_ri rt z (Q (some (.inl z)) M)
    | _ => False
  | .lreturn => match st with
    | [.inr (.inl z)] => mm_chk (Nat.beq rt 3) (Q (some (.inr (.inl z))) M)
    | _ => False
  | .return_ => match st with
    | [] => mm_chk (Nat.beq rt 0) (Q none M)
    | _ => False
  | _ => False
end
section
/-! that one instruction of the small machine is the machine's -/
def mm_tbl : List Cond := lw_tbl.filter goodWord
def mm_isN : Cond → Bool
  | .methodLinkNest .. => true
  | _ => false
def mm_nest : List Cond := lw_tbl.filter mm_isN
theorem mm_tbl_in {w : Cond} (h : w ∈ lw_tbl) (hg : goodWord w = true) : w ∈ mm_tbl := List.mem_filter.mpr ⟨h, hg⟩
theorem mm_tbl_good : GoodIn mm_tbl mm_tbl := fun w hw => ⟨hw, good_of_word (List.mem_filter.mp hw).2⟩
def mm_ln (i : Instr) : Nat := match i with
  | .aload _ | .iload _ | .lload _ | .astore _ | .istore _ | .lstore _ | .bipush _ | .ldc _ => 2
  | .sipush _ | .ldc2_w _ | .iinc _ _ | .goto _ | .ifCond _ _ | .if_icmp _ _ | .getfield _ | .putfield _ | .invokevirtual _ | .invokestatic _ => 3
  | _ => 1
def mm_dec (b : ByteArray) (pc : Nat) (i : Instr) : Prop := match i with
  | .tableswitch _ _ _ _ | .lookupswitch _ _ => ∃ n, decode b pc = .ok (i, n)
  | _ => decode b pc = .ok (i, mm_ln i)
def mm_tg (pc : Nat) (i : Instr) (ts : List Nat) : Prop := match i with
  | .goto o | .ifCond _ o | .if_icmp _ o => ∀ t, ts = [t] → (pc : Int) + o = (t : Int)
  | .tableswitch d lo hi os => (d :: os.toList).map (fun o => (pc : Int) + o) = ts.map (fun t : Nat => (t : Int)) ∧ hi - lo + 1 = (os.toList.length : Int)
  | .lookupswitch d ps => (d :: ps.toList.map (·.2)).map (fun o => (pc : Int) + o) = ts.map (fun t : Nat => (t : Int)) ∧ (ps.toList.zip (ps.toList.drop 1)).all (fun (a, next) => a.1 < next.1) = true
  | _ => True
def mm_tys (cA : Nat → ClassId) : List (ClassId × FieldType) := [(cA 0, .int), (cA 1, .long), (cA 2, .boolean), (cA 3, .object "SelfishWays$Player"), (cA 4, .array .int), (cA 5, .array .long)]
def mm_rt (rt : Nat) (ty : Option FieldType) : Prop := match rt with
  | 0 => ty = none
  | 1 => ty = some .int
  | 2 => ty = some .boolean
  | _ => ty = some .long
def mm_tyk (t : Nat) (ty : FieldType) : Prop := match t with
  | 0 => ty = .int
  | 1 => ty = .long
  | 3 => ty = .array .int
  | 4 => ty = .boolean
  | _ => False
def mm_clok (ci : Nat) : Prop := ∃ (C : String) (T : u_T) (N : Nat) (ty0 : Nat → FieldType), vwCl[ci]? = some (C, T, N) ∧ (∀ w ∈ u_ws C T N, w ∈ mm_tbl) ∧ (∀ k, k < N → parseFieldDescriptor (T k).2.2.1 = some (ty0 k)) ∧ (∀ a, a < N → ∀ b, b < N → a ≠ b → (T a).2.1 ≠ (T b).2.1) ∧ (mm_fts ci).length = N ∧ ∀ (k t : Nat), (mm_fts ci)[k]? = some t → t = 2 ∨ ((T k).2.2.2 = false ∧ mm_tyk t (ty0 k))
/-- the links of a class's fields -/
def mm_flok (own : String) (fl : mm_Fl) : Prop := ∀ (n ci k t : Nat), fl n = some (ci, k, t) → (mm_fts ci)[k]? = some t ∧ mm_clok ci ∧ ∀ q : vw_C, vwCl[ci]? = some q → Cond.fieldLink own n (q.2.1 k).1 (q.2.1 k).2.1 (q.2.1 k).2.2.1 ∈ mm_tbl
def mm_ctok (own : String) (ct : mm_Ct) : Prop := ∀ n z, ct n = some z → (mm_R z ∧ Cond.constant own n (Int32.ofInt z) ∈ mm_tbl) ∨ (mm_RL z ∧ Cond.constantLong own n (Int64.ofInt z) ∈ mm_tbl)
def mm_Qa (lay : List mm_S) (cA : Nat → ClassId) (ad : Nat → Nat) (D : va_G) (Q : Option mm_V → mm_M → Prop) (A1 : Nat → Prop) : State → Outcome → State → Prop := fun st oc t =>
  (∃ (r : Option mm_V) (M' : mm_M), oc = .returned (r.map (mm_rv ad)) ∧ Q r M' ∧ (∀ v, r = some v → mm_N v) ∧ mm_NM lay M' ∧ va_P D vwCl (mm_W lay cA ad M') t.heap) ∧ va_F A1 st t
def mm_Qc (lay : List mm_S) (cA : Nat → ClassId) (ad : Nat → Nat) (D : va_G) (Q : Option mm_V → mm_M → Prop) (A1 : Nat → Prop) : Array Value → State → Outcome → State → Prop := fun _ => mm_Qa lay cA ad D Q A1
section MMS
variable {p : Program} {l : Launch} {e : Env} {R : Room} {s : State} {m : MethodId} {args : Array Value} {below : List Frame} {meth : Method} {c : Code}
variable {lay : List mm_S} {cA : Nat → ClassId} {ad : Nat → Nat} {D : va_G} {A : Nat → Prop} {own : String} {cc : ByteArray} {nL rt : Nat} {Q : Option mm_V → mm_M → Prop}
def mm_Cx (p : Program) (s : State) (m : MethodId) (args : Array Value) (meth : Method) (c : Code) (lay : List mm_S) (cA : Nat → ClassId) (ad : Nat → Nat) (D : va_G) (A : Nat → Prop) (own : String) (cc : ByteArray) (nL rt : Nat) : Prop :=
  p.tables.exec = Jvm.exec ∧ c.code = cc ∧ c.maxLocals = nL ∧ s.vm.findClass own = some m.cls ∧ (∀ w ∈ mm_tbl, w.before args s = true) ∧ va_K D vwCl (mm_tys cA) s ∧ (∀ w ∈ mm_nest, va_Nw w s) ∧ meth.locks = false ∧ mm_rt rt meth.sig.returnType ∧ (∀ q, s.heap.size ≤ q → A q) ∧ ∀ M, va_D A (mm_W lay cA ad M)
def mm_T (lay : List mm_S) (cA : Nat → ClassId) (ad : Nat → Nat) (D : va_G) (A : Nat → Prop) (s : State) (nL : Nat) (H : Heap) (locs : List Loc) (la : Array Slot) (ls : mm_L) (st : List mm_V) (M : mm_M) : Prop :=
  va_P D vwCl (mm_W lay cA ad M) H ∧ va_S A s.heap H locs ∧ lv_has la nL (mm_lv ad ls) ∧ ls.length = nL ∧ (∀ v ∈ st, mm_N v) ∧ (∀ (k : Nat) (v : mm_V), ls[k]? = some (some v) → mm_N v) ∧ mm_NM lay M
def mm_G (p : Program) (l : Launch) (e : Env) (R : Room) (s : State) (m : MethodId) (args : Array Value) (below : List Frame) (meth : Method) (c : Code) (lay : List mm_S) (cA : Nat → ClassId) (ad : Nat → Nat) (D : va_G) (A : Nat → Prop) (nL : Nat) (Q : Option mm_V → mm_M → Prop) (pc : Nat) : mm_K := fun ls st M =>
  ∀ (H : Heap) (locs : List Loc) (la : Array Slot), mm_T lay cA ad D A s nL H locs la ls st M → W p l e R s m args below meth c H locs 0 0 (MQ below (mm_Qc lay cA ad D Q A) args s 0 0 A) (F0 m pc la (st.map (mm_rv ad)))
theorem mm_T.st {H : Heap} {locs : List Loc} {la : Array Slot} {ls : mm_L} {st st' : List mm_V} {M : mm_M} (t : mm_T lay cA ad D A s nL H locs la ls st M) (h : ∀ v ∈ st', mm_N v) : mm_T lay cA ad D A s nL H locs la ls st' M := ⟨t.1, t.2.1, t.2.2.1, t.2.2.2.1, h, t.2.2.2.2.2⟩
theorem mm_n1 {v : mm_V} {st : List mm_V} (hv : mm_N v) (h : ∀ v ∈ st, mm_N v) : ∀ w ∈ v :: st, mm_N w := fun w hw => by
  rcases List.mem_cons.mp hw with rfl | hw
  · exact hv
  · exact h w hw
theorem mm_n2 {v : mm_V} {st : List mm_V} (h : ∀ w ∈ v :: st, mm_N w) : mm_N v ∧ ∀ w ∈ st, mm_N w := ⟨h v List.mem_cons_self, fun w hw => h w (List.mem_cons_of_mem _ hw)⟩
theorem mm_T.set1 {H : Heap} {locs : List Loc} {la la' : Array Slot} {ls : mm_L} {st st' : List mm_V} {M : mm_M} {k : Nat} {v : mm_V} (t : mm_T lay cA ad D A s nL H locs la ls st M) (hst : ∀ w ∈ st', mm_N w) (hv : mm_N v) (hn : mm_nl ls k = true) (h : lv_has la' nL ((k, mm_rv ad v) :: (mm_lv ad ls).filter (fun q => !(q.1 == k) && !(q.1 + 1 == k && q.2.category == 2)))) : mm_T lay cA ad D A s nL H locs la' (ls.set k (some v)) st' M := by
  obtain ⟨t1, t2, t3, t4, t5, t6, t7⟩ := t
  refine ⟨t1, t2, mm_lv_set1 hn h, by rw [List.length_set]; exact t4, hst, fun i w hw => ?_, t7⟩
  rw [List.getElem?_set] at hw
  split at hw
  · split at hw
    · cases hw; exact hv
    · cases hw
  · exact t6 i w hw
theorem mm_T.set2 {H : Heap} {locs : List Loc} {la la' : Array Slot} {ls : mm_L} {st st' : List mm_V} {M : mm_M} {k : Nat} {v : mm_V} (t : mm_T lay cA ad D A s nL H locs la ls st M) (hst : ∀ w ∈ st', mm_N w) (hv : mm_N v) (hn : mm_nl ls k = true) (h : lv_has la' nL ((k, mm_rv ad v) :: (mm_lv ad ls).filter (fun q => !(q.1 == k) && (!(q.1 == k + 1) && !(q.1 + 1 == k && q.2.category == 2))))) : mm_T lay cA ad D A s nL H locs la' ((ls.set (k + 1) none).set k (some v)) st' M := by
  obtain ⟨t1, t2, t3, t4, t5, t6, t7⟩ := t
  refine ⟨t1, t2, mm_lv_set2 hn h, by rw [List.length_set, List.length_set]; exact t4, hst, fun i w hw => ?_, t7⟩
  rw [List.getElem?_set] at hw
  split at hw
  · split at hw
    · cases hw; exact hv
    · cases hw
  · rw [List.getElem?_set] at hw
    split at hw
    · split at hw <;> cases hw
    · exact t6 i w hw
theorem mm_bt_e {cd : Jvm.ClassFile.Cond} {x y : Int} {X Y : Prop} (h : mm_bt cd x y X Y) (hx : mm_R x) (hy : mm_R y) : match cd with
  | .eq => (Int32.ofInt x = Int32.ofInt y → X) ∧ (¬ Int32.ofInt x = Int32.ofInt y → Y)
  | .ne => (¬ Int32.ofInt x = Int32.ofInt y → X) ∧ (Int32.ofInt x = Int32.ofInt y → Y)
  | .lt => (Int32.ofInt x < Int32.ofInt y → X) ∧ (¬ Int32.ofInt x < Int32.ofInt y → Y)
  | .ge => (Int32.ofInt y ≤ Int32.ofInt x → X) ∧ (¬ Int32.ofInt y ≤ Int32.ofInt x → Y)
  | .gt => (Int32.ofInt y < Int32.ofInt x → X) ∧ (¬ Int32.ofInt y < Int32.ofInt x → Y)
  | .le => (Int32.ofInt x ≤ Int32.ofInt y → X) ∧ (¬ Int32.ofInt x ≤ Int32.ofInt y → Y) := by
  cases cd
  · exact ⟨fun q => h.1 ((mm_eq hx hy).mp q), fun q => h.2 (fun z => q ((mm_eq hx hy).mpr z))⟩
  · exact ⟨fun q => h.1 (fun z => q ((mm_eq hx hy).mpr z)), fun q => h.2 ((mm_eq hx hy).mp q)⟩
  · exact ⟨fun q => h.1 ((mm_lt hx hy).mp q), fun q => h.2 (Int.not_lt.mp fun z => q ((mm_lt hx hy).mpr z))⟩
  · exact ⟨fun q => h.1 ((mm_le hy hx).mp q), fun q => h.2 (Int.not_le.mp fun z => q ((mm_le hy hx).mpr z))⟩
  · exact ⟨fun q => h.1 ((mm_lt hy hx).mp q), fun q => h.2 (Int.not_lt.mp fun z => q ((mm_lt hy hx).mpr z))⟩
  · exact ⟨fun q => h.1 ((mm_le hx hy).mp q), fun q => h.2 (Int.not_le.mp fun z => q ((mm_le hx hy).mpr z))⟩
/-- behind a call -/
theorem mm_callk {H : Heap} {locs : List Loc} {pc : Nat} {la : Array Slot} {st0 rest : List Value} {Q1 : Option mm_V → mm_M → Prop} {A1 free : Nat → Prop} {Qw : State → Prop} (hr : va_Run p l e R s m args below meth c H locs 0 0 0 0 (F0 m pc la st0) rest (mm_Qa lay cA ad D Q1 A1) free) (hS : va_S A s.heap H locs) (hA : ∀ q, q < H.size → A1 q → A q) (hf : ∀ q, free q → A q)
    (kk : ∀ (r : Option mm_V) (M' : mm_M) (H1 : Heap) (locs1 : List Loc), Q1 r M' → (∀ v, r = some v → mm_N v) → mm_NM lay M' → va_P D vwCl (mm_W lay cA ad M') H1 → va_S A s.heap H1 locs1 → W p l e R s m args below meth c H1 locs1 0 0 Qw (F0 m (pc + 3) la ((r.map (mm_rv ad)).toList ++ rest))) : W p l e R s m args below meth c H locs 0 0 Qw (F0 m pc la st0) := by
  intro T hT X
  obtain ⟨v, st₀, t, T', L, h0, X', hL, e1, e2, ⟨⟨r, M', hv, hq, hn, hnm, hP⟩, hz, hk⟩, st⟩ := hr T hT X
  cases hv
  rw [h0] at hz hk
  obtain ⟨t2, a1, b1⟩ := kk r M' T'.heap (locs ++ L) hq hn hnm (by rw [e1]; exact hP)
    ⟨Nat.le_trans hS.1 (by rw [e1]; exact hz), fun q h1 h2 => by rw [e1, hk q (Nat.lt_of_lt_of_le h1 hS.1) (fun z => h2 (hA q (Nat.lt_of_lt_of_le h1 hS.1) z))]; exact hS.2.1 q h1 h2, fun q hq => by
      rcases List.mem_append.mp hq with h | h
      · exact hS.2.2 q h
      · exact hf _ (hL q h)⟩ T' rfl X'
  exact ⟨t2, st t2 a1, b1⟩
/-- a call that may be made -/
def mm_CO (p : Program) (l : Launch) (e : Env) (R : Room) (s : State) (m : MethodId) (args : Array Value) (below : List Frame) (meth : Method) (c : Code) (lay : List mm_S) (cA : Nat → ClassId) (ad : Nat → Nat) (D : va_G) (A : Nat → Prop) (cc : ByteArray) (nL : Nat) (i : Instr) (n : Nat) (b : List mm_V → Bool) (f : mm_F) : Prop :=
  ∀ (pc : Nat) (la : Array Slot) (H : Heap) (locs : List Loc) (as rest : List mm_V) (M : mm_M) (Q1 : Option mm_V → mm_M → Prop), f as M Q1 → as.length = n → b as = true → va_P D vwCl (mm_W lay cA ad M) H → va_S A s.heap H locs → (∀ v ∈ as, mm_N v) → mm_NM lay M → la.size = nL → mm_cs rest ≤ 8 → decode cc pc = .ok (i, 3) →
    va_Run p l e R s m args below meth c H locs 0 0 0 0 (F0 m pc la ((as.reverse ++ rest).map (mm_rv ad))) (rest.map (mm_rv ad)) (mm_Qa lay cA ad D Q1 (va_A (mm_W lay cA ad M) H.size)) (va_A (mm_W lay cA ad M) H.size)
theorem mm_inv_ok {i : Instr} {n pc : Nat} {b : List mm_V → Bool} {f : mm_F} {ls : mm_L} {st : List mm_V} {M : mm_M} {nx : mm_K} (C0 : mm_Cx p s m args meth c lay cA ad D A own cc nL rt) (hc : mm_CO p l e R s m args below meth c lay cA ad D A cc nL i n b f) (hd : decode cc pc = .ok (i, 3)) (hnx : ∀ ls st M, nx ls st M → mm_G p l e R s m args below meth c lay cA ad D A nL Q (pc + 3) ls st M) (h : mm_inv n b f ls st M nx) : mm_G p l e R s m args below meth c lay cA ad D A nL Q pc ls st M := by
  obtain ⟨hx, hb, hml, hown, hts, hK, hne, hlk, hrt, hA, hD⟩ := C0
  unfold mm_inv at h
  obtain ⟨h1, h2⟩ := mm_chk_e h
  rw [Bool.and_eq_true, Bool.and_eq_true] at h1
  obtain ⟨g1, g2, g3⟩ := h1
  have g1 := Nat.le_of_ble_eq_true g1
  have g2 := Nat.le_of_ble_eq_true g2
  intro H locs la t
  obtain ⟨t1, t2, t3, t4, t5, t6, t7⟩ := id t
  have hst : st = ((st.take n).reverse).reverse ++ st.drop n := by rw [List.reverse_reverse, List.take_append_drop]
  have hN : ∀ v ∈ (st.take n).reverse, mm_N v := fun v hv => t5 v (List.mem_of_mem_take (List.mem_reverse.mp hv))
  have hr := hc pc la H locs (st.take n).reverse (st.drop n) M _ h2 (by rw [List.length_reverse, List.length_take]; omega) g3 t1 t2 hN t7 t3.1 g2 hd
  rw [← hst] at hr
  have hfA : ∀ q, va_A (mm_W lay cA ad M) H.size q → A q := fun q hq => by
    rcases hq with ⟨k, e, hq⟩ | hq
    · exact (hD M).2 k _ hq
    · exact hA q (Nat.le_trans t2.1 hq)
  refine mm_callk hr t2 (fun q _ => hfA q) hfA (fun r M' H1 locs1 hq hn hnm hP hS => ?_)
  have hm : (r.map (mm_rv ad)).toList ++ (st.drop n).map (mm_rv ad) = (r.toList ++ st.drop n).map (mm_rv ad) := by
    cases r <;> simp
  rw [hm]
  refine hnx _ _ _ hq H1 locs1 la ⟨hP, hS, t3, t4, fun v hv => ?_, t6, hnm⟩
  rcases List.mem_append.mp hv with hv | hv
  · cases r with
    | none => cases hv
    | some w =>
      rw [show (some w).toList = [w] from rfl, List.mem_singleton] at hv
      subst hv
      exact hn v rfl
  · exact t5 v (List.mem_of_mem_drop hv)
end MMS
end
section
section MMI
variable {p : Program} {l : Launch} {e : Env} {R : Room} {s : State} {m : MethodId} {args : Array Value} {below : List Frame} {meth : Method} {c : Code}
variable {lay : List mm_S} {cA : Nat → ClassId} {ad : Nat → Nat} {D : va_G} {A : Nat → Prop} {own : String} {cc : ByteArray} {nL rt : Nat} {Q : Option mm_V → mm_M → Prop}
theorem mm_aald {H : Heap} {locs : List Loc} {cells slots pc : Nat} {Qw : State → Prop} {ls : Array Slot} {rest : List Value} {cl : List vw_C} {tys : List (ClassId × FieldType)} {ws : va_W} {a : Nat} (hexec : p.tables.exec = Jvm.exec) (hb : c.code = cc) (hK : va_K D cl tys s) (hP : va_P D cl ws H) (q0 t0 : Nat) {cB : ClassId} {ty : FieldType} {n : Nat} {f : Nat → Option Nat} (ha : ws[q0]? = some (a, .inl (cB, n, .inr (.inr (.inr (.inr f)))))) (ht : tys[t0]? = some (cB, ty)) (hty : ty.isReference = true) {i : Int32} (hin : vp_in i n) (hdg : decode cc pc = .ok (.aaload, 1))
    (kk : W p l e R s m args below meth c H locs cells slots Qw (F0 m (pc + 1) ls (va_rf (f i.toNatClampNeg) :: rest))) : W p l e R s m args below meth c H locs cells slots Qw (F0 m pc ls (.int i :: .ref a :: rest)) := by
  have hlt : i.toNatClampNeg < n := Nat.not_le.mp fun q => hin (Or.inr q)
  exact W.aald (v := va_rf (f i.toNatClampNeg)) (ty := ty) hexec hb (hP q0 _ ha) ((hK.2 t0 _ ht).1 n (fun j => va_rf (f j))) hty (fun q => by cases q) (by show ¬ (i < 0 ∨ (arrV _ _ _).slots.size ≤ _); rw [arrV_size]; exact hin) (by show (arrV _ _ _).slots[_]? = _; rw [arrV_read _ _ hlt]) rfl rfl hdg kk
theorem mm_fval_eq (ad : Nat → Nat) (ci q k : Nat) (M : mm_M) (t : Nat) : mm_fval ad ci q (M q) k t = mm_rv ad (mm_fv ci k t q M) := by
  match t with
  | 0 => rfl
  | 1 => rfl
  | 2 => rfl
  | 3 => rfl
  | n + 4 => rfl
theorem mm_swc_e {x : Int} {f : Nat → Prop} : ∀ {ts : List Nat} {lo : Int} (_ : mm_swc x f lo ts) (j : Nat) {t : Nat}, ts[j]? = some t → x = lo + (j : Int) → f t
  | [], _, _, j, t, ht, _ => by simp at ht
  | a :: ts, lo, h, 0, t, ht, hx => by
    simp at ht
    subst ht
    exact h.1 (by omega)
  | a :: ts, lo, h, j + 1, t, ht, hx => mm_swc_e (ts := ts) (lo := lo + 1) h.2 j (by simpa using ht) (by omega)
theorem mm_lkc_e {pc : Nat} {x d : Int} {X : Prop} {f : Nat → Prop} : ∀ (ps : List (Int × Int)) (ts : List Nat), mm_lkn x ps X → mm_lkc x f ps ts → (ps.map (·.2)).map (fun o => (pc : Int) + o) = ts.map (fun t : Nat => (t : Int)) → (X ∧ Op.lookupswitch.offset ps d x = d) ∨ ∃ t, f t ∧ (pc : Int) + Op.lookupswitch.offset ps d x = (t : Int)
  | [], _, h, _, _ => Or.inl ⟨h, rfl⟩
  | q :: ps, [], _, _, he => by simp at he
  | (k, o) :: ps, t :: ts, h, hc, he => by
    simp only [List.map_cons, List.cons.injEq] at he
    rw [Op.lookupswitch.offset_cons]
    by_cases e : k = x
    · rw [if_pos e]
      exact Or.inr ⟨t, hc.1 e.symm, he.1⟩
    · rw [if_neg e]
      exact mm_lkc_e ps ts (h (fun z => e z.symm)) hc.2 he.2
set_option maxHeartbeats 4000000 in
theorem mm_sound1 {fl : mm_Fl} {vt sm : mm_Cl} {ct : mm_Ct} {i : Instr} {ts : List Nat} {pc : Nat} {ls : mm_L} {st : List mm_V} {M : mm_M} {nx : mm_K} {jp : Nat → mm_K} (C0 : mm_Cx p s m args meth c lay cA ad D A own cc nL rt) (hfl : mm_flok own fl) (hct : mm_ctok own ct)
    (hct2 : match i with
      | .ldc n => ∀ z, ct n = some z → mm_R z ∧ Cond.constant own n (Int32.ofInt z) ∈ mm_tbl
      | .ldc2_w n => ∀ z, ct n = some z → mm_RL z ∧ Cond.constantLong own n (Int64.ofInt z) ∈ mm_tbl
      | _ => True)
    (hvt : ∀ k ci n f, vt k = some (ci, n, f) → mm_CO p l e R s m args below meth c lay cA ad D A cc nL (.invokevirtual k) n (mm_rcv lay ci) f)
    (hsm : ∀ k ci n f, sm k = some (ci, n, f) → mm_CO p l e R s m args below meth c lay cA ad D A cc nL (.invokestatic k) n (fun _ => true) f)
    (hd : mm_dec cc pc i) (htg : mm_tg pc i ts)
    (hnx : ∀ ls st M, nx ls st M → mm_G p l e R s m args below meth c lay cA ad D A nL Q (pc + mm_ln i) ls st M)
    (hjp : ∀ t ls st M, jp t ls st M → mm_G p l e R s m args below meth c lay cA ad D A nL Q t ls st M)
    (h : mm_in lay fl vt sm ct rt Q i ts ls st M nx jp) : mm_G p l e R s m args below meth c lay cA ad D A nL Q pc ls st M := by
  obtain ⟨hx, hb, hml, hown, hts, hK, hne, hlk, hrt, hA, hD⟩ := id C0
  cases i with
  | aload_n n =>
    have hd : decode cc pc = .ok (.aload_n n, 1) := hd
    obtain ⟨z, hz, h⟩ := mm_lr_e h
    intro H locs la t
    obtain ⟨t1, t2, t3, t4, t5, t6, t7⟩ := id t
    refine lv_aload_n hx hb hd rfl (mm_lv_at t3 hz) ?_
    exact hnx _ _ _ h H locs la (t.st (mm_n1 (t6 _ _ hz) t5))
  | aload n =>
    have hd : decode cc pc = .ok (.aload n, 2) := hd
    obtain ⟨z, hz, h⟩ := mm_lr_e h
    intro H locs la t
    obtain ⟨t1, t2, t3, t4, t5, t6, t7⟩ := id t
    refine lv_aload hx hb hd (mm_lv_at t3 hz) ?_
    exact hnx _ _ _ h H locs la (t.st (mm_n1 (t6 _ _ hz) t5))
  | iload_n n =>
    have hd : decode cc pc = .ok (.iload_n n, 1) := hd
    obtain ⟨z, hz, h⟩ := mm_li_e h
    intro H locs la t
    obtain ⟨t1, t2, t3, t4, t5, t6, t7⟩ := id t
    refine lv_iload_n hx hb hd rfl (mm_lv_at t3 hz) ?_
    exact hnx _ _ _ h H locs la (t.st (mm_n1 (t6 _ _ hz) t5))
  | iload n =>
    have hd : decode cc pc = .ok (.iload n, 2) := hd
    obtain ⟨z, hz, h⟩ := mm_li_e h
    intro H locs la t
    obtain ⟨t1, t2, t3, t4, t5, t6, t7⟩ := id t
    refine lv_iload hx hb hd (mm_lv_at t3 hz) ?_
    exact hnx _ _ _ h H locs la (t.st (mm_n1 (t6 _ _ hz) t5))
  | lload_n n =>
    have hd : decode cc pc = .ok (.lload_n n, 1) := hd
    obtain ⟨z, hz, h⟩ := mm_ll_e h
    intro H locs la t
    obtain ⟨t1, t2, t3, t4, t5, t6, t7⟩ := id t
    refine lv_lload_n hx hb hd rfl (mm_lv_at t3 hz) ?_
    exact hnx _ _ _ h H locs la (t.st (mm_n1 (t6 _ _ hz) t5))
  | lload n =>
    have hd : decode cc pc = .ok (.lload n, 2) := hd
    obtain ⟨z, hz, h⟩ := mm_ll_e h
    intro H locs la t
    obtain ⟨t1, t2, t3, t4, t5, t6, t7⟩ := id t
    refine lv_lload hx hb hd (mm_lv_at t3 hz) ?_
    exact hnx _ _ _ h H locs la (t.st (mm_n1 (t6 _ _ hz) t5))
  | astore_n n =>
    have hd : decode cc pc = .ok (.astore_n n, 1) := hd
    obtain ⟨z, st1, rfl, h⟩ := mm_pr_e h
    obtain ⟨hk, h⟩ := mm_chk_e h
    rw [Bool.and_eq_true] at hk
    intro H locs la t
    obtain ⟨t1, t2, t3, t4, t5, t6, t7⟩ := id t
    refine lv_astore_n hx hb hd rfl t3 (by rw [← t4]; exact Nat.blt_eq.mp hk.1) rfl (fun la' hl => ?_)
    exact hnx _ _ _ h H locs la' (t.set1 (mm_n2 t5).2 (v := .inr (.inr z)) (mm_n2 t5).1 hk.2 hl)
  | astore n =>
    have hd : decode cc pc = .ok (.astore n, 2) := hd
    obtain ⟨z, st1, rfl, h⟩ := mm_pr_e h
    obtain ⟨hk, h⟩ := mm_chk_e h
    rw [Bool.and_eq_true] at hk
    intro H locs la t
    obtain ⟨t1, t2, t3, t4, t5, t6, t7⟩ := id t
    refine lv_astore hx hb hd t3 (by rw [← t4]; exact Nat.blt_eq.mp hk.1) rfl (fun la' hl => ?_)
    exact hnx _ _ _ h H locs la' (t.set1 (mm_n2 t5).2 (v := .inr (.inr z)) (mm_n2 t5).1 hk.2 hl)
  | istore_n n =>
    have hd : decode cc pc = .ok (.istore_n n, 1) := hd
    obtain ⟨z, st1, rfl, h⟩ := mm_pi_e h
    obtain ⟨hk, h⟩ := mm_chk_e h
    rw [Bool.and_eq_true] at hk
    intro H locs la t
    obtain ⟨t1, t2, t3, t4, t5, t6, t7⟩ := id t
    refine lv_istore_n hx hb hd rfl t3 (by rw [← t4]; exact Nat.blt_eq.mp hk.1) rfl (fun la' hl => ?_)
    exact hnx _ _ _ h H locs la' (t.set1 (mm_n2 t5).2 (v := .inl z) (mm_n2 t5).1 hk.2 hl)
  | istore n =>
    have hd : decode cc pc = .ok (.istore n, 2) := hd
    obtain ⟨z, st1, rfl, h⟩ := mm_pi_e h
    obtain ⟨hk, h⟩ := mm_chk_e h
    rw [Bool.and_eq_true] at hk
    intro H locs la t
    obtain ⟨t1, t2, t3, t4, t5, t6, t7⟩ := id t
    refine lv_istore hx hb hd t3 (by rw [← t4]; exact Nat.blt_eq.mp hk.1) rfl (fun la' hl => ?_)
    exact hnx _ _ _ h H locs la' (t.set1 (mm_n2 t5).2 (v := .inl z) (mm_n2 t5).1 hk.2 hl)
  | lstore_n n =>
    have hd : decode cc pc = .ok (.lstore_n n, 1) := hd
    obtain ⟨z, st1, rfl, h⟩ := mm_pl_e h
    obtain ⟨hk, h⟩ := mm_chk_e h
    rw [Bool.and_eq_true] at hk
    intro H locs la t
    obtain ⟨t1, t2, t3, t4, t5, t6, t7⟩ := id t
    refine lv_lstore_n hx hb hd rfl t3 (by rw [← t4]; exact Nat.blt_eq.mp hk.1) rfl (fun la' hl => ?_)
    exact hnx _ _ _ h H locs la' (t.set2 (mm_n2 t5).2 (v := .inr (.inl z)) (mm_n2 t5).1 hk.2 hl)
  | lstore n =>
    have hd : decode cc pc = .ok (.lstore n, 2) := hd
    obtain ⟨z, st1, rfl, h⟩ := mm_pl_e h
    obtain ⟨hk, h⟩ := mm_chk_e h
    rw [Bool.and_eq_true] at hk
    intro H locs la t
    obtain ⟨t1, t2, t3, t4, t5, t6, t7⟩ := id t
    refine lv_lstore hx hb hd t3 (by rw [← t4]; exact Nat.blt_eq.mp hk.1) rfl (fun la' hl => ?_)
    exact hnx _ _ _ h H locs la' (t.set2 (mm_n2 t5).2 (v := .inr (.inl z)) (mm_n2 t5).1 hk.2 hl)
  | iconst n =>
    have hd : decode cc pc = .ok (.iconst n, 1) := hd
    obtain ⟨hk, h⟩ := mm_chk_e h
    have hk := of_decide_eq_true hk
    intro H locs la t
    obtain ⟨t1, t2, t3, t4, t5, t6, t7⟩ := id t
    refine lv_iconst hx hb hd rfl ?_
    exact hnx _ _ _ h H locs la (t.st (mm_n1 (v := .inl n) ⟨by omega, by omega⟩ t5))
  | bipush n =>
    have hd : decode cc pc = .ok (.bipush n, 2) := hd
    obtain ⟨hk, h⟩ := mm_chk_e h
    have hk := of_decide_eq_true hk
    intro H locs la t
    obtain ⟨t1, t2, t3, t4, t5, t6, t7⟩ := id t
    refine lv_bipush (v := Int32.ofInt n) hx hb hd ?_ ?_
    · rw [← Int32.toInt_inj, Int8.toInt_toInt32, Int8.toInt_ofInt_of_le (by omega) (by omega), Int32.toInt_ofInt_of_le (by omega) (by omega)]
    · exact hnx _ _ _ h H locs la (t.st (mm_n1 (v := .inl n) ⟨by omega, by omega⟩ t5))
  | sipush n =>
    have hd : decode cc pc = .ok (.sipush n, 3) := hd
    obtain ⟨hk, h⟩ := mm_chk_e h
    have hk := of_decide_eq_true hk
    intro H locs la t
    obtain ⟨t1, t2, t3, t4, t5, t6, t7⟩ := id t
    refine lv_sipush (v := Int32.ofInt n) hx hb hd ?_ ?_
    · rw [← Int32.toInt_inj, Int16.toInt_toInt32, Int16.toInt_ofInt_of_le (by omega) (by omega), Int32.toInt_ofInt_of_le (by omega) (by omega)]
    · exact hnx _ _ _ h H locs la (t.st (mm_n1 (v := .inl n) ⟨by omega, by omega⟩ t5))
  | lconst n =>
    have hd : decode cc pc = .ok (.lconst n, 1) := hd
    intro H locs la t
    obtain ⟨t1, t2, t3, t4, t5, t6, t7⟩ := id t
    refine lv_lconst (v := Int64.ofInt (n.val : Int)) hx hb hd rfl ?_
    exact hnx _ _ _ h H locs la (t.st (mm_n1 (v := .inr (.inl (n.val : Int))) ⟨by have := n.isLt; omega, by have := n.isLt; omega⟩ t5))
  | ldc n =>
    have hd : decode cc pc = .ok (.ldc n, 2) := hd
    simp only [mm_in] at h
    split at h
    · rename_i z hz
      obtain ⟨hR, hc⟩ := hct2 z hz
      intro H locs la t
      obtain ⟨t1, t2, t3, t4, t5, t6, t7⟩ := id t
      refine lv_ldc hx hb hown (hts _ hc) hd ?_
      exact hnx _ _ _ h H locs la (t.st (mm_n1 (v := .inl z) hR t5))
    · exact h.elim
  | ldc2_w n =>
    have hd : decode cc pc = .ok (.ldc2_w n, 3) := hd
    simp only [mm_in] at h
    split at h
    · rename_i z hz
      obtain ⟨hR, hc⟩ := hct2 z hz
      intro H locs la t
      obtain ⟨t1, t2, t3, t4, t5, t6, t7⟩ := id t
      refine lv_ldc2 hx hb hown (hts _ hc) hd ?_
      exact hnx _ _ _ h H locs la (t.st (mm_n1 (v := .inr (.inl z)) hR t5))
    · exact h.elim
  | iadd =>
    have hd : decode cc pc = .ok (.iadd, 1) := hd
    obtain ⟨y, st1, rfl, h⟩ := mm_pi_e h
    obtain ⟨x, st2, rfl, h⟩ := mm_pi_e h
    intro H locs la t
    obtain ⟨t1, t2, t3, t4, t5, t6, t7⟩ := id t
    obtain ⟨ny, t5⟩ := mm_n2 t5
    obtain ⟨nx', t5⟩ := mm_n2 t5
    refine lv_iadd hx hb hd ?_
    have ee : Int32.ofInt (mm_w (x + y)) = Int32.ofInt x + Int32.ofInt y := by rw [mm_ofw, Int32.ofInt_add]
    rw [← ee]
    exact hnx _ _ _ h H locs la (t.st (mm_n1 (v := .inl (mm_w (x + y))) (mm_w_R _) t5))
  | isub =>
    have hd : decode cc pc = .ok (.isub, 1) := hd
    obtain ⟨y, st1, rfl, h⟩ := mm_pi_e h
    obtain ⟨x, st2, rfl, h⟩ := mm_pi_e h
    intro H locs la t
    obtain ⟨t1, t2, t3, t4, t5, t6, t7⟩ := id t
    obtain ⟨ny, t5⟩ := mm_n2 t5
    obtain ⟨nx', t5⟩ := mm_n2 t5
    refine lv_isub hx hb hd ?_
    have ee : Int32.ofInt (mm_w (x - y)) = Int32.ofInt x - Int32.ofInt y := by rw [mm_ofw, Int32.ofInt_sub]
    rw [← ee]
    exact hnx _ _ _ h H locs la (t.st (mm_n1 (v := .inl (mm_w (x - y))) (mm_w_R _) t5))
  | imul =>
    have hd : decode cc pc = .ok (.imul, 1) := hd
    obtain ⟨y, st1, rfl, h⟩ := mm_pi_e h
    obtain ⟨x, st2, rfl, h⟩ := mm_pi_e h
    intro H locs la t
    obtain ⟨t1, t2, t3, t4, t5, t6, t7⟩ := id t
    obtain ⟨ny, t5⟩ := mm_n2 t5
    obtain ⟨nx', t5⟩ := mm_n2 t5
    refine lv_imul hx hb hd ?_
    have ee : Int32.ofInt (mm_w (x * y)) = Int32.ofInt x * Int32.ofInt y := by rw [mm_ofw, Int32.ofInt_mul]
    rw [← ee]
    exact hnx _ _ _ h H locs la (t.st (mm_n1 (v := .inl (mm_w (x * y))) (mm_w_R _) t5))
  | iand =>
    have hd : decode cc pc = .ok (.iand, 1) := hd
    obtain ⟨y, st1, rfl, h⟩ := mm_pi_e h
    obtain ⟨x, st2, rfl, h⟩ := mm_pi_e h
    intro H locs la t
    obtain ⟨t1, t2, t3, t4, t5, t6, t7⟩ := id t
    obtain ⟨ny, t5⟩ := mm_n2 t5
    obtain ⟨nx', t5⟩ := mm_n2 t5
    refine lv_iand hx hb hd ?_
    have ee : Int32.ofInt (mm_and x y) = Int32.ofInt x &&& Int32.ofInt y := by unfold mm_and; rw [Int32.ofInt_toInt]
    rw [← ee]
    exact hnx _ _ _ h H locs la (t.st (mm_n1 (v := .inl (mm_and x y)) (mm_toR _) t5))
  | ior =>
    have hd : decode cc pc = .ok (.ior, 1) := hd
    obtain ⟨y, st1, rfl, h⟩ := mm_pi_e h
    obtain ⟨x, st2, rfl, h⟩ := mm_pi_e h
    intro H locs la t
    obtain ⟨t1, t2, t3, t4, t5, t6, t7⟩ := id t
    obtain ⟨ny, t5⟩ := mm_n2 t5
    obtain ⟨nx', t5⟩ := mm_n2 t5
    refine lv_ior hx hb hd ?_
    have ee : Int32.ofInt (mm_or x y) = Int32.ofInt x ||| Int32.ofInt y := by unfold mm_or; rw [Int32.ofInt_toInt]
    rw [← ee]
    exact hnx _ _ _ h H locs la (t.st (mm_n1 (v := .inl (mm_or x y)) (mm_toR _) t5))
  | ishl =>
    have hd : decode cc pc = .ok (.ishl, 1) := hd
    obtain ⟨y, st1, rfl, h⟩ := mm_pi_e h
    obtain ⟨x, st2, rfl, h⟩ := mm_pi_e h
    intro H locs la t
    obtain ⟨t1, t2, t3, t4, t5, t6, t7⟩ := id t
    obtain ⟨ny, t5⟩ := mm_n2 t5
    obtain ⟨nx', t5⟩ := mm_n2 t5
    refine lv_ishl hx hb hd ?_
    have ee : Int32.ofInt (mm_shl x y) = Int32.ofInt x <<< (Int32.ofInt y &&& 31) := by unfold mm_shl; rw [Int32.ofInt_toInt]
    rw [← ee]
    exact hnx _ _ _ h H locs la (t.st (mm_n1 (v := .inl (mm_shl x y)) (mm_toR _) t5))
  | ishr =>
    have hd : decode cc pc = .ok (.ishr, 1) := hd
    obtain ⟨y, st1, rfl, h⟩ := mm_pi_e h
    obtain ⟨x, st2, rfl, h⟩ := mm_pi_e h
    intro H locs la t
    obtain ⟨t1, t2, t3, t4, t5, t6, t7⟩ := id t
    obtain ⟨ny, t5⟩ := mm_n2 t5
    obtain ⟨nx', t5⟩ := mm_n2 t5
    refine lv_ishr hx hb hd ?_
    have ee : Int32.ofInt (mm_shr x y) = Int32.ofInt x >>> (Int32.ofInt y &&& 31) := by unfold mm_shr; rw [Int32.ofInt_toInt]
    rw [← ee]
    exact hnx _ _ _ h H locs la (t.st (mm_n1 (v := .inl (mm_shr x y)) (mm_toR _) t5))
  | idiv =>
    have hd : decode cc pc = .ok (.idiv, 1) := hd
    obtain ⟨y, st1, rfl, h⟩ := mm_pi_e h
    obtain ⟨x, st2, rfl, h⟩ := mm_pi_e h
    obtain ⟨hnz, h⟩ := h
    intro H locs la t
    obtain ⟨t1, t2, t3, t4, t5, t6, t7⟩ := id t
    obtain ⟨ny, t5⟩ := mm_n2 t5
    obtain ⟨nx', t5⟩ := mm_n2 t5
    refine lv_idiv hx hb hd (fun q => hnz ((mm_eq ny mm_R0).mp q)) ?_
    have ee : Int32.ofInt (mm_div x y) = Int32.ofInt x / Int32.ofInt y := (mm_div_eq nx' ny).symm
    rw [← ee]
    exact hnx _ _ _ h H locs la (t.st (mm_n1 (v := .inl (mm_div x y)) (mm_w_R _) t5))
  | irem =>
    have hd : decode cc pc = .ok (.irem, 1) := hd
    obtain ⟨y, st1, rfl, h⟩ := mm_pi_e h
    obtain ⟨x, st2, rfl, h⟩ := mm_pi_e h
    obtain ⟨hnz, h⟩ := h
    intro H locs la t
    obtain ⟨t1, t2, t3, t4, t5, t6, t7⟩ := id t
    obtain ⟨ny, t5⟩ := mm_n2 t5
    obtain ⟨nx', t5⟩ := mm_n2 t5
    refine lv_irem hx hb hd (fun q => hnz ((mm_eq ny mm_R0).mp q)) ?_
    have ee : Int32.ofInt (mm_rem x y) = Int32.ofInt x - Int32.ofInt x / Int32.ofInt y * Int32.ofInt y := (mm_rem_eq nx' ny).symm
    rw [← ee]
    exact hnx _ _ _ h H locs la (t.st (mm_n1 (v := .inl (mm_rem x y)) (mm_tmod_R nx') t5))
  | ladd =>
    have hd : decode cc pc = .ok (.ladd, 1) := hd
    obtain ⟨y, st1, rfl, h⟩ := mm_pl_e h
    obtain ⟨x, st2, rfl, h⟩ := mm_pl_e h
    intro H locs la t
    obtain ⟨t1, t2, t3, t4, t5, t6, t7⟩ := id t
    obtain ⟨ny, t5⟩ := mm_n2 t5
    obtain ⟨nx', t5⟩ := mm_n2 t5
    refine lv_ladd hx hb hd ?_
    have ee : Int64.ofInt (mm_wl (x + y)) = Int64.ofInt x + Int64.ofInt y := by rw [mm_ofwl, Int64.ofInt_add]
    rw [← ee]
    exact hnx _ _ _ h H locs la (t.st (mm_n1 (v := .inr (.inl (mm_wl (x + y)))) (mm_wl_R _) t5))
  | lsub =>
    have hd : decode cc pc = .ok (.lsub, 1) := hd
    obtain ⟨y, st1, rfl, h⟩ := mm_pl_e h
    obtain ⟨x, st2, rfl, h⟩ := mm_pl_e h
    intro H locs la t
    obtain ⟨t1, t2, t3, t4, t5, t6, t7⟩ := id t
    obtain ⟨ny, t5⟩ := mm_n2 t5
    obtain ⟨nx', t5⟩ := mm_n2 t5
    refine lv_lsub hx hb hd ?_
    have ee : Int64.ofInt (mm_wl (x - y)) = Int64.ofInt x - Int64.ofInt y := by rw [mm_ofwl, Int64.ofInt_sub]
    rw [← ee]
    exact hnx _ _ _ h H locs la (t.st (mm_n1 (v := .inr (.inl (mm_wl (x - y)))) (mm_wl_R _) t5))
  | lmul =>
    have hd : decode cc pc = .ok (.lmul, 1) := hd
    obtain ⟨y, st1, rfl, h⟩ := mm_pl_e h
    obtain ⟨x, st2, rfl, h⟩ := mm_pl_e h
    intro H locs la t
    obtain ⟨t1, t2, t3, t4, t5, t6, t7⟩ := id t
    obtain ⟨ny, t5⟩ := mm_n2 t5
    obtain ⟨nx', t5⟩ := mm_n2 t5
    refine lv_lmul hx hb hd ?_
    have ee : Int64.ofInt (mm_wl (x * y)) = Int64.ofInt x * Int64.ofInt y := by rw [mm_ofwl, Int64.ofInt_mul]
    rw [← ee]
    exact hnx _ _ _ h H locs la (t.st (mm_n1 (v := .inr (.inl (mm_wl (x * y)))) (mm_wl_R _) t5))
  | ldiv =>
    have hd : decode cc pc = .ok (.ldiv, 1) := hd
    obtain ⟨y, st1, rfl, h⟩ := mm_pl_e h
    obtain ⟨x, st2, rfl, h⟩ := mm_pl_e h
    obtain ⟨hnz, h⟩ := h
    intro H locs la t
    obtain ⟨t1, t2, t3, t4, t5, t6, t7⟩ := id t
    obtain ⟨ny, t5⟩ := mm_n2 t5
    obtain ⟨nx', t5⟩ := mm_n2 t5
    refine lv_ldiv hx hb hd (fun q => hnz ((mm_eql ny mm_RL0).mp q)) ?_
    have ee : Int64.ofInt (mm_divl x y) = Int64.ofInt x / Int64.ofInt y := (mm_divl_eq nx' ny).symm
    rw [← ee]
    exact hnx _ _ _ h H locs la (t.st (mm_n1 (v := .inr (.inl (mm_divl x y))) (mm_wl_R _) t5))
  | lrem =>
    have hd : decode cc pc = .ok (.lrem, 1) := hd
    obtain ⟨y, st1, rfl, h⟩ := mm_pl_e h
    obtain ⟨x, st2, rfl, h⟩ := mm_pl_e h
    obtain ⟨hnz, h⟩ := h
    intro H locs la t
    obtain ⟨t1, t2, t3, t4, t5, t6, t7⟩ := id t
    obtain ⟨ny, t5⟩ := mm_n2 t5
    obtain ⟨nx', t5⟩ := mm_n2 t5
    refine lv_lrem hx hb hd (fun q => hnz ((mm_eql ny mm_RL0).mp q)) ?_
    have ee : Int64.ofInt (mm_reml x y) = Int64.ofInt x - Int64.ofInt x / Int64.ofInt y * Int64.ofInt y := (mm_reml_eq nx' ny).symm
    rw [← ee]
    exact hnx _ _ _ h H locs la (t.st (mm_n1 (v := .inr (.inl (mm_reml x y))) (mm_tmod_RL nx') t5))
  | lcmp =>
    have hd : decode cc pc = .ok (.lcmp, 1) := hd
    obtain ⟨y, st1, rfl, h⟩ := mm_pl_e h
    obtain ⟨x, st2, rfl, h⟩ := mm_pl_e h
    intro H locs la t
    obtain ⟨t1, t2, t3, t4, t5, t6, t7⟩ := id t
    obtain ⟨ny, t5⟩ := mm_n2 t5
    obtain ⟨nx', t5⟩ := mm_n2 t5
    refine W.lcmp hx hb hd ?_
    rw [mm_cmp_eq nx' ny]
    exact hnx _ _ _ h H locs la (t.st (mm_n1 (v := .inl (mm_cmp x y)) (mm_cmp_R _ _) t5))
  | i2l =>
    have hd : decode cc pc = .ok (.i2l, 1) := hd
    obtain ⟨x, st1, rfl, h⟩ := mm_pi_e h
    intro H locs la t
    obtain ⟨t1, t2, t3, t4, t5, t6, t7⟩ := id t
    obtain ⟨hn, t5⟩ := mm_n2 t5
    have hl : mm_RL x := ⟨by have := hn.1; omega, by have := hn.2; omega⟩
    refine lv_i2l (v := Int64.ofInt x) hx hb hd (by rw [← Int64.toInt_inj, Int32.toInt_toInt64, mm_t hn, mm_tl hl]) ?_
    exact hnx _ _ _ h H locs la (t.st (mm_n1 (v := .inr (.inl x)) hl t5))
  | l2i =>
    have hd : decode cc pc = .ok (.l2i, 1) := hd
    obtain ⟨x, st1, rfl, h⟩ := mm_pl_e h
    intro H locs la t
    obtain ⟨t1, t2, t3, t4, t5, t6, t7⟩ := id t
    obtain ⟨hn, t5⟩ := mm_n2 t5
    refine lv_l2i (v := Int32.ofInt (mm_w x)) hx hb hd (by rw [← Int32.toInt_inj, Int64.toInt_toInt32, mm_tl hn, mm_t (mm_w_R _)]; rfl) ?_
    exact hnx _ _ _ h H locs la (t.st (mm_n1 (v := .inl (mm_w x)) (mm_w_R _) t5))
  | iinc n z =>
    have hd : decode cc pc = .ok (.iinc n z, 3) := hd
    obtain ⟨x, hz, h⟩ := mm_li_e h
    obtain ⟨hk, h⟩ := mm_chk_e h
    rw [Bool.and_eq_true] at hk
    intro H locs la t
    obtain ⟨t1, t2, t3, t4, t5, t6, t7⟩ := id t
    obtain ⟨kk, hkk⟩ := mm_lv_ix (ad := ad) hz
    refine lv_iinc (v := Int32.ofInt (mm_w (x + z))) hx hb hd t3 hkk (by rw [mm_ofw, Int32.ofInt_add]) (by rw [← t4]; exact Nat.blt_eq.mp hk.1) rfl (fun la' hl => ?_)
    exact hnx _ _ _ h H locs la' (t.set1 t5 (v := .inl (mm_w (x + z))) (mm_w_R _) hk.2 hl)
  | dup =>
    have hd : decode cc pc = .ok (.dup, 1) := hd
    simp only [mm_in] at h
    split at h
    · rename_i v st1
      obtain ⟨hk, h⟩ := mm_chk_e h
      intro H locs la t
      obtain ⟨t1, t2, t3, t4, t5, t6, t7⟩ := id t
      refine lv_dup hx hb hd (by rw [mm_cat_eq]; exact Nat.eq_of_beq_eq_true hk) ?_
      exact hnx _ _ _ h H locs la (t.st (mm_n1 (mm_n2 t5).1 t5))
    · exact h.elim
  | dup2 =>
    have hd : decode cc pc = .ok (.dup2, 1) := hd
    simp only [mm_in] at h
    split at h
    · rename_i v w st1
      obtain ⟨hk, h⟩ := mm_chk_e h
      rw [Bool.and_eq_true] at hk
      intro H locs la t
      obtain ⟨t1, t2, t3, t4, t5, t6, t7⟩ := id t
      refine lv_dup2_11 hx hb hd (by rw [mm_cat_eq]; exact Nat.eq_of_beq_eq_true hk.1) (by rw [mm_cat_eq]; exact Nat.eq_of_beq_eq_true hk.2) ?_
      exact hnx _ _ _ h H locs la (t.st (mm_n1 (mm_n2 t5).1 (mm_n1 (mm_n2 (mm_n2 t5).2).1 t5)))
    · exact h.elim
  | goto o =>
    have hd : decode cc pc = .ok (.goto o, 3) := hd
    simp only [mm_in] at h
    split at h
    · rename_i tt
      intro H locs la t
      exact lv_goto hx hb hd (htg tt rfl) (hjp _ _ _ _ h H locs la t)
    · exact h.elim
  | ifCond cd o =>
    have hd : decode cc pc = .ok (.ifCond cd o, 3) := hd
    simp only [mm_in] at h
    split at h
    · rename_i tt
      obtain ⟨x, st1, rfl, h⟩ := mm_pi_e h
      intro H locs la t
      obtain ⟨t1, t2, t3, t4, t5, t6, t7⟩ := id t
      obtain ⟨hn, t5⟩ := mm_n2 t5
      have h := mm_bt_e h hn mm_R0
      have hT := t.st t5
      cases cd
      · exact lv_if_eq hx hb hd (htg tt rfl) (fun q => hjp _ _ _ _ (h.1 q) H locs la hT) (fun q => hnx _ _ _ (h.2 q) H locs la hT)
      · exact lv_if_ne hx hb hd (htg tt rfl) (fun q => hjp _ _ _ _ (h.1 q) H locs la hT) (fun q => hnx _ _ _ (h.2 q) H locs la hT)
      · exact lv_if_lt hx hb hd (htg tt rfl) (fun q => hjp _ _ _ _ (h.1 q) H locs la hT) (fun q => hnx _ _ _ (h.2 q) H locs la hT)
      · exact lv_if_ge hx hb hd (htg tt rfl) (fun q => hjp _ _ _ _ (h.1 q) H locs la hT) (fun q => hnx _ _ _ (h.2 q) H locs la hT)
      · exact lv_if_gt hx hb hd (htg tt rfl) (fun q => hjp _ _ _ _ (h.1 q) H locs la hT) (fun q => hnx _ _ _ (h.2 q) H locs la hT)
      · exact lv_if_le hx hb hd (htg tt rfl) (fun q => hjp _ _ _ _ (h.1 q) H locs la hT) (fun q => hnx _ _ _ (h.2 q) H locs la hT)
    · exact h.elim
  | if_icmp cd o =>
    have hd : decode cc pc = .ok (.if_icmp cd o, 3) := hd
    simp only [mm_in] at h
    split at h
    · rename_i tt
      obtain ⟨y, st1, rfl, g⟩ := mm_pi_e h
      obtain ⟨x, st2, rfl, h⟩ := mm_pi_e g
      intro H locs la t
      obtain ⟨t1, t2, t3, t4, t5, t6, t7⟩ := id t
      obtain ⟨ny, t5⟩ := mm_n2 t5
      obtain ⟨hn, t5⟩ := mm_n2 t5
      have h := mm_bt_e h hn ny
      have hT := t.st t5
      cases cd
      · exact lv_icmp_eq hx hb hd (htg tt rfl) (fun q => hjp _ _ _ _ (h.1 q) H locs la hT) (fun q => hnx _ _ _ (h.2 q) H locs la hT)
      · exact lv_icmp_ne hx hb hd (htg tt rfl) (fun q => hjp _ _ _ _ (h.1 q) H locs la hT) (fun q => hnx _ _ _ (h.2 q) H locs la hT)
      · exact lv_icmp_lt hx hb hd (htg tt rfl) (fun q => hjp _ _ _ _ (h.1 q) H locs la hT) (fun q => hnx _ _ _ (h.2 q) H locs la hT)
      · exact lv_icmp_ge hx hb hd (htg tt rfl) (fun q => hjp _ _ _ _ (h.1 q) H locs la hT) (fun q => hnx _ _ _ (h.2 q) H locs la hT)
      · exact lv_icmp_gt hx hb hd (htg tt rfl) (fun q => hjp _ _ _ _ (h.1 q) H locs la hT) (fun q => hnx _ _ _ (h.2 q) H locs la hT)
      · exact lv_icmp_le hx hb hd (htg tt rfl) (fun q => hjp _ _ _ _ (h.1 q) H locs la hT) (fun q => hnx _ _ _ (h.2 q) H locs la hT)
    · exact h.elim
  | tableswitch d lo hi os =>
    obtain ⟨nn, hd⟩ : ∃ n, decode cc pc = .ok (.tableswitch d lo hi os, n) := hd
    simp only [mm_in] at h
    split at h
    · rename_i tt ts
      obtain ⟨x, st1, rfl, h1, h2⟩ := mm_pi_e h
      obtain ⟨g1, g2⟩ : (d :: os.toList).map (fun o => (pc : Int) + o) = (tt :: ts).map (fun t : Nat => (t : Int)) ∧ hi - lo + 1 = (os.toList.length : Int) := htg
      simp only [List.map_cons, List.cons.injEq] at g1
      intro H locs la t
      obtain ⟨t1, t2, t3, t4, t5, t6, t7⟩ := id t
      obtain ⟨hn, t5⟩ := mm_n2 t5
      have hT := t.st t5
      by_cases hc : x < lo ∨ hi < x
      · exact lv_tableOut hx hb hd (by rw [mm_t hn]; exact hc) g1.1 (hjp _ _ _ _ (h1 hc) H locs la hT)
      · have hj : (x - lo).toNat < os.toList.length := by omega
        obtain ⟨off, ho⟩ : ∃ o, os.toList[(x - lo).toNat]? = some o := ⟨_, List.getElem?_eq_getElem hj⟩
        have hm : (ts.map (fun t : Nat => (t : Int)))[(x - lo).toNat]? = some ((pc : Int) + off) := by rw [← g1.2, List.getElem?_map, ho]; rfl
        rw [List.getElem?_map] at hm
        cases hq : ts[(x - lo).toNat]? with
        | none => rw [hq] at hm; cases hm
        | some tq =>
          rw [hq] at hm
          have hm : ((tq : Nat) : Int) = (pc : Int) + off := Option.some.inj hm
          exact lv_tableIn (off := off) (tgt := tq) hx hb hd (by rw [mm_t hn]; omega) (by rw [mm_t hn]; omega) (by rw [mm_t hn, ← Array.getElem?_toList]; exact ho) hm.symm (hjp _ _ _ _ (mm_swc_e h2 (x - lo).toNat hq (by omega)) H locs la hT)
    · exact h.elim
  | lookupswitch d ps =>
    obtain ⟨nn, hd⟩ : ∃ n, decode cc pc = .ok (.lookupswitch d ps, n) := hd
    simp only [mm_in] at h
    split at h
    · rename_i tt ts
      obtain ⟨x, st1, rfl, h1, h2⟩ := mm_pi_e h
      obtain ⟨g1, g2⟩ : (d :: ps.toList.map (·.2)).map (fun o => (pc : Int) + o) = (tt :: ts).map (fun t : Nat => (t : Int)) ∧ _ := htg
      simp only [List.map_cons, List.cons.injEq] at g1
      intro H locs la t
      obtain ⟨t1, t2, t3, t4, t5, t6, t7⟩ := id t
      obtain ⟨hn, t5⟩ := mm_n2 t5
      have hT := t.st t5
      rcases mm_lkc_e (d := d) (pc := pc) ps.toList ts h1 h2 g1.2 with ⟨hX, he⟩ | ⟨tq, hX, he⟩
      · exact lv_lookup (off := d) (tgt := tt) hx hb hd g2 (by rw [mm_t hn]; exact he) g1.1 (hjp _ _ _ _ hX H locs la hT)
      · exact lv_lookup (tgt := tq) hx hb hd g2 (by rw [mm_t hn]) he (hjp _ _ _ _ hX H locs la hT)
    · exact h.elim
  | getfield n =>
    have hd : decode cc pc = .ok (.getfield n, 3) := hd
    simp only [mm_in] at h
    split at h
    · rename_i ci k tt hf
      obtain ⟨q, st1, rfl, h⟩ := mm_pr_e h
      obtain ⟨hk, h⟩ := mm_chk_e h
      have hs := mm_kd_e hk
      obtain ⟨f1, ⟨C, T, N, ty0, c1, c2, c3, c4, c5, c6⟩, f3⟩ := hfl n ci k tt hf
      have hkN : k < N := by rw [← c5]; exact (List.getElem?_eq_some_iff.mp f1).1
      intro H locs la t
      obtain ⟨t1, t2, t3, t4, t5, t6, t7⟩ := id t
      obtain ⟨-, t5⟩ := mm_n2 t5
      refine va_get (v := mm_rv ad (mm_fv ci k tt q M)) hx hb hts c2 hown hK t1 q (mm_W_get hs) c1 k hkN (hts _ (f3 _ c1)) (fun _ z => z) ?_ hd ?_
      · rw [mm_fs_get, f1]
        simp only [Option.map_some, Nat.zero_add]
        rw [mm_fval_eq]
      · refine hnx _ _ _ h H locs la (t.st (mm_n1 ?_ t5))
        have hty : mm_ty lay q k = tt := by
          unfold mm_ty
          rw [hs]
          simp [List.getD, f1]
        have hq := t7 q k
        rw [hty] at hq
        unfold mm_fv
        split
        · exact hq.2 rfl
        · trivial
        · trivial
        · rename_i z1 z2 z3
          rcases c6 k tt f1 with rfl | ⟨-, hz⟩
          · exact absurd rfl z2
          · have : tt = 0 ∨ tt = 4 := by
              unfold mm_tyk at hz
              split at hz <;> first | exact Or.inl rfl | exact Or.inr rfl | exact absurd rfl z1 | exact absurd rfl z3 | exact hz.elim
            exact hq.1 this
    · exact h.elim
  | putfield n =>
    have hd : decode cc pc = .ok (.putfield n, 3) := hd
    simp only [mm_in] at h
    split at h
    · rename_i ci k tt hf
      obtain ⟨f1, ⟨C, T, N, ty0, c1, c2, c3, c4, c5, c6⟩, f3⟩ := hfl n ci k tt hf
      have hkN : k < N := by rw [← c5]; exact (List.getElem?_eq_some_iff.mp f1).1
      have hkL : ∀ q (f : Nat → Int), k < (mm_fs ad ci q f 0 (mm_fts ci)).length := fun q f => by rw [mm_fs_len, c5]; exact hkN
      have hty : ∀ q, lay[q]? = some (.inl ci) → mm_ty lay q k = tt := fun q hs => by
        unfold mm_ty
        rw [hs]
        simp [List.getD, f1]
      have hup : ∀ (q : Nat) (M : mm_M) (z : Int), mm_up M q k z q = fun i => if i = k then z else M q i := fun q M z => by
        funext i; simp [mm_up]
      split at h
      · obtain ⟨z, st1, rfl, g⟩ := mm_pi_e h
        obtain ⟨q, st2, rfl, g2⟩ := mm_pr_e g
        obtain ⟨hk, h⟩ := mm_chk_e g2
        have hs := mm_kd_e hk
        obtain ⟨hfin, hz0⟩ : (T k).2.2.2 = false ∧ mm_tyk 0 (ty0 k) := by
          rcases c6 k 0 f1 with q | q
          · cases q
          · exact q
        have hd0 := c3 k hkN
        rw [show ty0 k = FieldType.int from hz0] at hd0
        intro H locs la t
        obtain ⟨t1, t2, t3, t4, t5, t6, t7⟩ := id t
        obtain ⟨nz, t5⟩ := mm_n2 t5
        obtain ⟨-, t5⟩ := mm_n2 t5
        refine va_put (v := .int (Int32.ofInt z)) hx hb hts c2 ty0 c3 c4 hown hK t1 (hD M) t2 q (mm_W_get hs) c1 k hkN (hts _ (f3 _ c1)) (fun _ z => z) hfin hd0 rfl rfl (hkL _ _) hd (fun H1 locs1 hP1 _ hS1 => ?_)
        have hce : (Sum.inr (ci, (mm_fs ad ci q (M q) 0 (mm_fts ci)).set k (.int (Int32.ofInt z))) : va_E) = mm_cell cA ad q (.inl ci) (mm_up M q k z q) := by
          rw [hup]
          show _ = Sum.inr (ci, mm_fs ad ci q (fun i => if i = k then z else M q i) 0 (mm_fts ci))
          rw [← mm_fs_set f1]
          simp [mm_fval]
        rw [mm_W_set hs hce] at hP1
        exact hnx _ _ _ h H1 locs1 la ⟨hP1, hS1, t3, t4, t5, t6, mm_NM_up t7 (fun _ => nz) (fun g => by rw [hty q hs] at g; cases g)⟩
      · obtain ⟨z, st1, rfl, g⟩ := mm_pl_e h
        obtain ⟨q, st2, rfl, g2⟩ := mm_pr_e g
        obtain ⟨hk, h⟩ := mm_chk_e g2
        have hs := mm_kd_e hk
        obtain ⟨hfin, hz0⟩ : (T k).2.2.2 = false ∧ mm_tyk 1 (ty0 k) := by
          rcases c6 k 1 f1 with q | q
          · cases q
          · exact q
        have hd0 := c3 k hkN
        rw [show ty0 k = FieldType.long from hz0] at hd0
        intro H locs la t
        obtain ⟨t1, t2, t3, t4, t5, t6, t7⟩ := id t
        obtain ⟨nz, t5⟩ := mm_n2 t5
        obtain ⟨-, t5⟩ := mm_n2 t5
        refine va_put (v := .long (Int64.ofInt z)) hx hb hts c2 ty0 c3 c4 hown hK t1 (hD M) t2 q (mm_W_get hs) c1 k hkN (hts _ (f3 _ c1)) (fun _ z => z) hfin hd0 rfl rfl (hkL _ _) hd (fun H1 locs1 hP1 _ hS1 => ?_)
        have hce : (Sum.inr (ci, (mm_fs ad ci q (M q) 0 (mm_fts ci)).set k (.long (Int64.ofInt z))) : va_E) = mm_cell cA ad q (.inl ci) (mm_up M q k z q) := by
          rw [hup]
          show _ = Sum.inr (ci, mm_fs ad ci q (fun i => if i = k then z else M q i) 0 (mm_fts ci))
          rw [← mm_fs_set f1]
          simp [mm_fval]
        rw [mm_W_set hs hce] at hP1
        exact hnx _ _ _ h H1 locs1 la ⟨hP1, hS1, t3, t4, t5, t6, mm_NM_up t7 (fun g => by rw [hty q hs] at g; rcases g with g | g <;> cases g) (fun _ => nz)⟩
      · obtain ⟨z, st1, rfl, g⟩ := mm_pr_e h
        obtain ⟨q, st2, rfl, g2⟩ := mm_pr_e g
        obtain ⟨hk, h⟩ := mm_chk_e g2
        have hs := mm_kd_e hk
        obtain ⟨hfin, hz0⟩ : (T k).2.2.2 = false ∧ mm_tyk 3 (ty0 k) := by
          rcases c6 k 3 f1 with q | q
          · cases q
          · exact q
        have hd0 := c3 k hkN
        rw [show ty0 k = FieldType.array .int from hz0] at hd0
        intro H locs la t
        obtain ⟨t1, t2, t3, t4, t5, t6, t7⟩ := id t
        obtain ⟨nz, t5⟩ := mm_n2 t5
        obtain ⟨-, t5⟩ := mm_n2 t5
        refine va_put (v := .ref (ad z)) hx hb hts c2 ty0 c3 c4 hown hK t1 (hD M) t2 q (mm_W_get hs) c1 k hkN (hts _ (f3 _ c1)) (fun _ z => z) hfin hd0 rfl rfl (hkL _ _) hd (fun H1 locs1 hP1 _ hS1 => ?_)
        have hce : (Sum.inr (ci, (mm_fs ad ci q (M q) 0 (mm_fts ci)).set k (.ref (ad z))) : va_E) = mm_cell cA ad q (.inl ci) (mm_up M q k (z : Int) q) := by
          rw [hup]
          show _ = Sum.inr (ci, mm_fs ad ci q (fun i => if i = k then (z : Int) else M q i) 0 (mm_fts ci))
          rw [← mm_fs_set f1]
          simp [mm_fval]
        rw [mm_W_set hs hce] at hP1
        exact hnx _ _ _ h H1 locs1 la ⟨hP1, hS1, t3, t4, t5, t6, mm_NM_up t7 (fun g => by rw [hty q hs] at g; rcases g with g | g <;> cases g) (fun g => by rw [hty q hs] at g; cases g)⟩
      · obtain ⟨z, st1, rfl, g⟩ := mm_pi_e h
        obtain ⟨q, st2, rfl, g2⟩ := mm_pr_e g
        obtain ⟨hk, h⟩ := mm_chk_e g2
        rw [Bool.and_eq_true] at hk
        obtain ⟨hk, hz⟩ := hk
        have hz : z = 0 ∨ z = 1 := by simpa using hz
        have hs := mm_kd_e hk
        obtain ⟨hfin, hz0⟩ : (T k).2.2.2 = false ∧ mm_tyk 4 (ty0 k) := by
          rcases c6 k 4 f1 with q | q
          · cases q
          · exact q
        have hd0 := c3 k hkN
        rw [show ty0 k = FieldType.boolean from hz0] at hd0
        intro H locs la t
        obtain ⟨t1, t2, t3, t4, t5, t6, t7⟩ := id t
        obtain ⟨nz, t5⟩ := mm_n2 t5
        obtain ⟨-, t5⟩ := mm_n2 t5
        refine va_put (v := .int (Int32.ofInt z)) hx hb hts c2 ty0 c3 c4 hown hK t1 (hD M) t2 q (mm_W_get hs) c1 k hkN (hts _ (f3 _ c1)) (fun _ z => z) hfin hd0 (by rcases hz with rfl | rfl <;> rfl) (by rcases hz with rfl | rfl <;> rfl) (hkL _ _) hd (fun H1 locs1 hP1 _ hS1 => ?_)
        have hce : (Sum.inr (ci, (mm_fs ad ci q (M q) 0 (mm_fts ci)).set k (.int (Int32.ofInt z))) : va_E) = mm_cell cA ad q (.inl ci) (mm_up M q k z q) := by
          rw [hup]
          show _ = Sum.inr (ci, mm_fs ad ci q (fun i => if i = k then z else M q i) 0 (mm_fts ci))
          rw [← mm_fs_set f1]
          simp [mm_fval]
        rw [mm_W_set hs hce] at hP1
        exact hnx _ _ _ h H1 locs1 la ⟨hP1, hS1, t3, t4, t5, t6, mm_NM_up t7 (fun _ => nz) (fun g => by rw [hty q hs] at g; cases g)⟩
      · exact h.elim
    · exact h.elim
  | iaload =>
    have hd : decode cc pc = .ok (.iaload, 1) := hd
    obtain ⟨x, st1, rfl, h⟩ := mm_pi_e h
    obtain ⟨q, st2, rfl, h⟩ := mm_pr_e h
    obtain ⟨hk, hin, h⟩ := mm_chk_e h
    have hs := mm_ak_e (n := 0) (Nat.eq_of_beq_eq_true hk) (by decide)
    have hty : mm_ty lay q x.toNat = 0 := by unfold mm_ty; rw [hs]; rfl
    intro H locs la t
    obtain ⟨t1, t2, t3, t4, t5, t6, t7⟩ := id t
    obtain ⟨n1, t5⟩ := mm_n2 t5
    obtain ⟨-, t5⟩ := mm_n2 t5
    refine va_iald hx hb hK t1 q 0 (mm_W_get hs) rfl (mm_in_ok n1 hin) hd ?_
    rw [mm_cl n1]
    exact hnx _ _ _ h H locs la (t.st (mm_n1 (v := .inl (M q x.toNat)) ((t7 q x.toNat).1 (Or.inl hty)) t5))
  | laload =>
    have hd : decode cc pc = .ok (.laload, 1) := hd
    obtain ⟨x, st1, rfl, h⟩ := mm_pi_e h
    obtain ⟨q, st2, rfl, h⟩ := mm_pr_e h
    obtain ⟨hk, hin, h⟩ := mm_chk_e h
    have hs := mm_ak_e (n := 0) (Nat.eq_of_beq_eq_true hk) (by decide)
    have hty : mm_ty lay q x.toNat = 1 := by unfold mm_ty; rw [hs]; rfl
    intro H locs la t
    obtain ⟨t1, t2, t3, t4, t5, t6, t7⟩ := id t
    obtain ⟨n1, t5⟩ := mm_n2 t5
    obtain ⟨-, t5⟩ := mm_n2 t5
    refine va_lald hx hb hK t1 q 1 (mm_W_get hs) rfl (mm_in_ok n1 hin) hd ?_
    rw [mm_cl n1]
    exact hnx _ _ _ h H locs la (t.st (mm_n1 (v := .inr (.inl (M q x.toNat))) ((t7 q x.toNat).2 hty) t5))
  | baload =>
    have hd : decode cc pc = .ok (.baload, 1) := hd
    obtain ⟨x, st1, rfl, h⟩ := mm_pi_e h
    obtain ⟨q, st2, rfl, h⟩ := mm_pr_e h
    obtain ⟨hk, hin, h⟩ := mm_chk_e h
    have hs := mm_ak_e (n := 0) (Nat.eq_of_beq_eq_true hk) (by decide)
    have hty : mm_ty lay q x.toNat = 4 := by unfold mm_ty; rw [hs]; rfl
    intro H locs la t
    obtain ⟨t1, t2, t3, t4, t5, t6, t7⟩ := id t
    obtain ⟨n1, t5⟩ := mm_n2 t5
    obtain ⟨-, t5⟩ := mm_n2 t5
    refine va_zald hx hb hK t1 q 2 (mm_W_get hs) rfl (mm_in_ok n1 hin) hd ?_
    rw [mm_cl n1]
    exact hnx _ _ _ h H locs la (t.st (mm_n1 (v := .inl (M q x.toNat)) ((t7 q x.toNat).1 (Or.inr hty)) t5))
  | aaload =>
    have hd : decode cc pc = .ok (.aaload, 1) := hd
    obtain ⟨x, st1, rfl, h⟩ := mm_pi_e h
    obtain ⟨q, st2, rfl, h⟩ := mm_pr_e h
    obtain ⟨hk, hin, h⟩ := mm_chk_e h
    rw [Bool.and_eq_true] at hk
    have hk1 := Nat.le_of_ble_eq_true hk.1
    have hk2 := Nat.le_of_ble_eq_true hk.2
    have hs := mm_ak_e (lay := lay) (q := q) (n := 0) (t := (mm_ak lay q).1) rfl (by omega)
    intro H locs la t
    obtain ⟨t1, t2, t3, t4, t5, t6, t7⟩ := id t
    obtain ⟨n1, t5⟩ := mm_n2 t5
    obtain ⟨-, t5⟩ := mm_n2 t5
    generalize (mm_ak lay q).1 = tt at hs h hk1 hk2
    have h3 : tt = 3 ∨ tt = 4 ∨ tt = 5 := by omega
    rcases h3 with rfl | rfl | rfl
    · refine mm_aald hx hb hK t1 q 3 (mm_W_get hs) rfl rfl (mm_in_ok n1 hin) hd ?_
      rw [mm_cl n1]
      exact hnx _ _ _ h H locs la (t.st (mm_n1 (v := .inr (.inr (mm_el 3 q x.toNat))) trivial t5))
    · refine mm_aald hx hb hK t1 q 4 (mm_W_get hs) rfl rfl (mm_in_ok n1 hin) hd ?_
      rw [mm_cl n1]
      exact hnx _ _ _ h H locs la (t.st (mm_n1 (v := .inr (.inr (mm_el 4 q x.toNat))) trivial t5))
    · refine mm_aald hx hb hK t1 q 5 (mm_W_get hs) rfl rfl (mm_in_ok n1 hin) hd ?_
      rw [mm_cl n1]
      exact hnx _ _ _ h H locs la (t.st (mm_n1 (v := .inr (.inr (mm_el 5 q x.toNat))) trivial t5))
  | iastore =>
    have hd : decode cc pc = .ok (.iastore, 1) := hd
    obtain ⟨z, st1, rfl, h⟩ := mm_pi_e h
    obtain ⟨x, st2, rfl, h⟩ := mm_pi_e h
    obtain ⟨q, st3, rfl, h⟩ := mm_pr_e h
    obtain ⟨hk, hin, h⟩ := mm_chk_e h
    have hs := mm_ak_e (n := 0) (Nat.eq_of_beq_eq_true hk) (by decide)
    have hty : mm_ty lay q x.toNat = 0 := by unfold mm_ty; rw [hs]; rfl
    intro H locs la t
    obtain ⟨t1, t2, t3, t4, t5, t6, t7⟩ := id t
    obtain ⟨nz, t5⟩ := mm_n2 t5
    obtain ⟨n1, t5⟩ := mm_n2 t5
    obtain ⟨-, t5⟩ := mm_n2 t5
    refine va_iast hx hb hK t1 (hD M) t2 q 0 (mm_W_get hs) rfl (mm_in_ok n1 hin) hd (fun H1 locs1 hP1 _ hS1 => ?_)
    rw [mm_cl n1] at hP1
    rw [mm_W_set (k := x.toNat) (z := z) hs (by
      refine congrArg (fun g => (Sum.inl (cA 0, (mm_ak lay q).2, Sum.inl g) : va_E)) ?_
      funext k
      unfold upd mm_up
      simp only [if_pos]
      split <;> rfl)] at hP1
    exact hnx _ _ _ h H1 locs1 la ⟨hP1, hS1, t3, t4, t5, t6, mm_NM_up t7 (fun _ => nz) (fun g => by rw [hty] at g; cases g)⟩
  | lastore =>
    have hd : decode cc pc = .ok (.lastore, 1) := hd
    obtain ⟨z, st1, rfl, h⟩ := mm_pl_e h
    obtain ⟨x, st2, rfl, h⟩ := mm_pi_e h
    obtain ⟨q, st3, rfl, h⟩ := mm_pr_e h
    obtain ⟨hk, hin, h⟩ := mm_chk_e h
    have hs := mm_ak_e (n := 0) (Nat.eq_of_beq_eq_true hk) (by decide)
    have hty : mm_ty lay q x.toNat = 1 := by unfold mm_ty; rw [hs]; rfl
    intro H locs la t
    obtain ⟨t1, t2, t3, t4, t5, t6, t7⟩ := id t
    obtain ⟨nz, t5⟩ := mm_n2 t5
    obtain ⟨n1, t5⟩ := mm_n2 t5
    obtain ⟨-, t5⟩ := mm_n2 t5
    refine va_last hx hb hK t1 (hD M) t2 q 1 (mm_W_get hs) rfl (mm_in_ok n1 hin) hd (fun H1 locs1 hP1 _ hS1 => ?_)
    rw [mm_cl n1] at hP1
    rw [mm_W_set (k := x.toNat) (z := z) hs (by
      refine congrArg (fun g => (Sum.inl (cA 1, (mm_ak lay q).2, Sum.inr (Sum.inl g)) : va_E)) ?_
      funext k
      unfold vp_updL mm_up
      simp only [if_pos]
      split <;> rfl)] at hP1
    exact hnx _ _ _ h H1 locs1 la ⟨hP1, hS1, t3, t4, t5, t6, mm_NM_up t7 (fun g => by rw [hty] at g; rcases g with g | g <;> cases g) (fun _ => nz)⟩
  | bastore =>
    have hd : decode cc pc = .ok (.bastore, 1) := hd
    obtain ⟨z, st1, rfl, h⟩ := mm_pi_e h
    obtain ⟨x, st2, rfl, h⟩ := mm_pi_e h
    obtain ⟨q, st3, rfl, h⟩ := mm_pr_e h
    obtain ⟨hk, hin, h⟩ := mm_chk_e h
    rw [Bool.and_eq_true] at hk
    obtain ⟨hk, hz⟩ := hk
    have hz : z = 0 ∨ z = 1 := by simpa using hz
    have hzn : vp_nar .boolean (Int32.ofInt z) = Int32.ofInt z := by rcases hz with rfl | rfl <;> rfl
    have hs := mm_ak_e (n := 0) (Nat.eq_of_beq_eq_true hk) (by decide)
    have hty : mm_ty lay q x.toNat = 4 := by unfold mm_ty; rw [hs]; rfl
    intro H locs la t
    obtain ⟨t1, t2, t3, t4, t5, t6, t7⟩ := id t
    obtain ⟨nz, t5⟩ := mm_n2 t5
    obtain ⟨n1, t5⟩ := mm_n2 t5
    obtain ⟨-, t5⟩ := mm_n2 t5
    refine va_zast hx hb hK t1 (hD M) t2 q 2 (mm_W_get hs) rfl (mm_in_ok n1 hin) hd (fun H1 locs1 hP1 _ hS1 => ?_)
    rw [mm_cl n1, hzn] at hP1
    rw [mm_W_set (k := x.toNat) (z := z) hs (by
      refine congrArg (fun g => (Sum.inl (cA 2, (mm_ak lay q).2, Sum.inl g) : va_E)) ?_
      funext k
      unfold upd mm_up
      simp only [if_pos]
      split <;> rfl)] at hP1
    exact hnx _ _ _ h H1 locs1 la ⟨hP1, hS1, t3, t4, t5, t6, mm_NM_up t7 (fun _ => nz) (fun g => by rw [hty] at g; cases g)⟩
  | invokevirtual n =>
    have hd : decode cc pc = .ok (.invokevirtual n, 3) := hd
    simp only [mm_in] at h
    split at h
    · rename_i ci nn f hf
      exact mm_inv_ok C0 (hvt n ci nn f hf) hd hnx h
    · exact h.elim
  | invokestatic n =>
    have hd : decode cc pc = .ok (.invokestatic n, 3) := hd
    simp only [mm_in] at h
    split at h
    · rename_i ci nn f hf
      exact mm_inv_ok C0 (hsm n ci nn f hf) hd hnx h
    · exact h.elim
  | ireturn =>
    have hd : decode cc pc = .ok (.ireturn, 1) := hd
    simp only [mm_in] at h
    split at h
    · rename_i z
      unfold mm_ri at h
      intro H locs la t
      obtain ⟨t1, t2, t3, t4, t5, t6, t7⟩ := id t
      have hq : ∀ (hQ : Q (some (.inl z)) M) (tt : State), tt.heap = H → s.WarmedH tt.vm → mm_Qc lay cA ad D Q A args s (.returned (some (.int (Int32.ofInt z)))) tt := fun hQ tt e1 e2 =>
        ⟨⟨some (.inl z), M, rfl, hQ, fun v hv => by cases hv; exact (mm_n2 t5).1, t7, by rw [e1]; exact t1⟩, t2.F e1⟩
      split at h
      · exact W.iret hx hb hrt (hq h) t2.2.2 hd hlk
      · refine W.zret (ty := .boolean) hx hb hrt ?_ (hq h.2) t2.2.2 hd hlk
        rcases h.1 with rfl | rfl <;> rfl
      · exact h.elim
    · exact h.elim
  | lreturn =>
    have hd : decode cc pc = .ok (.lreturn, 1) := hd
    simp only [mm_in] at h
    split at h
    · rename_i z
      obtain ⟨hk, h⟩ := mm_chk_e h
      have hk := Nat.eq_of_beq_eq_true hk
      subst hk
      intro H locs la t
      obtain ⟨t1, t2, t3, t4, t5, t6, t7⟩ := id t
      exact W.lret hx hb hrt (fun tt e1 e2 => ⟨⟨some (.inr (.inl z)), M, rfl, h, fun v hv => by cases hv; exact (mm_n2 t5).1, t7, by rw [e1]; exact t1⟩, t2.F e1⟩) t2.2.2 hd hlk
    · exact h.elim
  | return_ =>
    have hd : decode cc pc = .ok (.return_, 1) := hd
    simp only [mm_in] at h
    split at h
    · obtain ⟨hk, h⟩ := mm_chk_e h
      have hk := Nat.eq_of_beq_eq_true hk
      subst hk
      intro H locs la t
      obtain ⟨t1, t2, t3, t4, t5, t6, t7⟩ := id t
      exact W.vret hx hb hrt (fun tt e1 e2 => ⟨⟨none, M, rfl, h, (fun v hv => by cases hv), t7, by rw [e1]; exact t1⟩, t2.F e1⟩) t2.2.2 hd hlk
    · exact h.elim
  | _ => exact h.elim
end MMI
end
section
/-! runs of the small machine between the cuts of a method; a method's contract; calls -/
abbrev mm_E : Type := Nat × Bool × Instr × List Nat
def mm_from (code : List mm_E) (t : Nat) : List mm_E := match code with
  | [] => []
  | e :: tl => match Nat.beq e.1 t with
    | true => e :: tl
    | false => mm_from tl t
def mm_go (lay : List mm_S) (fl : mm_Fl) (vt sm : mm_Cl) (ct : mm_Ct) (rt : Nat) (code : List mm_E) (K : Nat → mm_K) (Q : Option mm_V → mm_M → Prop) : Nat → List mm_E → mm_K
  | 0, _ => fun _ _ _ => False
  | _ + 1, [] => fun _ _ _ => False
  | n + 1, e :: tl => fun ls st M => match e.2.1 with
    | true => K e.1 ls st M
    | false => mm_in lay fl vt sm ct rt Q e.2.2.1 e.2.2.2 ls st M (mm_go lay fl vt sm ct rt code K Q n tl) (fun t => mm_go lay fl vt sm ct rt code K Q n (mm_from code t))
/-- from a place, its own cut apart -/
def mm_bk (lay : List mm_S) (fl : mm_Fl) (vt sm : mm_Cl) (ct : mm_Ct) (rt : Nat) (code : List mm_E) (K : Nat → mm_K) (Q : Option mm_V → mm_M → Prop) (n pc : Nat) : mm_K := fun ls st M => match mm_from code pc with
  | [] => False
  | e :: tl => mm_in lay fl vt sm ct rt Q e.2.2.1 e.2.2.2 ls st M (mm_go lay fl vt sm ct rt code K Q n tl) (fun t => mm_go lay fl vt sm ct rt code K Q n (mm_from code t))
def mm_sw (i : Instr) : Bool := match i with
  | .tableswitch _ _ _ _ | .lookupswitch _ _ => true
  | _ => false
def mm_eok (b : ByteArray) (own : String) (ct : mm_Ct) (e : mm_E) : Prop := mm_dec b e.1 e.2.2.1 ∧ mm_tg e.1 e.2.2.1 e.2.2.2 ∧ match e.2.2.1 with
  | .ldc n => ∀ z, ct n = some z → mm_R z ∧ Cond.constant own n (Int32.ofInt z) ∈ mm_tbl
  | .ldc2_w n => ∀ z, ct n = some z → mm_RL z ∧ Cond.constantLong own n (Int64.ofInt z) ∈ mm_tbl
  | _ => True
def mm_cok (b : ByteArray) (own : String) (ct : mm_Ct) : List mm_E → Prop
  | [] => True
  | e :: tl => mm_eok b own ct e ∧ (match tl with
    | [] => True
    | e2 :: _ => mm_sw e.2.2.1 = true ∨ e2.1 = e.1 + mm_ln e.2.2.1) ∧ mm_cok b own ct tl
theorem mm_from_e {code : List mm_E} {t : Nat} {e : mm_E} {tl : List mm_E} (h : mm_from code t = e :: tl) : e.1 = t := by
  induction code with
  | nil => cases h
  | cons a cs ih =>
    unfold mm_from at h
    split at h
    · rename_i hb
      cases h
      exact Nat.eq_of_beq_eq_true hb
    · exact ih h
theorem mm_from_ok {b : ByteArray} {own : String} {ct : mm_Ct} {code : List mm_E} {t : Nat} (h : mm_cok b own ct code) : mm_cok b own ct (mm_from code t) := by
  induction code with
  | nil => exact h
  | cons a cs ih =>
    unfold mm_from
    split
    · exact h
    · exact ih h.2.2
section MMM
variable {p : Program} {l : Launch} {e : Env} {R : Room} {s : State} {m : MethodId} {args : Array Value} {below : List Frame} {meth : Method} {c : Code}
variable {lay : List mm_S} {cA : Nat → ClassId} {ad : Nat → Nat} {D : va_G} {A : Nat → Prop} {own : String} {cc : ByteArray} {nL rt : Nat} {Q : Option mm_V → mm_M → Prop}
variable {fl : mm_Fl} {vt sm : mm_Cl} {ct : mm_Ct} {code : List mm_E} {K : Nat → mm_K}
theorem mm_in_sw {i : Instr} {ts : List Nat} {ls : mm_L} {st : List mm_V} {M : mm_M} {nx nx2 : mm_K} {jp : Nat → mm_K} (hs : mm_sw i = true) (h : mm_in lay fl vt sm ct rt Q i ts ls st M nx jp) : mm_in lay fl vt sm ct rt Q i ts ls st M nx2 jp := by
  cases i <;> first | exact absurd hs Bool.false_ne_true | exact h
theorem mm_go_ok (C0 : mm_Cx p s m args meth c lay cA ad D A own cc nL rt) (hfl : mm_flok own fl)
    (hvt : ∀ k ci n f, vt k = some (ci, n, f) → mm_CO p l e R s m args below meth c lay cA ad D A cc nL (.invokevirtual k) n (mm_rcv lay ci) f)
    (hsm : ∀ k ci n f, sm k = some (ci, n, f) → mm_CO p l e R s m args below meth c lay cA ad D A cc nL (.invokestatic k) n (fun _ => true) f)
    (hc : mm_cok cc own ct code) (hct : mm_ctok own ct) (hK : ∀ pc ls st M, K pc ls st M → mm_G p l e R s m args below meth c lay cA ad D A nL Q pc ls st M) :
    ∀ (n : Nat) (L : List mm_E) (ls : mm_L) (st : List mm_V) (M : mm_M), mm_cok cc own ct L → mm_go lay fl vt sm ct rt code K Q n L ls st M → ∃ x tl, L = x :: tl ∧ mm_G p l e R s m args below meth c lay cA ad D A nL Q x.1 ls st M
  | 0, L, ls, st, M, _, h => by unfold mm_go at h; exact h.elim
  | n + 1, [], ls, st, M, _, h => by unfold mm_go at h; exact h.elim
  | n + 1, x :: tl, ls, st, M, hL, h => by
    refine ⟨x, tl, rfl, ?_⟩
    unfold mm_go at h
    split at h
    · exact hK _ _ _ _ h
    · obtain ⟨⟨hd, htg, hcc⟩, hnext, htl⟩ := hL
      have hj : ∀ t ls st M, mm_go lay fl vt sm ct rt code K Q n (mm_from code t) ls st M → mm_G p l e R s m args below meth c lay cA ad D A nL Q t ls st M := fun t ls st M h => by
        obtain ⟨y, tl2, e1, h2⟩ := mm_go_ok C0 hfl hvt hsm hc hct hK n (mm_from code t) ls st M (mm_from_ok hc) h
        rw [mm_from_e e1] at h2
        exact h2
      by_cases hs : mm_sw x.2.2.1 = true
      · exact mm_sound1 (nx := fun _ _ _ => False) C0 hfl hct hcc hvt hsm hd htg (fun _ _ _ z => z.elim) hj (mm_in_sw hs h)
      · refine mm_sound1 C0 hfl hct hcc hvt hsm hd htg (fun ls st M h => ?_) hj h
        obtain ⟨y, tl2, e1, h2⟩ := mm_go_ok C0 hfl hvt hsm hc hct hK n tl ls st M htl h
        subst e1
        rcases hnext with hz | hz
        · exact absurd hz hs
        · rw [← hz]; exact h2
theorem mm_bk_ok (C0 : mm_Cx p s m args meth c lay cA ad D A own cc nL rt) (hfl : mm_flok own fl)
    (hvt : ∀ k ci n f, vt k = some (ci, n, f) → mm_CO p l e R s m args below meth c lay cA ad D A cc nL (.invokevirtual k) n (mm_rcv lay ci) f)
    (hsm : ∀ k ci n f, sm k = some (ci, n, f) → mm_CO p l e R s m args below meth c lay cA ad D A cc nL (.invokestatic k) n (fun _ => true) f)
    (hc : mm_cok cc own ct code) (hct : mm_ctok own ct) (hK : ∀ pc ls st M, K pc ls st M → mm_G p l e R s m args below meth c lay cA ad D A nL Q pc ls st M)
    {n pc : Nat} {ls : mm_L} {st : List mm_V} {M : mm_M} (h : mm_bk lay fl vt sm ct rt code K Q n pc ls st M) : mm_G p l e R s m args below meth c lay cA ad D A nL Q pc ls st M := by
  unfold mm_bk at h
  split at h
  · exact h.elim
  · rename_i x tl hx
    have hL : mm_cok cc own ct (x :: tl) := by rw [← hx]; exact mm_from_ok hc
    have hp := mm_from_e hx
    subst hp
    obtain ⟨⟨hd, htg, hcc⟩, hnext, htl⟩ := hL
    have hj : ∀ t ls st M, mm_go lay fl vt sm ct rt code K Q n (mm_from code t) ls st M → mm_G p l e R s m args below meth c lay cA ad D A nL Q t ls st M := fun t ls st M h => by
      obtain ⟨y, tl2, e1, h2⟩ := mm_go_ok C0 hfl hvt hsm hc hct hK n (mm_from code t) ls st M (mm_from_ok hc) h
      rw [mm_from_e e1] at h2
      exact h2
    by_cases hs : mm_sw x.2.2.1 = true
    · exact mm_sound1 (nx := fun _ _ _ => False) C0 hfl hct hcc hvt hsm hd htg (fun _ _ _ z => z.elim) hj (mm_in_sw hs h)
    · refine mm_sound1 C0 hfl hct hcc hvt hsm hd htg (fun ls st M h => ?_) hj h
      obtain ⟨y, tl2, e1, h2⟩ := mm_go_ok C0 hfl hvt hsm hc hct hK n tl ls st M htl h
      subst e1
      rcases hnext with hz | hz
      · exact absurd hz hs
      · rw [← hz]; exact h2
end MMM
/-! a method's contract -/
def mm_rm (d : Nat) : Room := { frames := d, cells := 0, slots := 0, locals := 64 * d }
def mm_B (lay : List mm_S) (cA : Nat → ClassId) (ad : Nat → Nat) (D : va_G) (sz : Nat) (as : List mm_V) (M : mm_M) (U : State) : Prop := U.heap.size = sz ∧ va_P D vwCl (mm_W lay cA ad M) U.heap ∧ va_K D vwCl (mm_tys cA) U ∧ (∀ w ∈ mm_nest, va_Nw w U) ∧ va_D (fun _ => True) (mm_W lay cA ad M) ∧ (∀ v ∈ as, mm_N v) ∧ mm_NM lay M
def mm_Ok (lay : List mm_S) (y : MethodName) (b : ByteArray) (nL : Nat) (ret : Option FieldType) (d : Nat) (f : mm_F) : Prop :=
  ∀ (l : Launch) (D : va_G) (cA : Nat → ClassId) (ad : Nat → Nat) (sz : Nat) (as : List mm_V) (M : mm_M) (Q : Option mm_V → mm_M → Prop), f as M Q → Met l y (.code y b nL ret :: mm_tbl) (mm_rm d) (va_Pc (as.map (mm_rv ad)) (mm_B lay cA ad D sz as M)) (mm_Qc lay cA ad D Q (va_A (mm_W lay cA ad M) sz)) 0 0 (va_A (mm_W lay cA ad M) sz)
def mm_args : List mm_V → mm_L
  | [] => []
  | .inr (.inl z) :: vs => some (.inr (.inl z)) :: none :: mm_args vs
  | v :: vs => some v :: mm_args vs
def mm_loc (as : List mm_V) (n : Nat) : mm_L := mm_args as ++ List.replicate (n - (mm_args as).length) none
theorem mm_args_lg (ad : Nat → Nat) : ∀ as : List mm_V, (lg_sl (as.map (mm_rv ad))).length = (mm_args as).length
  | [] => rfl
  | .inl z :: vs => by
    show ([Slot.val (.int (Int32.ofInt z))] ++ lg_sl (vs.map (mm_rv ad))).length = (mm_args vs).length + 1
    rw [List.length_append, mm_args_lg ad vs]; simp; omega
  | .inr (.inl z) :: vs => by
    show ([Slot.val (.long (Int64.ofInt z)), Slot.second] ++ lg_sl (vs.map (mm_rv ad))).length = (mm_args vs).length + 1 + 1
    rw [List.length_append, mm_args_lg ad vs]; simp; omega
  | .inr (.inr z) :: vs => by
    show ([Slot.val (.ref (ad z))] ++ lg_sl (vs.map (mm_rv ad))).length = (mm_args vs).length + 1
    rw [List.length_append, mm_args_lg ad vs]; simp; omega
theorem mm_args_lv (ad : Nat → Nat) : ∀ (as : List mm_V) (i k : Nat) (v : mm_V), (mm_args as)[k]? = some (some v) → (i + k, mm_rv ad v) ∈ lv_args i (as.map (mm_rv ad))
  | [], i, k, v, h => by simp [mm_args] at h
  | .inl z :: vs, i, 0, v, h => by
    cases (Option.some.inj (Option.some.inj h) : (Sum.inl z : mm_V) = v)
    exact List.mem_cons_self
  | .inl z :: vs, i, k + 1, v, h => by
    have h2 := mm_args_lv ad vs (i + 1) k v h
    rw [show i + 1 + k = i + (k + 1) by omega] at h2
    exact List.mem_cons_of_mem _ h2
  | .inr (.inr z) :: vs, i, 0, v, h => by
    cases (Option.some.inj (Option.some.inj h) : (Sum.inr (Sum.inr z) : mm_V) = v)
    exact List.mem_cons_self
  | .inr (.inr z) :: vs, i, k + 1, v, h => by
    have h2 := mm_args_lv ad vs (i + 1) k v h
    rw [show i + 1 + k = i + (k + 1) by omega] at h2
    exact List.mem_cons_of_mem _ h2
  | .inr (.inl z) :: vs, i, 0, v, h => by
    cases (Option.some.inj (Option.some.inj h) : (Sum.inr (Sum.inl z) : mm_V) = v)
    exact List.mem_cons_self
  | .inr (.inl z) :: vs, i, 1, v, h => by cases (Option.some.inj h : (none : Option mm_V) = some v)
  | .inr (.inl z) :: vs, i, k + 2, v, h => by
    have h2 := mm_args_lv ad vs (i + 2) k v h
    rw [show i + 2 + k = i + (k + 2) by omega] at h2
    exact List.mem_cons_of_mem _ h2
theorem mm_args_N : ∀ (as : List mm_V) (k : Nat) (v : mm_V), (mm_args as)[k]? = some (some v) → v ∈ as
  | [], k, v, h => by simp [mm_args] at h
  | .inl z :: vs, 0, v, h => by
    cases (Option.some.inj (Option.some.inj h) : (Sum.inl z : mm_V) = v)
    exact List.mem_cons_self
  | .inl z :: vs, k + 1, v, h => List.mem_cons_of_mem _ (mm_args_N vs k v h)
  | .inr (.inr z) :: vs, 0, v, h => by
    cases (Option.some.inj (Option.some.inj h) : (Sum.inr (Sum.inr z) : mm_V) = v)
    exact List.mem_cons_self
  | .inr (.inr z) :: vs, k + 1, v, h => List.mem_cons_of_mem _ (mm_args_N vs k v h)
  | .inr (.inl z) :: vs, 0, v, h => by
    cases (Option.some.inj (Option.some.inj h) : (Sum.inr (Sum.inl z) : mm_V) = v)
    exact List.mem_cons_self
  | .inr (.inl z) :: vs, 1, v, h => by cases (Option.some.inj h : (none : Option mm_V) = some v)
  | .inr (.inl z) :: vs, k + 2, v, h => List.mem_cons_of_mem _ (mm_args_N vs k v h)
theorem mm_loc_e {as : List mm_V} {n k : Nat} {v : mm_V} (h : (mm_loc as n)[k]? = some (some v)) : (mm_args as)[k]? = some (some v) := by
  unfold mm_loc at h
  rw [List.getElem?_append] at h
  split at h
  · exact h
  · rw [List.getElem?_replicate] at h
    split at h <;> cases h
theorem mm_blind {lay : List mm_S} {cA : Nat → ClassId} {ad : Nat → Nat} {D : va_G} {sz : Nat} {as : List mm_V} {M : mm_M} {av : List Value} : FrameBlind (va_Pc av (mm_B lay cA ad D sz as M)) := fun a U g mk q => by
  obtain ⟨q0, q1, q2, q3, q4, q5⟩ := q
  refine ⟨q0, q1, q2, va_K.moved (u := U) (U := U.calling g mk a) (Vm.Alike.refl U.vm) q3, fun w hw => ?_, q5⟩
  have hz := (List.mem_filter.mp hw).2
  cases w <;> first | exact absurd hz Bool.false_ne_true | exact va_Nw.same (u := U) (U := U.calling g mk a) rfl rfl (q4 _ hw)
theorem mm_enter {lay : List mm_S} {y : MethodName} {b : ByteArray} {nL rt : Nat} {ret : Option FieldType} {d : Nat} {f : mm_F} (hy : plainName y.cls = true) (hret : mm_rt rt ret)
    (hb : ∀ (p : Program) (l : Launch) (e : Env) (s : State) (m : MethodId) (args : Array Value) (below : List Frame) (meth : Method) (c : Code) (cA : Nat → ClassId) (ad : Nat → Nat) (D : va_G) (A : Nat → Prop) (as : List mm_V) (M : mm_M) (Q : Option mm_V → mm_M → Prop), f as M Q → mm_Cx p s m args meth c lay cA ad D A y.cls b nL rt → (mm_args as).length ≤ nL ∧ mm_G p l e (mm_rm d) s m args below meth c lay cA ad D A nL Q 0 (mm_loc as nL) [] M) : mm_Ok lay y b nL ret d f := by
  intro l D cA ad sz as M Q h
  refine Met.ofW (cc := b) (maxL := nL) (ret := ret) hy rfl ?_
  intro p e s m args below meth c s₁ B hml hv
  obtain ⟨rfl, hsz, hP, hK, hN, hD0, hN1, hN2⟩ := hv
  have hts := atoms_spec (ws := .code y b nL ret :: mm_tbl) B.pre
  have hown : s.vm.findClass y.cls = some m.cls := findClass_of_methodNamed B.named
  subst hsz
  have hD := hD0.self (sz := s.heap.size)
  have hA : ∀ q : Nat, s.heap.size ≤ q → va_A (mm_W lay cA ad M) s.heap.size q := fun q h => Or.inr h
  have hr := B.returns
  obtain ⟨h1, h2⟩ := hb p l e s m _ below meth c cA ad D (va_A (mm_W lay cA ad M) s.heap.size) as M Q h ⟨B.exec, B.bytes, hml, hown, fun w hw => hts w (List.mem_cons_of_mem _ hw), hK, hN, B.notSynchronized, by rw [hr]; exact hret, hA, fun M' => mm_D_of M' hD⟩
  have hl := lv_entry (as.map (mm_rv ad)) (n := nL) (by rw [mm_args_lg]; exact h1)
  rw [lg_entry_eq]
  refine h2 s.heap [] _ ⟨hP, va_S.rf, ⟨hl.1, hl.2.1, fun q hq => ?_⟩, ?_, fun v hv => (by cases hv), fun k v hk => hN1 v (mm_args_N as k v (mm_loc_e hk)), hN2⟩
  · obtain ⟨k, w⟩ := q
    obtain ⟨v, hv, rfl⟩ := mm_lv_mem.mp hq
    have h3 := mm_args_lv ad as 0 k v (mm_loc_e hv)
    rw [Nat.zero_add] at h3
    exact hl.2.2 _ h3
  · unfold mm_loc
    rw [List.length_append, List.length_replicate]
    omega
section MMC
variable {p : Program} {l : Launch} {e : Env} {s : State} {m : MethodId} {args : Array Value} {below : List Frame} {meth : Method} {c : Code}
variable {lay : List mm_S} {cA : Nat → ClassId} {ad : Nat → Nat} {D : va_G} {A : Nat → Prop} {own : String} {cc : ByteArray} {nL rt : Nat}
theorem mm_pre (C0 : mm_Cx p s m args meth c lay cA ad D A own cc nL rt) {H : Heap} {as : List mm_V} {M : mm_M} (hP : va_P D vwCl (mm_W lay cA ad M) H) (hN1 : ∀ v ∈ as, mm_N v) (hN2 : mm_NM lay M) : ∀ U : State, U.heap = H → s.WarmedH U.vm → va_Pc (as.map (mm_rv ad)) (mm_B lay cA ad D H.size as M) (as.map (mm_rv ad)).toArray U := fun U hU hW => by
  obtain ⟨hx, hb, hml, hown, hts, hK, hne, hlk, hrt, hA, hD⟩ := C0
  refine ⟨rfl, by rw [hU], by rw [hU]; exact hP, va_K.moved hW.alike hK, fun w hw => ?_, (hD M).weaken (fun _ _ _ _ => trivial), hN1, hN2⟩
  have hz := (List.mem_filter.mp hw).2
  have h1 := hne w hw
  cases w <;> first | exact absurd hz Bool.false_ne_true | exact va_Nw.warmM hW h1
theorem mm_coV {y : MethodName} {b : ByteArray} {mL d d2 n idx ci : Nat} {ret : Option FieldType} {f : mm_F} {qc : vw_C} (C0 : mm_Cx p s m args meth c lay cA ad D A own cc nL rt) (hO : mm_Ok lay y b mL ret d f)
    (hcl : vwCl[ci]? = some qc) (hyc : y.cls = qc.1) (h1 : Cond.methodLink own idx y ∈ mm_tbl) (h2 : Cond.instanceMethod y ∈ mm_tbl) (h3 : Cond.selects y.cls y y ∈ mm_tbl) (h4 : Cond.initialized y.cls ∈ mm_tbl) (h5 : Cond.code y b mL ret ∈ mm_tbl)
    (hd : y.cls ≠ "java/lang/invoke/MethodHandle" ∧ y.cls ≠ "java/lang/invoke/VarHandle" ∧ (parseMethodDescriptor y.desc).map (fun d => d.parameters.length) = some n) (hdd : d + 1 ≤ d2) (hmL : mL ≤ 40) :
    mm_CO p l e (mm_rm d2) s m args below meth c lay cA ad D A cc nL (.invokevirtual idx) (n + 1) (mm_rcv lay ci) f := by
  obtain ⟨hx, hb, hml, hown, hts, hK, hne, hlk, hrt, hA, hD⟩ := id C0
  intro pc la H locs as rest M Q1 hf hn hrc hP hS hN1 hN2 hla hcs hdg
  unfold mm_rcv at hrc
  split at hrc
  · rename_i q as'
    have hs := mm_kd_e hrc
    have hG : GoodIn mm_tbl (wsV own idx y.cls y (.code y b mL ret :: mm_tbl)) := fun w hw => by
      refine mm_tbl_good w ?_
      unfold wsV at hw
      rcases List.mem_append.mp hw with hw | hw
      · simp only [List.mem_cons, List.not_mem_nil, or_false] at hw
        rcases hw with rfl | rfl | rfl | rfl <;> assumption
      · rcases List.mem_cons.mp hw with rfl | hw
        · exact h5
        · exact hw
    have hp := mm_pre C0 (as := .inr (.inr q) :: as') hP hN1 hN2
    have hrun := va_runV (l := l) (e := e) (below := below) (meth := meth) (locs := locs) (cells := 0) (slots := 0) (As := as'.map (mm_rv ad)) (rest := rest.map (mm_rv ad)) (b := ad q) (g := F0 m pc la (((Sum.inr (Sum.inr q) :: as').reverse ++ rest).map (mm_rv ad))) ⟨hx, hb, hml, hown, hts⟩ (hO l D cA ad H.size _ M Q1 hf)
      (cwV (R := mm_rm d2) n hts hG rfl rfl rfl ⟨rfl, hd⟩ ⟨hdd, by show 8 + (mL + 11) + 64 * d ≤ 64 * d2; omega⟩)
      ⟨mm_blind, by rw [hyc]; exact va_recv hK hP hcl (mm_W_get hs), hp⟩ rfl (by rw [List.length_map]; simpa using hn) hla (by simp [List.map_append, mm_rv]) (lv_room (by rw [mm_cs_eq]; exact hcs)) hdg ⟨Nat.le_refl _, Nat.le_refl _⟩
    exact hrun
  · cases hrc
theorem mm_coS {y : MethodName} {b : ByteArray} {mL d d2 n idx : Nat} {ret : Option FieldType} {f : mm_F} (C0 : mm_Cx p s m args meth c lay cA ad D A own cc nL rt) (hO : mm_Ok lay y b mL ret d f)
    (h1 : Cond.methodLink own idx y ∈ mm_tbl) (h2 : Cond.static y ∈ mm_tbl) (h4 : Cond.initialized y.cls ∈ mm_tbl) (h5 : Cond.code y b mL ret ∈ mm_tbl)
    (hd : y.cls ≠ "java/lang/invoke/MethodHandle" ∧ y.cls ≠ "java/lang/invoke/VarHandle" ∧ (parseMethodDescriptor y.desc).map (fun d => d.parameters.length) = some n) (hdd : d + 1 ≤ d2) (hmL : mL ≤ 40) :
    mm_CO p l e (mm_rm d2) s m args below meth c lay cA ad D A cc nL (.invokestatic idx) n (fun _ => true) f := by
  obtain ⟨hx, hb, hml, hown, hts, hK, hne, hlk, hrt, hA, hD⟩ := id C0
  intro pc la H locs as rest M Q1 hf hn hrc hP hS hN1 hN2 hla hcs hdg
  have hG : GoodIn mm_tbl (va_wsS own idx y (.code y b mL ret :: mm_tbl)) := fun w hw => by
    refine mm_tbl_good w ?_
    unfold va_wsS at hw
    rcases List.mem_append.mp hw with hw | hw
    · simp only [List.mem_cons, List.not_mem_nil, or_false] at hw
      rcases hw with rfl | rfl | rfl <;> assumption
    · rcases List.mem_cons.mp hw with rfl | hw
      · exact h5
      · exact hw
  have hp := mm_pre C0 (as := as) hP hN1 hN2
  exact va_runS (l := l) (e := e) (below := below) (meth := meth) (locs := locs) (cells := 0) (slots := 0) (As := as.map (mm_rv ad)) (rest := rest.map (mm_rv ad)) (g := F0 m pc la ((as.reverse ++ rest).map (mm_rv ad))) ⟨hx, hb, hml, hown, hts⟩ (hO l D cA ad H.size _ M Q1 hf)
      (va_cwS (R := mm_rm d2) n hts hG rfl rfl rfl hd ⟨hdd, by show 8 + (mL + 11) + 64 * d ≤ 64 * d2; omega⟩)
      ⟨mm_blind, hp⟩ rfl (by rw [List.length_map]; exact hn) hla (by simp [List.map_append]) (lv_room (by rw [mm_cs_eq]; exact hcs)) hdg ⟨Nat.le_refl _, Nat.le_refl _⟩
theorem mm_coN {y : MethodName} {b : ByteArray} {mL d d2 n idx : Nat} {ret : Option FieldType} {host : String} {f : mm_F} (C0 : mm_Cx p s m args meth c lay cA ad D A own cc nL rt) (hO : mm_Ok lay y b mL ret d f)
    (h1 : Cond.methodLinkNest own idx y host ∈ mm_nest) (h2 : Cond.static y ∈ mm_tbl) (h4 : Cond.initialized y.cls ∈ mm_tbl) (h5 : Cond.code y b mL ret ∈ mm_tbl)
    (hd : y.cls ≠ "java/lang/invoke/MethodHandle" ∧ y.cls ≠ "java/lang/invoke/VarHandle" ∧ (parseMethodDescriptor y.desc).map (fun d => d.parameters.length) = some n) (hdd : d + 1 ≤ d2) (hmL : mL ≤ 40) :
    mm_CO p l e (mm_rm d2) s m args below meth c lay cA ad D A cc nL (.invokestatic idx) n (fun _ => true) f := by
  obtain ⟨hx, hb, hml, hown, hts, hK, hne, hlk, hrt, hA, hD⟩ := id C0
  intro pc la H locs as rest M Q1 hf hn hrc hP hS hN1 hN2 hla hcs hdg
  have hG : GoodIn mm_tbl (.code y b mL ret :: mm_tbl) := fun w hw => by
    refine mm_tbl_good w ?_
    rcases List.mem_cons.mp hw with rfl | hw
    · exact h5
    · exact hw
  have hp := mm_pre C0 (as := as) hP hN1 hN2
  exact va_runSN (l := l) (e := e) (below := below) (meth := meth) (locs := locs) (cells := 0) (slots := 0) (As := as.map (mm_rv ad)) (rest := rest.map (mm_rv ad)) (g := F0 m pc la ((as.reverse ++ rest).map (mm_rv ad))) ⟨hx, hb, hml, hown, hts⟩ (hO l D cA ad H.size _ M Q1 hf)
      ⟨va_cnB (R := mm_rm d2) n hts hG rfl rfl rfl (hne _ h1) (hts _ h4) hd ⟨hdd, by show 8 + (mL + 11) + 64 * d ≤ 64 * d2; omega⟩, hts _ h2, trivial⟩
      ⟨mm_blind, hp⟩ rfl (by rw [List.length_map]; exact hn) hla (by simp [List.map_append]) (lv_room (by rw [mm_cs_eq]; exact hcs)) hdg ⟨Nat.le_refl _, Nat.le_refl _⟩
end MMC
end
section
/-! words by their places; links; tables of calls; checks of code -/
theorem mm_sub_at (ws : List Cond) (ps : List Nat) (h : ps.map (fun i => lw_tbl[i]?) = ws.map some) (hg : ws.all goodWord = true) : ∀ w ∈ ws, w ∈ mm_tbl := by
  intro w hw
  refine mm_tbl_in ?_ (List.all_eq_true.mp hg w hw)
  have h1 : some w ∈ ws.map some := List.mem_map.mpr ⟨w, hw, rfl⟩
  rw [← h] at h1
  obtain ⟨i, -, hi⟩ := List.mem_map.mp h1
  exact List.mem_of_getElem? hi
theorem mm_one_at (w : Cond) (i : Nat) (h : lw_tbl[i]? = some w) (hg : goodWord w = true) : w ∈ mm_tbl := mm_tbl_in (List.mem_of_getElem? h) hg
def mm_flt (L : List (Nat × Nat × Nat × Nat)) : mm_Fl := fun n => match L with
  | [] => none
  | e :: tl => match Nat.beq e.1 n with
    | true => some e.2
    | false => mm_flt tl n
def mm_ctt (L : List (Nat × Int)) : mm_Ct := fun n => match L with
  | [] => none
  | e :: tl => match Nat.beq e.1 n with
    | true => some e.2
    | false => mm_ctt tl n
def mm_clt (L : List (Nat × Nat × Nat × mm_F)) : mm_Cl := fun n => match L with
  | [] => none
  | e :: tl => match Nat.beq e.1 n with
    | true => some e.2
    | false => mm_clt tl n
def mm_kk (L : List (Nat × mm_K)) : Nat → mm_K := fun n => match L with
  | [] => fun _ _ _ => False
  | e :: tl => match Nat.beq e.1 n with
    | true => e.2
    | false => mm_kk tl n
theorem mm_flt_e {L : List (Nat × Nat × Nat × Nat)} {n : Nat} {x : Nat × Nat × Nat} (h : mm_flt L n = some x) : (n, x) ∈ L := by
  induction L with
  | nil => cases h
  | cons e tl ih =>
    unfold mm_flt at h
    split at h
    · rename_i hb
      cases h
      rw [← Nat.eq_of_beq_eq_true hb]
      exact List.mem_cons_self
    · exact List.mem_cons_of_mem _ (ih h)
theorem mm_ctt_e {L : List (Nat × Int)} {n : Nat} {x : Int} (h : mm_ctt L n = some x) : (n, x) ∈ L := by
  induction L with
  | nil => cases h
  | cons e tl ih =>
    unfold mm_ctt at h
    split at h
    · rename_i hb
      cases h
      rw [← Nat.eq_of_beq_eq_true hb]
      exact List.mem_cons_self
    · exact List.mem_cons_of_mem _ (ih h)
theorem mm_clt_e {L : List (Nat × Nat × Nat × mm_F)} {n : Nat} {x : Nat × Nat × mm_F} (h : mm_clt L n = some x) : (n, x) ∈ L := by
  induction L with
  | nil => cases h
  | cons e tl ih =>
    unfold mm_clt at h
    split at h
    · rename_i hb
      cases h
      rw [← Nat.eq_of_beq_eq_true hb]
      exact List.mem_cons_self
    · exact List.mem_cons_of_mem _ (ih h)
theorem mm_kk_e {L : List (Nat × mm_K)} {P : Nat → mm_K} (hL : ∀ x ∈ L, ∀ ls st M, x.2 ls st M → P x.1 ls st M) : ∀ pc ls st M, mm_kk L pc ls st M → P pc ls st M := by
  induction L with
  | nil => intro pc ls st M h; exact h.elim
  | cons e tl ih =>
    intro pc ls st M h
    unfold mm_kk at h
    cases hb : Nat.beq e.1 pc with
    | true =>
      rw [hb] at h
      rw [← Nat.eq_of_beq_eq_true hb]
      exact hL e List.mem_cons_self ls st M h
    | false =>
      rw [hb] at h
      exact ih (fun x hx => hL x (List.mem_cons_of_mem _ hx)) pc ls st M h
def mm_flw (own : String) (e : Nat × Nat × Nat × Nat) : Cond := match vwCl[e.2.1]? with
  | some q => .fieldLink own e.1 (q.2.1 e.2.2.1).1 (q.2.1 e.2.2.1).2.1 (q.2.1 e.2.2.1).2.2.1
  | none => .count 0
theorem mm_flok_of {own : String} (L : List (Nat × Nat × Nat × Nat)) (ps : List Nat) (hcl : ∀ ci, ci < 9 → mm_clok ci) (h0 : L.all (fun e => Nat.blt e.2.1 9) = true) (h1 : L.all (fun e => decide ((mm_fts e.2.1)[e.2.2.1]? = some e.2.2.2)) = true) (h2 : ps.map (fun i => lw_tbl[i]?) = (L.map (mm_flw own)).map some) (h3 : (L.map (mm_flw own)).all goodWord = true) : mm_flok own (mm_flt L) := by
  intro n ci k t h
  have hm := mm_flt_e h
  refine ⟨of_decide_eq_true (List.all_eq_true.mp h1 _ hm), hcl ci (Nat.blt_eq.mp (List.all_eq_true.mp h0 _ hm)), fun q hq => ?_⟩
  have h4 := mm_sub_at _ ps h2 h3 (mm_flw own (n, ci, k, t)) (List.mem_map.mpr ⟨_, hm, rfl⟩)
  unfold mm_flw at h4
  simp only [hq] at h4
  exact h4
def mm_ctI (own : String) (ct : mm_Ct) : Prop := ∀ n z, ct n = some z → mm_R z ∧ Cond.constant own n (Int32.ofInt z) ∈ mm_tbl
def mm_ctJ (own : String) (ct : mm_Ct) : Prop := ∀ n z, ct n = some z → mm_RL z ∧ Cond.constantLong own n (Int64.ofInt z) ∈ mm_tbl
theorem mm_ctJ_of {own : String} (L : List (Nat × Int)) (ps : List Nat) (h0 : L.all (fun e => decide (-9223372036854775808 ≤ e.2 ∧ e.2 < 9223372036854775808)) = true) (h2 : ps.map (fun i => lw_tbl[i]?) = (L.map (fun e => Cond.constantLong own e.1 (Int64.ofInt e.2))).map some) (h3 : (L.map (fun e => Cond.constantLong own e.1 (Int64.ofInt e.2))).all goodWord = true) : mm_ctJ own (mm_ctt L) := fun n z h =>
  ⟨(of_decide_eq_true (List.all_eq_true.mp h0 _ (mm_ctt_e h)) : _ ∧ _), mm_sub_at _ ps h2 h3 _ (List.mem_map.mpr ⟨(n, z), mm_ctt_e h, rfl⟩)⟩
theorem mm_ctI_of {own : String} (L : List (Nat × Int)) (ps : List Nat) (h0 : L.all (fun e => decide (-2147483648 ≤ e.2 ∧ e.2 < 2147483648)) = true) (h2 : ps.map (fun i => lw_tbl[i]?) = (L.map (fun e => Cond.constant own e.1 (Int32.ofInt e.2))).map some) (h3 : (L.map (fun e => Cond.constant own e.1 (Int32.ofInt e.2))).all goodWord = true) : mm_ctI own (mm_ctt L) := fun n z h =>
  ⟨(of_decide_eq_true (List.all_eq_true.mp h0 _ (mm_ctt_e h)) : _ ∧ _), mm_sub_at _ ps h2 h3 _ (List.mem_map.mpr ⟨(n, z), mm_ctt_e h, rfl⟩)⟩
theorem mm_ctok_J {own : String} {ct : mm_Ct} (h : mm_ctJ own ct) : mm_ctok own ct := fun n z q => Or.inr (h n z q)
theorem mm_ctok_I {own : String} {ct : mm_Ct} (h : mm_ctI own ct) : mm_ctok own ct := fun n z q => Or.inl (h n z q)
/-- the check of a method's code; k: its constants are ints -/
def mm_eB (k : Bool) (b : ByteArray) (e : mm_E) : Bool := (match decode b e.1 with
  | .ok (j, n) => decide (j = e.2.2.1) && (mm_sw e.2.2.1 || Nat.beq n (mm_ln e.2.2.1))
  | _ => false) && (match e.2.2.1 with
  | .goto o | .ifCond _ o | .if_icmp _ o => (match e.2.2.2 with
    | [t] => decide ((e.1 : Int) + o = (t : Int))
    | _ => false)
  | .tableswitch d lo hi os => decide ((d :: os.toList).map (fun o => (e.1 : Int) + o) = e.2.2.2.map (fun t : Nat => (t : Int))) && decide (hi - lo + 1 = (os.toList.length : Int))
  | .lookupswitch d ps => decide ((d :: ps.toList.map (·.2)).map (fun o => (e.1 : Int) + o) = e.2.2.2.map (fun t : Nat => (t : Int))) && (ps.toList.zip (ps.toList.drop 1)).all (fun (a, next) => a.1 < next.1)
  | .ldc _ => k
  | .ldc2_w _ => !k
  | _ => true)
def mm_cB (k : Bool) (b : ByteArray) : List mm_E → Bool
  | [] => true
  | e :: tl => mm_eB k b e && ((match tl with
    | [] => true
    | e2 :: _ => mm_sw e.2.2.1 || Nat.beq e2.1 (e.1 + mm_ln e.2.2.1)) && mm_cB k b tl)
theorem mm_dec_of {b : ByteArray} {pc n : Nat} {i : Instr} (h : decode b pc = .ok (i, n)) (h2 : mm_sw i = true ∨ n = mm_ln i) : mm_dec b pc i := by
  cases i <;> first | exact ⟨n, h⟩ | (have z := h2.resolve_left (fun q => Bool.false_ne_true q); subst z; exact h)
theorem mm_e_of {k : Bool} {b : ByteArray} {own : String} {ct : mm_Ct} (hk : if k = true then mm_ctI own ct else mm_ctJ own ct) {e : mm_E} (h : mm_eB k b e = true) : mm_eok b own ct e := by
  obtain ⟨pc, cut, i, ts⟩ := e
  unfold mm_eB at h
  rw [Bool.and_eq_true] at h
  obtain ⟨h1, h2⟩ := h
  have hd : mm_dec b pc i := by
    split at h1
    · rename_i j n hdj
      rw [Bool.and_eq_true, Bool.or_eq_true] at h1
      have := of_decide_eq_true h1.1
      subst this
      exact mm_dec_of hdj (h1.2.imp id Nat.eq_of_beq_eq_true)
    · cases h1
  refine ⟨hd, ?_, ?_⟩
  · show mm_tg pc i ts
    cases i <;> first
      | trivial
      | (simp only at h2
         split at h2
         · rename_i t
           intro t' ht
           cases ht
           exact of_decide_eq_true h2
         · cases h2)
      | (simp only [Bool.and_eq_true] at h2
         exact ⟨of_decide_eq_true h2.1, of_decide_eq_true h2.2⟩)
      | (simp only [Bool.and_eq_true] at h2
         exact ⟨of_decide_eq_true h2.1, h2.2⟩)
  · clear h1 hd
    simp only
    cases i <;> first
      | trivial
      | (simp only at h2
         subst h2
         intro z hz
         exact hk _ z hz)
      | (simp only at h2
         cases k
         · intro z hz
           exact hk _ z hz
         · cases h2)
theorem mm_c_of {k : Bool} {b : ByteArray} {own : String} {ct : mm_Ct} (hk : if k = true then mm_ctI own ct else mm_ctJ own ct) : ∀ {L : List mm_E}, mm_cB k b L = true → mm_cok b own ct L
  | [], _ => trivial
  | [e], h => by
    unfold mm_cB at h
    rw [Bool.and_eq_true, Bool.and_eq_true] at h
    exact ⟨mm_e_of hk h.1, trivial, trivial⟩
  | e :: e2 :: tl, h => by
    unfold mm_cB at h
    rw [Bool.and_eq_true, Bool.and_eq_true] at h
    refine ⟨mm_e_of hk h.1, ?_, mm_c_of hk h.2.2⟩
    have h3 := h.2.1
    rw [Bool.or_eq_true] at h3
    exact h3.imp id Nat.eq_of_beq_eq_true
/-! all that a walk needs of its method -/
def mm_Z (p : Program) (l : Launch) (e : Env) (R : Room) (s : State) (m : MethodId) (args : Array Value) (below : List Frame) (meth : Method) (c : Code) (lay : List mm_S) (cA : Nat → ClassId) (ad : Nat → Nat) (D : va_G) (A : Nat → Prop) (own : String) (cc : ByteArray) (nL rt : Nat) (fl : mm_Fl) (vt sm : mm_Cl) (ct : mm_Ct) (code : List mm_E) : Prop :=
  mm_Cx p s m args meth c lay cA ad D A own cc nL rt ∧ mm_flok own fl ∧ (∀ k ci n f, vt k = some (ci, n, f) → mm_CO p l e R s m args below meth c lay cA ad D A cc nL (.invokevirtual k) n (mm_rcv lay ci) f) ∧ (∀ k ci n f, sm k = some (ci, n, f) → mm_CO p l e R s m args below meth c lay cA ad D A cc nL (.invokestatic k) n (fun _ => true) f) ∧ mm_cok cc own ct code ∧ mm_ctok own ct
theorem mm_Zb {p : Program} {l : Launch} {e : Env} {R : Room} {s : State} {m : MethodId} {args : Array Value} {below : List Frame} {meth : Method} {c : Code} {lay : List mm_S} {cA : Nat → ClassId} {ad : Nat → Nat} {D : va_G} {A : Nat → Prop} {own : String} {cc : ByteArray} {nL rt : Nat} {fl : mm_Fl} {vt sm : mm_Cl} {ct : mm_Ct} {code : List mm_E} {Q : Option mm_V → mm_M → Prop} (Z : mm_Z p l e R s m args below meth c lay cA ad D A own cc nL rt fl vt sm ct code) (n pc : Nat) (L : List (Nat × mm_K)) (hL : ∀ x ∈ L, ∀ ls st M, x.2 ls st M → mm_G p l e R s m args below meth c lay cA ad D A nL Q x.1 ls st M) {ls : mm_L} {st : List mm_V} {M : mm_M} (h : mm_bk lay fl vt sm ct rt code (mm_kk L) Q n pc ls st M) : mm_G p l e R s m args below meth c lay cA ad D A nL Q pc ls st M :=
  mm_bk_ok Z.1 Z.2.1 Z.2.2.1 Z.2.2.2.1 Z.2.2.2.2.1 Z.2.2.2.2.2 (mm_kk_e hL) h
theorem mm_fa0 {α : Type} {P : α → Prop} : ∀ x ∈ ([] : List α), P x := fun _ h => absurd h List.not_mem_nil
theorem mm_fa1 {α : Type} {P : α → Prop} {a : α} {l : List α} (h : P a) (hl : ∀ x ∈ l, P x) : ∀ x ∈ a :: l, P x := List.forall_mem_cons.mpr ⟨h, hl⟩
theorem mm_vt_of {L : List (Nat × Nat × Nat × mm_F)} {P : Nat → Nat → Nat → mm_F → Prop} (h : ∀ x ∈ L, P x.1 x.2.1 x.2.2.1 x.2.2.2) : ∀ k ci n f, mm_clt L k = some (ci, n, f) → P k ci n f := fun k ci n f q => h _ (mm_clt_e q)
set_option maxRecDepth 20000 in
theorem clX0 : mm_clok 0 := ⟨RX0, TX0, 19, tyX0, rfl, mm_sub_at _ [346, 348, 350, 352, 354, 356, 358, 360, 362, 364, 366, 368, 370, 372, 374, 376, 378, 380, 382] (by decide +kernel) (by decide +kernel), tyX0_ok, nmX0, rfl, by
  intro k t h
  have hk : k < 19 := (List.getElem?_eq_some_iff.mp h).1
  revert k t
  have hh : ∀ k, k < 19 → (mm_fts 0)[k]? = some 2 ∨ ((TX0 k).2.2.2 = false ∧ (((mm_fts 0)[k]? = some 0 ∧ tyX0 k = .int) ∨ ((mm_fts 0)[k]? = some 1 ∧ tyX0 k = .long) ∨ ((mm_fts 0)[k]? = some 3 ∧ tyX0 k = .array .int) ∨ ((mm_fts 0)[k]? = some 4 ∧ tyX0 k = .boolean))) := by decide +kernel
  intro k t h hk
  rcases hh k hk with q | ⟨q, ⟨q1, q2⟩ | ⟨q1, q2⟩ | ⟨q1, q2⟩ | ⟨q1, q2⟩⟩
  · exact Or.inl (Option.some.inj (h.symm.trans q))
  · cases h.symm.trans q1; exact Or.inr ⟨q, q2⟩
  · cases h.symm.trans q1; exact Or.inr ⟨q, q2⟩
  · cases h.symm.trans q1; exact Or.inr ⟨q, q2⟩
  · cases h.symm.trans q1; exact Or.inr ⟨q, q2⟩⟩
set_option maxRecDepth 20000 in
theorem clX1 : mm_clok 1 := ⟨RX1, TX1, 15, tyX1, rfl, mm_sub_at _ [416, 418, 420, 422, 424, 426, 428, 430, 432, 434, 436, 438, 440, 442, 444] (by decide +kernel) (by decide +kernel), tyX1_ok, nmX1, rfl, by
  intro k t h
  have hk : k < 15 := (List.getElem?_eq_some_iff.mp h).1
  revert k t
  have hh : ∀ k, k < 15 → (mm_fts 1)[k]? = some 2 ∨ ((TX1 k).2.2.2 = false ∧ (((mm_fts 1)[k]? = some 0 ∧ tyX1 k = .int) ∨ ((mm_fts 1)[k]? = some 1 ∧ tyX1 k = .long) ∨ ((mm_fts 1)[k]? = some 3 ∧ tyX1 k = .array .int) ∨ ((mm_fts 1)[k]? = some 4 ∧ tyX1 k = .boolean))) := by decide +kernel
  intro k t h hk
  rcases hh k hk with q | ⟨q, ⟨q1, q2⟩ | ⟨q1, q2⟩ | ⟨q1, q2⟩ | ⟨q1, q2⟩⟩
  · exact Or.inl (Option.some.inj (h.symm.trans q))
  · cases h.symm.trans q1; exact Or.inr ⟨q, q2⟩
  · cases h.symm.trans q1; exact Or.inr ⟨q, q2⟩
  · cases h.symm.trans q1; exact Or.inr ⟨q, q2⟩
  · cases h.symm.trans q1; exact Or.inr ⟨q, q2⟩⟩
set_option maxRecDepth 20000 in
theorem clX2 : mm_clok 2 := ⟨RX2, TX2, 7, tyX2, rfl, mm_sub_at _ [162, 164, 166, 168, 170, 172, 174] (by decide +kernel) (by decide +kernel), tyX2_ok, nmX2, rfl, by
  intro k t h
  have hk : k < 7 := (List.getElem?_eq_some_iff.mp h).1
  revert k t
  have hh : ∀ k, k < 7 → (mm_fts 2)[k]? = some 2 ∨ ((TX2 k).2.2.2 = false ∧ (((mm_fts 2)[k]? = some 0 ∧ tyX2 k = .int) ∨ ((mm_fts 2)[k]? = some 1 ∧ tyX2 k = .long) ∨ ((mm_fts 2)[k]? = some 3 ∧ tyX2 k = .array .int) ∨ ((mm_fts 2)[k]? = some 4 ∧ tyX2 k = .boolean))) := by decide +kernel
  intro k t h hk
  rcases hh k hk with q | ⟨q, ⟨q1, q2⟩ | ⟨q1, q2⟩ | ⟨q1, q2⟩ | ⟨q1, q2⟩⟩
  · exact Or.inl (Option.some.inj (h.symm.trans q))
  · cases h.symm.trans q1; exact Or.inr ⟨q, q2⟩
  · cases h.symm.trans q1; exact Or.inr ⟨q, q2⟩
  · cases h.symm.trans q1; exact Or.inr ⟨q, q2⟩
  · cases h.symm.trans q1; exact Or.inr ⟨q, q2⟩⟩
set_option maxRecDepth 20000 in
theorem clX3 : mm_clok 3 := ⟨RX3, TX3, 4, tyX3, rfl, mm_sub_at _ [185, 187, 189, 191] (by decide +kernel) (by decide +kernel), tyX3_ok, nmX3, rfl, by
  intro k t h
  have hk : k < 4 := (List.getElem?_eq_some_iff.mp h).1
  revert k t
  have hh : ∀ k, k < 4 → (mm_fts 3)[k]? = some 2 ∨ ((TX3 k).2.2.2 = false ∧ (((mm_fts 3)[k]? = some 0 ∧ tyX3 k = .int) ∨ ((mm_fts 3)[k]? = some 1 ∧ tyX3 k = .long) ∨ ((mm_fts 3)[k]? = some 3 ∧ tyX3 k = .array .int) ∨ ((mm_fts 3)[k]? = some 4 ∧ tyX3 k = .boolean))) := by decide +kernel
  intro k t h hk
  rcases hh k hk with q | ⟨q, ⟨q1, q2⟩ | ⟨q1, q2⟩ | ⟨q1, q2⟩ | ⟨q1, q2⟩⟩
  · exact Or.inl (Option.some.inj (h.symm.trans q))
  · cases h.symm.trans q1; exact Or.inr ⟨q, q2⟩
  · cases h.symm.trans q1; exact Or.inr ⟨q, q2⟩
  · cases h.symm.trans q1; exact Or.inr ⟨q, q2⟩
  · cases h.symm.trans q1; exact Or.inr ⟨q, q2⟩⟩
set_option maxRecDepth 20000 in
theorem clX4 : mm_clok 4 := ⟨RX4, TX4, 8, tyX4, rfl, mm_sub_at _ [234, 236, 238, 240, 242, 244, 246, 248] (by decide +kernel) (by decide +kernel), tyX4_ok, nmX4, rfl, by
  intro k t h
  have hk : k < 8 := (List.getElem?_eq_some_iff.mp h).1
  revert k t
  have hh : ∀ k, k < 8 → (mm_fts 4)[k]? = some 2 ∨ ((TX4 k).2.2.2 = false ∧ (((mm_fts 4)[k]? = some 0 ∧ tyX4 k = .int) ∨ ((mm_fts 4)[k]? = some 1 ∧ tyX4 k = .long) ∨ ((mm_fts 4)[k]? = some 3 ∧ tyX4 k = .array .int) ∨ ((mm_fts 4)[k]? = some 4 ∧ tyX4 k = .boolean))) := by decide +kernel
  intro k t h hk
  rcases hh k hk with q | ⟨q, ⟨q1, q2⟩ | ⟨q1, q2⟩ | ⟨q1, q2⟩ | ⟨q1, q2⟩⟩
  · exact Or.inl (Option.some.inj (h.symm.trans q))
  · cases h.symm.trans q1; exact Or.inr ⟨q, q2⟩
  · cases h.symm.trans q1; exact Or.inr ⟨q, q2⟩
  · cases h.symm.trans q1; exact Or.inr ⟨q, q2⟩
  · cases h.symm.trans q1; exact Or.inr ⟨q, q2⟩⟩
set_option maxRecDepth 20000 in
theorem clX5 : mm_clok 5 := ⟨RX5, TX5, 6, tyX5, rfl, mm_sub_at _ [302, 304, 306, 308, 310, 312] (by decide +kernel) (by decide +kernel), tyX5_ok, nmX5, rfl, by
  intro k t h
  have hk : k < 6 := (List.getElem?_eq_some_iff.mp h).1
  revert k t
  have hh : ∀ k, k < 6 → (mm_fts 5)[k]? = some 2 ∨ ((TX5 k).2.2.2 = false ∧ (((mm_fts 5)[k]? = some 0 ∧ tyX5 k = .int) ∨ ((mm_fts 5)[k]? = some 1 ∧ tyX5 k = .long) ∨ ((mm_fts 5)[k]? = some 3 ∧ tyX5 k = .array .int) ∨ ((mm_fts 5)[k]? = some 4 ∧ tyX5 k = .boolean))) := by decide +kernel
  intro k t h hk
  rcases hh k hk with q | ⟨q, ⟨q1, q2⟩ | ⟨q1, q2⟩ | ⟨q1, q2⟩ | ⟨q1, q2⟩⟩
  · exact Or.inl (Option.some.inj (h.symm.trans q))
  · cases h.symm.trans q1; exact Or.inr ⟨q, q2⟩
  · cases h.symm.trans q1; exact Or.inr ⟨q, q2⟩
  · cases h.symm.trans q1; exact Or.inr ⟨q, q2⟩
  · cases h.symm.trans q1; exact Or.inr ⟨q, q2⟩⟩
set_option maxRecDepth 20000 in
theorem clX6 : mm_clok 6 := ⟨RX6, TX6, 7, tyX6, rfl, mm_sub_at _ [266, 268, 270, 272, 274, 276, 278] (by decide +kernel) (by decide +kernel), tyX6_ok, nmX6, rfl, by
  intro k t h
  have hk : k < 7 := (List.getElem?_eq_some_iff.mp h).1
  revert k t
  have hh : ∀ k, k < 7 → (mm_fts 6)[k]? = some 2 ∨ ((TX6 k).2.2.2 = false ∧ (((mm_fts 6)[k]? = some 0 ∧ tyX6 k = .int) ∨ ((mm_fts 6)[k]? = some 1 ∧ tyX6 k = .long) ∨ ((mm_fts 6)[k]? = some 3 ∧ tyX6 k = .array .int) ∨ ((mm_fts 6)[k]? = some 4 ∧ tyX6 k = .boolean))) := by decide +kernel
  intro k t h hk
  rcases hh k hk with q | ⟨q, ⟨q1, q2⟩ | ⟨q1, q2⟩ | ⟨q1, q2⟩ | ⟨q1, q2⟩⟩
  · exact Or.inl (Option.some.inj (h.symm.trans q))
  · cases h.symm.trans q1; exact Or.inr ⟨q, q2⟩
  · cases h.symm.trans q1; exact Or.inr ⟨q, q2⟩
  · cases h.symm.trans q1; exact Or.inr ⟨q, q2⟩
  · cases h.symm.trans q1; exact Or.inr ⟨q, q2⟩⟩
set_option maxRecDepth 20000 in
theorem clX7 : mm_clok 7 := ⟨RX7, TX7, 7, tyX7, rfl, mm_sub_at _ [456, 458, 460, 462, 464, 466, 468] (by decide +kernel) (by decide +kernel), tyX7_ok, nmX7, rfl, by
  intro k t h
  have hk : k < 7 := (List.getElem?_eq_some_iff.mp h).1
  revert k t
  have hh : ∀ k, k < 7 → (mm_fts 7)[k]? = some 2 ∨ ((TX7 k).2.2.2 = false ∧ (((mm_fts 7)[k]? = some 0 ∧ tyX7 k = .int) ∨ ((mm_fts 7)[k]? = some 1 ∧ tyX7 k = .long) ∨ ((mm_fts 7)[k]? = some 3 ∧ tyX7 k = .array .int) ∨ ((mm_fts 7)[k]? = some 4 ∧ tyX7 k = .boolean))) := by decide +kernel
  intro k t h hk
  rcases hh k hk with q | ⟨q, ⟨q1, q2⟩ | ⟨q1, q2⟩ | ⟨q1, q2⟩ | ⟨q1, q2⟩⟩
  · exact Or.inl (Option.some.inj (h.symm.trans q))
  · cases h.symm.trans q1; exact Or.inr ⟨q, q2⟩
  · cases h.symm.trans q1; exact Or.inr ⟨q, q2⟩
  · cases h.symm.trans q1; exact Or.inr ⟨q, q2⟩
  · cases h.symm.trans q1; exact Or.inr ⟨q, q2⟩⟩
set_option maxRecDepth 20000 in
theorem clX8 : mm_clok 8 := ⟨RX8, TX8, 57, tyX8, rfl, mm_sub_at _ [1004, 1006, 1008, 1010, 1012, 1014, 1016, 1018, 1020, 1022, 1024, 1026, 1028, 1030, 1032, 1034, 1036, 1038, 1040, 1042, 1044, 1046, 1048, 1050, 1052, 1054, 1056, 1058, 1060, 1062, 1064, 1066, 1068, 1070, 1072, 1074, 1076, 1078, 1080, 1082, 1084, 1086, 1088, 1090, 1092, 1094, 1096, 1098, 1100, 1102, 1104, 1106, 1108, 1110, 1112, 1114, 1116] (by decide +kernel) (by decide +kernel), tyX8_ok, nmX8, rfl, by
  intro k t h
  have hk : k < 57 := (List.getElem?_eq_some_iff.mp h).1
  revert k t
  have hh : ∀ k, k < 57 → (mm_fts 8)[k]? = some 2 ∨ ((TX8 k).2.2.2 = false ∧ (((mm_fts 8)[k]? = some 0 ∧ tyX8 k = .int) ∨ ((mm_fts 8)[k]? = some 1 ∧ tyX8 k = .long) ∨ ((mm_fts 8)[k]? = some 3 ∧ tyX8 k = .array .int) ∨ ((mm_fts 8)[k]? = some 4 ∧ tyX8 k = .boolean))) := by decide +kernel
  intro k t h hk
  rcases hh k hk with q | ⟨q, ⟨q1, q2⟩ | ⟨q1, q2⟩ | ⟨q1, q2⟩ | ⟨q1, q2⟩⟩
  · exact Or.inl (Option.some.inj (h.symm.trans q))
  · cases h.symm.trans q1; exact Or.inr ⟨q, q2⟩
  · cases h.symm.trans q1; exact Or.inr ⟨q, q2⟩
  · cases h.symm.trans q1; exact Or.inr ⟨q, q2⟩
  · cases h.symm.trans q1; exact Or.inr ⟨q, q2⟩⟩
theorem cl_all : ∀ ci, ci < 9 → mm_clok ci
  | 0, _ => clX0
  | 1, _ => clX1
  | 2, _ => clX2
  | 3, _ => clX3
  | 4, _ => clX4
  | 5, _ => clX5
  | 6, _ => clX6
  | 7, _ => clX7
  | 8, _ => clX8
  | n + 9, h => absurd h (by omega)
def flRX0 : List (Nat × Nat × Nat × Nat) := [(9, 0, 3, 2), (15, 0, 4, 2), (18, 0, 5, 2), (21, 0, 6, 2), (24, 0, 7, 2), (30, 0, 15, 2), (46, 0, 1, 0), (50, 6, 2, 0), (51, 0, 2, 0), (54, 6, 1, 2), (57, 4, 2, 0), (83, 5, 0, 0), (86, 0, 0, 4), (90, 0, 12, 0), (93, 0, 13, 0), (96, 0, 11, 0), (99, 0, 14, 0), (102, 0, 8, 0), (109, 0, 9, 0), (112, 0, 10, 0), (125, 0, 18, 0), (128, 5, 3, 0), (131, 5, 2, 3), (146, 0, 16, 0), (152, 0, 17, 0)]
set_option maxRecDepth 20000 in
theorem flRX0_ok : mm_flok RX0 (mm_flt flRX0) := mm_flok_of _ [319, 320, 321, 322, 323, 339, 317, 257, 318, 254, 219, 294, 315, 333, 335, 331, 337, 325, 327, 329, 344, 299, 297, 340, 342] cl_all (by decide +kernel) (by decide +kernel) (by decide +kernel) (by decide +kernel)
def flRX1 : List (Nat × Nat × Nat × Nat) := [(9, 1, 0, 2), (15, 1, 1, 2), (18, 1, 2, 2), (21, 1, 4, 0), (25, 1, 5, 0), (30, 1, 7, 2), (33, 1, 8, 2), (37, 1, 11, 2), (40, 1, 12, 2), (44, 1, 3, 0), (47, 1, 6, 4), (72, 1, 13, 1), (76, 1, 14, 1), (79, 1, 9, 1), (82, 1, 10, 1)]
set_option maxRecDepth 20000 in
theorem flRX1_ok : mm_flok RX1 (mm_flt flRX1) := mm_flok_of _ [393, 394, 395, 398, 400, 404, 406, 412, 413, 396, 402, 414, 415, 408, 410] cl_all (by decide +kernel) (by decide +kernel) (by decide +kernel) (by decide +kernel)
def flRX2 : List (Nat × Nat × Nat × Nat) := [(9, 2, 2, 2), (15, 2, 3, 2), (18, 2, 4, 2), (21, 2, 5, 2), (24, 2, 6, 2), (27, 2, 0, 0), (31, 2, 1, 0)]
set_option maxRecDepth 20000 in
theorem flRX2_ok : mm_flok RX2 (mm_flt flRX2) := mm_flok_of _ [143, 147, 151, 155, 159, 134, 138] cl_all (by decide +kernel) (by decide +kernel) (by decide +kernel) (by decide +kernel)
def flRX3 : List (Nat × Nat × Nat × Nat) := [(9, 3, 0, 2), (18, 3, 2, 2), (22, 3, 3, 0), (26, 2, 0, 0), (29, 2, 1, 0), (32, 3, 1, 0), (61, 2, 2, 2), (64, 2, 3, 2), (67, 2, 4, 2), (70, 2, 5, 2)]
set_option maxRecDepth 20000 in
theorem flRX3_ok : mm_flok RX3 (mm_flt flRX3) := mm_flok_of _ [178, 182, 184, 135, 139, 181, 145, 149, 154, 158] cl_all (by decide +kernel) (by decide +kernel) (by decide +kernel) (by decide +kernel)
def flRX4 : List (Nat × Nat × Nat × Nat) := [(9, 4, 4, 2), (15, 4, 5, 2), (20, 4, 6, 2), (23, 4, 7, 2), (26, 4, 2, 0), (30, 4, 3, 0), (33, 2, 0, 0), (38, 4, 0, 0), (45, 4, 1, 0), (52, 2, 1, 0), (54, 2, 3, 2), (56, 2, 2, 2)]
set_option maxRecDepth 20000 in
theorem flRX4_ok : mm_flok RX4 (mm_flt flRX4) := mm_flok_of _ [225, 228, 230, 233, 218, 222, 136, 212, 215, 141, 148, 144] cl_all (by decide +kernel) (by decide +kernel) (by decide +kernel) (by decide +kernel)
def flRX5 : List (Nat × Nat × Nat × Nat) := [(9, 5, 0, 0), (15, 5, 1, 2), (19, 5, 2, 3), (22, 5, 4, 3), (25, 5, 3, 0), (28, 5, 5, 0)]
set_option maxRecDepth 20000 in
theorem flRX5_ok : mm_flok RX5 (mm_flt flRX5) := mm_flok_of _ [293, 295, 296, 300, 298, 301] cl_all (by decide +kernel) (by decide +kernel) (by decide +kernel) (by decide +kernel)
def flRX6 : List (Nat × Nat × Nat × Nat) := [(12, 6, 0, 2), (20, 6, 1, 2), (24, 6, 4, 2), (30, 6, 5, 2), (33, 6, 6, 2), (41, 6, 2, 0), (48, 2, 1, 0), (51, 2, 4, 2), (54, 6, 3, 0), (57, 2, 6, 2), (60, 2, 5, 2), (63, 4, 0, 0), (66, 4, 1, 0), (72, 4, 2, 0), (86, 4, 4, 2), (89, 4, 3, 0), (92, 4, 6, 2), (94, 4, 5, 2)]
set_option maxRecDepth 20000 in
theorem flRX6_ok : mm_flok RX6 (mm_flt flRX6) := mm_flok_of _ [251, 253, 261, 263, 265, 256, 140, 152, 259, 160, 156, 213, 216, 220, 226, 223, 231, 229] cl_all (by decide +kernel) (by decide +kernel) (by decide +kernel) (by decide +kernel)
def flRX7 : List (Nat × Nat × Nat × Nat) := [(12, 7, 0, 2), (19, 7, 1, 2), (26, 7, 2, 2), (33, 7, 3, 2), (37, 7, 4, 0), (41, 7, 5, 0), (44, 7, 6, 0), (51, 3, 1, 0), (54, 3, 0, 2), (66, 3, 2, 2), (74, 0, 0, 4), (78, 6, 0, 2), (81, 2, 1, 0), (89, 2, 0, 0), (92, 6, 3, 0), (114, 6, 4, 2), (117, 2, 2, 2), (120, 2, 3, 2), (123, 2, 4, 2), (126, 2, 5, 2), (129, 2, 6, 2), (132, 6, 5, 2), (139, 6, 2, 0), (150, 6, 1, 2), (154, 4, 0, 0), (158, 4, 1, 0), (160, 4, 2, 0), (163, 4, 3, 0), (177, 4, 4, 2), (180, 4, 6, 2), (193, 0, 8, 0), (196, 0, 9, 0), (199, 0, 10, 0), (202, 0, 11, 0), (205, 0, 14, 0), (208, 0, 13, 0), (211, 0, 7, 2), (222, 0, 12, 0), (238, 0, 16, 0), (241, 0, 17, 0), (244, 0, 18, 0), (256, 1, 3, 0), (261, 1, 6, 4), (262, 1, 4, 0), (265, 1, 5, 0), (271, 1, 7, 2), (275, 1, 8, 2), (279, 1, 9, 1), (283, 1, 10, 1)]
set_option maxRecDepth 20000 in
theorem flRX7_ok : mm_flok RX7 (mm_flt flRX7) := mm_flok_of _ [449, 450, 451, 452, 453, 454, 455, 180, 179, 183, 316, 252, 142, 137, 260, 262, 146, 150, 153, 157, 161, 264, 258, 255, 214, 217, 221, 224, 227, 232, 326, 328, 330, 332, 338, 336, 324, 334, 341, 343, 345, 397, 403, 399, 401, 405, 407, 409, 411] cl_all (by decide +kernel) (by decide +kernel) (by decide +kernel) (by decide +kernel)
def flRX8 : List (Nat × Nat × Nat × Nat) := [(7, 8, 2, 2), (13, 8, 3, 2), (16, 8, 4, 2), (19, 8, 5, 2), (22, 8, 6, 2), (25, 8, 10, 2), (28, 8, 11, 2), (31, 8, 12, 2), (34, 8, 13, 2), (37, 8, 14, 2), (40, 8, 15, 2), (43, 8, 19, 2), (46, 8, 20, 2), (49, 8, 21, 0), (53, 8, 22, 0), (56, 8, 24, 2), (59, 8, 28, 2), (62, 8, 29, 2), (65, 8, 30, 2), (68, 8, 31, 2), (71, 8, 32, 2), (74, 8, 33, 2), (77, 8, 34, 2), (80, 8, 42, 2), (83, 8, 43, 2), (86, 8, 44, 2), (89, 8, 47, 2), (93, 8, 48, 2), (96, 8, 50, 2), (99, 8, 52, 2), (102, 8, 54, 2), (109, 8, 23, 0), (112, 8, 25, 0), (115, 8, 26, 0), (118, 8, 27, 0), (142, 8, 0, 0), (145, 8, 1, 0), (148, 8, 9, 0), (151, 8, 8, 0), (162, 8, 7, 0), (226, 8, 16, 0), (242, 8, 17, 0), (245, 8, 35, 0), (248, 8, 36, 0), (251, 8, 37, 0), (254, 8, 40, 0), (257, 8, 38, 0), (260, 8, 39, 0), (263, 8, 41, 0), (323, 8, 18, 0), (331, 8, 45, 1), (335, 8, 46, 1), (345, 8, 49, 1), (350, 8, 51, 1), (365, 8, 55, 1), (374, 8, 53, 1), (411, 8, 56, 1)]
set_option maxRecDepth 20000 in
theorem flRX8_ok : mm_flok RX8 (mm_flt flRX8) := mm_flok_of _ [949, 950, 951, 952, 953, 957, 958, 959, 960, 961, 962, 966, 967, 968, 969, 971, 975, 976, 977, 978, 979, 980, 981, 989, 990, 991, 994, 995, 997, 999, 1001, 970, 972, 973, 974, 947, 948, 956, 955, 954, 963, 964, 982, 983, 984, 987, 985, 986, 988, 965, 992, 993, 996, 998, 1002, 1000, 1003] cl_all (by decide +kernel) (by decide +kernel) (by decide +kernel) (by decide +kernel)
def ctRX0 : List (Nat × Int) := []
set_option maxRecDepth 20000 in
theorem ctRX0_ok : mm_ctJ RX0 (mm_ctt ctRX0) := mm_ctJ_of _ [] (by decide +kernel) (by decide +kernel) (by decide +kernel)
def ctRX1 : List (Nat × Int) := [(66, 4), (85, 8), (95, 10), (107, -1), (109, 1000)]
set_option maxRecDepth 20000 in
theorem ctRX1_ok : mm_ctJ RX1 (mm_ctt ctRX1) := mm_ctJ_of _ [845, 862, 867, 872, 892] (by decide +kernel) (by decide +kernel) (by decide +kernel)
def ctRX2 : List (Nat × Int) := []
set_option maxRecDepth 20000 in
theorem ctRX2_ok : mm_ctJ RX2 (mm_ctt ctRX2) := mm_ctJ_of _ [] (by decide +kernel) (by decide +kernel) (by decide +kernel)
def ctRX3 : List (Nat × Int) := []
set_option maxRecDepth 20000 in
theorem ctRX3_ok : mm_ctJ RX3 (mm_ctt ctRX3) := mm_ctJ_of _ [] (by decide +kernel) (by decide +kernel) (by decide +kernel)
def ctRX4 : List (Nat × Int) := []
set_option maxRecDepth 20000 in
theorem ctRX4_ok : mm_ctJ RX4 (mm_ctt ctRX4) := mm_ctJ_of _ [] (by decide +kernel) (by decide +kernel) (by decide +kernel)
def ctRX5 : List (Nat × Int) := []
set_option maxRecDepth 20000 in
theorem ctRX5_ok : mm_ctJ RX5 (mm_ctt ctRX5) := mm_ctJ_of _ [] (by decide +kernel) (by decide +kernel) (by decide +kernel)
def ctRX6 : List (Nat × Int) := [(101, 1000000)]
set_option maxRecDepth 20000 in
theorem ctRX6_ok : mm_ctI RX6 (mm_ctt ctRX6) := mm_ctI_of _ [792] (by decide +kernel) (by decide +kernel) (by decide +kernel)
def ctRX7 : List (Nat × Int) := [(290, 10000), (292, 1543), (317, 31)]
set_option maxRecDepth 20000 in
theorem ctRX7_ok : mm_ctJ RX7 (mm_ctt ctRX7) := mm_ctJ_of _ [897, 906, 915] (by decide +kernel) (by decide +kernel) (by decide +kernel)
def ctRX8 : List (Nat × Int) := [(326, 4), (348, 8), (363, 10), (399, 1000), (404, 10000), (409, 31), (421, 1543)]
set_option maxRecDepth 20000 in
theorem ctRX8_ok : mm_ctJ RX8 (mm_ctt ctRX8) := mm_ctJ_of _ [1456, 1465, 1474, 1511, 1516, 1538, 1529] (by decide +kernel) (by decide +kernel) (by decide +kernel)
theorem flRJ9_ok : mm_flok RJ9 (mm_flt []) := fun n ci k t h => by cases h
def flRJ9 : List (Nat × Nat × Nat × Nat) := []
def ctRJ9 : List (Nat × Int) := []
set_option maxRecDepth 20000 in
theorem ctRJ9_ok : mm_ctJ RJ9 (mm_ctt ctRJ9) := mm_ctJ_of _ [] (by decide +kernel) (by decide +kernel) (by decide +kernel)
end
