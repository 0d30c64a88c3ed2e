section
-- ===== PART A: goes FIRST, ahead of the names: the tables' words, and 'selects' of the private methods out of them =====
/-- a private method of a class that the tables say can be made, by its rows of tables_1 -/
def lw_okq (q : MethodName × Nat) : Prop := (q.1.cls ≠ "java/lang/invoke/MethodHandle" ∧ q.1.cls ≠ "java/lang/invoke/VarHandle") ∧ Cond.instantiable q.1.cls q.2 ∈ tables_1 ∧ Cond.privateMethod q.1 ∈ tables_1 ∧ Cond.instanceMethod q.1 ∈ tables_1
theorem lw_p0 : lw_okq (⟨"ReachLabels$Reach", "turnAround", "()V"⟩, 10) := ⟨⟨by decide +kernel, by decide +kernel⟩, List.mem_of_getElem? (i := 99) (by decide +kernel), List.mem_of_getElem? (i := 279) (by decide +kernel), List.mem_of_getElem? (i := 280) (by decide +kernel)⟩
theorem lw_p1 : lw_okq (⟨"ReachLabels$Reach", "nameRings", "()V"⟩, 10) := ⟨⟨by decide +kernel, by decide +kernel⟩, List.mem_of_getElem? (i := 99) (by decide +kernel), List.mem_of_getElem? (i := 285) (by decide +kernel), List.mem_of_getElem? (i := 286) (by decide +kernel)⟩
theorem lw_p2 : lw_okq (⟨"ReachLabels$Reach", "rankRings", "([I)V"⟩, 10) := ⟨⟨by decide +kernel, by decide +kernel⟩, List.mem_of_getElem? (i := 99) (by decide +kernel), List.mem_of_getElem? (i := 296) (by decide +kernel), List.mem_of_getElem? (i := 297) (by decide +kernel)⟩
theorem lw_p3 : lw_okq (⟨"ReachLabels$Reach", "label", "()V"⟩, 10) := ⟨⟨by decide +kernel, by decide +kernel⟩, List.mem_of_getElem? (i := 99) (by decide +kernel), List.mem_of_getElem? (i := 303) (by decide +kernel), List.mem_of_getElem? (i := 304) (by decide +kernel)⟩
theorem lw_p4 : lw_okq (⟨"ReachLabels$Script", "readToken", "()V"⟩, 7) := ⟨⟨by decide +kernel, by decide +kernel⟩, List.mem_of_getElem? (i := 70) (by decide +kernel), List.mem_of_getElem? (i := 366) (by decide +kernel), List.mem_of_getElem? (i := 367) (by decide +kernel)⟩
theorem lw_p5 : lw_okq (⟨"ReachLabels$Script", "readItem", "(LReachLabels$Net;Z)Z"⟩, 7) := ⟨⟨by decide +kernel, by decide +kernel⟩, List.mem_of_getElem? (i := 70) (by decide +kernel), List.mem_of_getElem? (i := 377) (by decide +kernel), List.mem_of_getElem? (i := 378) (by decide +kernel)⟩
theorem lw_p6 : lw_okq (⟨"ReachLabels$Script", "readNodes", "(LReachLabels$Net;)Z"⟩, 7) := ⟨⟨by decide +kernel, by decide +kernel⟩, List.mem_of_getElem? (i := 70) (by decide +kernel), List.mem_of_getElem? (i := 381) (by decide +kernel), List.mem_of_getElem? (i := 382) (by decide +kernel)⟩
theorem lw_p7 : lw_okq (⟨"ReachLabels$Script", "readNumber", "(II)Z"⟩, 7) := ⟨⟨by decide +kernel, by decide +kernel⟩, List.mem_of_getElem? (i := 70) (by decide +kernel), List.mem_of_getElem? (i := 385) (by decide +kernel), List.mem_of_getElem? (i := 386) (by decide +kernel)⟩
theorem lw_p8 : lw_okq (⟨"ReachLabels$Script", "readEdge", "(LReachLabels$Net;)Z"⟩, 7) := ⟨⟨by decide +kernel, by decide +kernel⟩, List.mem_of_getElem? (i := 70) (by decide +kernel), List.mem_of_getElem? (i := 389) (by decide +kernel), List.mem_of_getElem? (i := 390) (by decide +kernel)⟩
theorem lw_p9 : lw_okq (⟨"ReachLabels$Script", "readRanked", "(LReachLabels$Net;)Z"⟩, 7) := ⟨⟨by decide +kernel, by decide +kernel⟩, List.mem_of_getElem? (i := 70) (by decide +kernel), List.mem_of_getElem? (i := 403) (by decide +kernel), List.mem_of_getElem? (i := 404) (by decide +kernel)⟩
theorem lw_p10 : lw_okq (⟨"ReachLabels", "isNode", "(I)Z"⟩, 11) := ⟨⟨by decide +kernel, by decide +kernel⟩, List.mem_of_getElem? (i := 17) (by decide +kernel), List.mem_of_getElem? (i := 422) (by decide +kernel), List.mem_of_getElem? (i := 423) (by decide +kernel)⟩
theorem lw_p11 : lw_okq (⟨"ReachLabels", "areTwoNodes", "(II)Z"⟩, 11) := ⟨⟨by decide +kernel, by decide +kernel⟩, List.mem_of_getElem? (i := 17) (by decide +kernel), List.mem_of_getElem? (i := 431) (by decide +kernel), List.mem_of_getElem? (i := 432) (by decide +kernel)⟩
theorem lw_p12 : lw_okq (⟨"ReachLabels", "areNodes", "(II)Z"⟩, 11) := ⟨⟨by decide +kernel, by decide +kernel⟩, List.mem_of_getElem? (i := 17) (by decide +kernel), List.mem_of_getElem? (i := 435) (by decide +kernel), List.mem_of_getElem? (i := 436) (by decide +kernel)⟩
theorem lw_p13 : lw_okq (⟨"ReachLabels$Reach", "longestFrom", "(I)I"⟩, 10) := ⟨⟨by decide +kernel, by decide +kernel⟩, List.mem_of_getElem? (i := 99) (by decide +kernel), List.mem_of_getElem? (i := 498) (by decide +kernel), List.mem_of_getElem? (i := 499) (by decide +kernel)⟩
theorem lw_p14 : lw_okq (⟨"ReachLabels$Past", "dropOldest", "()V"⟩, 2) := ⟨⟨by decide +kernel, by decide +kernel⟩, List.mem_of_getElem? (i := 230) (by decide +kernel), List.mem_of_getElem? (i := 510) (by decide +kernel), List.mem_of_getElem? (i := 511) (by decide +kernel)⟩
theorem lw_p15 : lw_okq (⟨"ReachLabels", "labelsThen", "()I"⟩, 11) := ⟨⟨by decide +kernel, by decide +kernel⟩, List.mem_of_getElem? (i := 17) (by decide +kernel), List.mem_of_getElem? (i := 516) (by decide +kernel), List.mem_of_getElem? (i := 517) (by decide +kernel)⟩
def lw_privs_1 : List (MethodName × Nat) := [(⟨"ReachLabels$Reach", "turnAround", "()V"⟩, 10), (⟨"ReachLabels$Reach", "nameRings", "()V"⟩, 10), (⟨"ReachLabels$Reach", "rankRings", "([I)V"⟩, 10), (⟨"ReachLabels$Reach", "label", "()V"⟩, 10), (⟨"ReachLabels$Script", "readToken", "()V"⟩, 7), (⟨"ReachLabels$Script", "readItem", "(LReachLabels$Net;Z)Z"⟩, 7), (⟨"ReachLabels$Script", "readNodes", "(LReachLabels$Net;)Z"⟩, 7), (⟨"ReachLabels$Script", "readNumber", "(II)Z"⟩, 7), (⟨"ReachLabels$Script", "readEdge", "(LReachLabels$Net;)Z"⟩, 7), (⟨"ReachLabels$Script", "readRanked", "(LReachLabels$Net;)Z"⟩, 7), (⟨"ReachLabels", "isNode", "(I)Z"⟩, 11), (⟨"ReachLabels", "areTwoNodes", "(II)Z"⟩, 11), (⟨"ReachLabels", "areNodes", "(II)Z"⟩, 11), (⟨"ReachLabels$Reach", "longestFrom", "(I)I"⟩, 10), (⟨"ReachLabels$Past", "dropOldest", "()V"⟩, 2), (⟨"ReachLabels", "labelsThen", "()I"⟩, 11)]
theorem lw_r1 : ∀ q ∈ lw_privs_1, lw_okq q := List.forall_mem_cons.mpr ⟨lw_p0, List.forall_mem_cons.mpr ⟨lw_p1, List.forall_mem_cons.mpr ⟨lw_p2, List.forall_mem_cons.mpr ⟨lw_p3, List.forall_mem_cons.mpr ⟨lw_p4, List.forall_mem_cons.mpr ⟨lw_p5, List.forall_mem_cons.mpr ⟨lw_p6, List.forall_mem_cons.mpr ⟨lw_p7, List.forall_mem_cons.mpr ⟨lw_p8, List.forall_mem_cons.mpr ⟨lw_p9, List.forall_mem_cons.mpr ⟨lw_p10, List.forall_mem_cons.mpr ⟨lw_p11, List.forall_mem_cons.mpr ⟨lw_p12, List.forall_mem_cons.mpr ⟨lw_p13, List.forall_mem_cons.mpr ⟨lw_p14, List.forall_mem_cons.mpr ⟨lw_p15, fun _ h => absurd h List.not_mem_nil⟩⟩⟩⟩⟩⟩⟩⟩⟩⟩⟩⟩⟩⟩⟩⟩
theorem lw_p16 : lw_okq (⟨"ReachLabels$Ranker", "howManyAheadOf", "(II)I"⟩, 1) := ⟨⟨by decide +kernel, by decide +kernel⟩, List.mem_of_getElem? (i := 146) (by decide +kernel), List.mem_of_getElem? (i := 542) (by decide +kernel), List.mem_of_getElem? (i := 543) (by decide +kernel)⟩
theorem lw_p17 : lw_okq (⟨"ReachLabels$Chances", "takeEdges", "(LReachLabels$Net;I)V"⟩, 6) := ⟨⟨by decide +kernel, by decide +kernel⟩, List.mem_of_getElem? (i := 176) (by decide +kernel), List.mem_of_getElem? (i := 645) (by decide +kernel), List.mem_of_getElem? (i := 646) (by decide +kernel)⟩
theorem lw_p18 : lw_okq (⟨"ReachLabels$Chances", "weighCounts", "(I)V"⟩, 6) := ⟨⟨by decide +kernel, by decide +kernel⟩, List.mem_of_getElem? (i := 176) (by decide +kernel), List.mem_of_getElem? (i := 651) (by decide +kernel), List.mem_of_getElem? (i := 652) (by decide +kernel)⟩
theorem lw_p19 : lw_okq (⟨"ReachLabels$Chances", "arrives", "(III)Z"⟩, 6) := ⟨⟨by decide +kernel, by decide +kernel⟩, List.mem_of_getElem? (i := 176) (by decide +kernel), List.mem_of_getElem? (i := 659) (by decide +kernel), List.mem_of_getElem? (i := 660) (by decide +kernel)⟩
theorem lw_p20 : lw_okq (⟨"ReachLabels$Chances", "reduce", "()V"⟩, 6) := ⟨⟨by decide +kernel, by decide +kernel⟩, List.mem_of_getElem? (i := 176) (by decide +kernel), List.mem_of_getElem? (i := 665) (by decide +kernel), List.mem_of_getElem? (i := 666) (by decide +kernel)⟩
theorem lw_p21 : lw_okq (⟨"ReachLabels$Sights", "fittingSo", "(LReachLabels$Reach;II)I"⟩, 6) := ⟨⟨by decide +kernel, by decide +kernel⟩, List.mem_of_getElem? (i := 204) (by decide +kernel), List.mem_of_getElem? (i := 714) (by decide +kernel), List.mem_of_getElem? (i := 715) (by decide +kernel)⟩
theorem lw_p22 : lw_okq (⟨"ReachLabelsModel", "begins", "()V"⟩, 28) := ⟨⟨by decide +kernel, by decide +kernel⟩, List.mem_of_getElem? (i := 740) (by decide +kernel), List.mem_of_getElem? (i := 746) (by decide +kernel), List.mem_of_getElem? (i := 747) (by decide +kernel)⟩
theorem lw_p23 : lw_okq (⟨"ReachLabelsModel", "ranksRest", "()V"⟩, 28) := ⟨⟨by decide +kernel, by decide +kernel⟩, List.mem_of_getElem? (i := 740) (by decide +kernel), List.mem_of_getElem? (i := 750) (by decide +kernel), List.mem_of_getElem? (i := 751) (by decide +kernel)⟩
theorem lw_p24 : lw_okq (⟨"ReachLabelsModel", "settles", "()V"⟩, 28) := ⟨⟨by decide +kernel, by decide +kernel⟩, List.mem_of_getElem? (i := 740) (by decide +kernel), List.mem_of_getElem? (i := 754) (by decide +kernel), List.mem_of_getElem? (i := 755) (by decide +kernel)⟩
theorem lw_p25 : lw_okq (⟨"ReachLabelsModel", "advances", "()V"⟩, 28) := ⟨⟨by decide +kernel, by decide +kernel⟩, List.mem_of_getElem? (i := 740) (by decide +kernel), List.mem_of_getElem? (i := 858) (by decide +kernel), List.mem_of_getElem? (i := 859) (by decide +kernel)⟩
theorem lw_p26 : lw_okq (⟨"ReachLabelsModel", "letterAt", "(I)I"⟩, 28) := ⟨⟨by decide +kernel, by decide +kernel⟩, List.mem_of_getElem? (i := 740) (by decide +kernel), List.mem_of_getElem? (i := 862) (by decide +kernel), List.mem_of_getElem? (i := 863) (by decide +kernel)⟩
theorem lw_p27 : lw_okq (⟨"ReachLabelsModel", "isWell", "()Z"⟩, 28) := ⟨⟨by decide +kernel, by decide +kernel⟩, List.mem_of_getElem? (i := 740) (by decide +kernel), List.mem_of_getElem? (i := 866) (by decide +kernel), List.mem_of_getElem? (i := 867) (by decide +kernel)⟩
theorem lw_p28 : lw_okq (⟨"ReachLabelsModel", "takes", "(Z)I"⟩, 28) := ⟨⟨by decide +kernel, by decide +kernel⟩, List.mem_of_getElem? (i := 740) (by decide +kernel), List.mem_of_getElem? (i := 870) (by decide +kernel), List.mem_of_getElem? (i := 871) (by decide +kernel)⟩
theorem lw_p29 : lw_okq (⟨"ReachLabelsModel", "readsItem", "(I)V"⟩, 28) := ⟨⟨by decide +kernel, by decide +kernel⟩, List.mem_of_getElem? (i := 740) (by decide +kernel), List.mem_of_getElem? (i := 874) (by decide +kernel), List.mem_of_getElem? (i := 875) (by decide +kernel)⟩
theorem lw_p30 : lw_okq (⟨"ReachLabelsModel", "isNumber", "(II)Z"⟩, 28) := ⟨⟨by decide +kernel, by decide +kernel⟩, List.mem_of_getElem? (i := 740) (by decide +kernel), List.mem_of_getElem? (i := 878) (by decide +kernel), List.mem_of_getElem? (i := 879) (by decide +kernel)⟩
theorem lw_p31 : lw_okq (⟨"ReachLabelsModel", "isNode", "(I)Z"⟩, 28) := ⟨⟨by decide +kernel, by decide +kernel⟩, List.mem_of_getElem? (i := 740) (by decide +kernel), List.mem_of_getElem? (i := 889) (by decide +kernel), List.mem_of_getElem? (i := 890) (by decide +kernel)⟩
def lw_privs_2 : List (MethodName × Nat) := [(⟨"ReachLabels$Ranker", "howManyAheadOf", "(II)I"⟩, 1), (⟨"ReachLabels$Chances", "takeEdges", "(LReachLabels$Net;I)V"⟩, 6), (⟨"ReachLabels$Chances", "weighCounts", "(I)V"⟩, 6), (⟨"ReachLabels$Chances", "arrives", "(III)Z"⟩, 6), (⟨"ReachLabels$Chances", "reduce", "()V"⟩, 6), (⟨"ReachLabels$Sights", "fittingSo", "(LReachLabels$Reach;II)I"⟩, 6), (⟨"ReachLabelsModel", "begins", "()V"⟩, 28), (⟨"ReachLabelsModel", "ranksRest", "()V"⟩, 28), (⟨"ReachLabelsModel", "settles", "()V"⟩, 28), (⟨"ReachLabelsModel", "advances", "()V"⟩, 28), (⟨"ReachLabelsModel", "letterAt", "(I)I"⟩, 28), (⟨"ReachLabelsModel", "isWell", "()Z"⟩, 28), (⟨"ReachLabelsModel", "takes", "(Z)I"⟩, 28), (⟨"ReachLabelsModel", "readsItem", "(I)V"⟩, 28), (⟨"ReachLabelsModel", "isNumber", "(II)Z"⟩, 28), (⟨"ReachLabelsModel", "isNode", "(I)Z"⟩, 28)]
theorem lw_r2 : ∀ q ∈ lw_privs_2, lw_okq q := List.forall_mem_cons.mpr ⟨lw_p16, List.forall_mem_cons.mpr ⟨lw_p17, List.forall_mem_cons.mpr ⟨lw_p18, List.forall_mem_cons.mpr ⟨lw_p19, List.forall_mem_cons.mpr ⟨lw_p20, List.forall_mem_cons.mpr ⟨lw_p21, List.forall_mem_cons.mpr ⟨lw_p22, List.forall_mem_cons.mpr ⟨lw_p23, List.forall_mem_cons.mpr ⟨lw_p24, List.forall_mem_cons.mpr ⟨lw_p25, List.forall_mem_cons.mpr ⟨lw_p26, List.forall_mem_cons.mpr ⟨lw_p27, List.forall_mem_cons.mpr ⟨lw_p28, List.forall_mem_cons.mpr ⟨lw_p29, List.forall_mem_cons.mpr ⟨lw_p30, List.forall_mem_cons.mpr ⟨lw_p31, fun _ h => absurd h List.not_mem_nil⟩⟩⟩⟩⟩⟩⟩⟩⟩⟩⟩⟩⟩⟩⟩⟩
theorem lw_p32 : lw_okq (⟨"ReachLabelsModel", "comesBy", "([I[I)V"⟩, 28) := ⟨⟨by decide +kernel, by decide +kernel⟩, List.mem_of_getElem? (i := 740) (by decide +kernel), List.mem_of_getElem? (i := 893) (by decide +kernel), List.mem_of_getElem? (i := 894) (by decide +kernel)⟩
theorem lw_p33 : lw_okq (⟨"ReachLabelsModel", "nameOf", "(I)I"⟩, 28) := ⟨⟨by decide +kernel, by decide +kernel⟩, List.mem_of_getElem? (i := 740) (by decide +kernel), List.mem_of_getElem? (i := 897) (by decide +kernel), List.mem_of_getElem? (i := 898) (by decide +kernel)⟩
theorem lw_p34 : lw_okq (⟨"ReachLabelsModel", "ringOf", "(I)I"⟩, 28) := ⟨⟨by decide +kernel, by decide +kernel⟩, List.mem_of_getElem? (i := 740) (by decide +kernel), List.mem_of_getElem? (i := 901) (by decide +kernel), List.mem_of_getElem? (i := 902) (by decide +kernel)⟩
theorem lw_p35 : lw_okq (⟨"ReachLabelsModel", "comingTo", "(I)I"⟩, 28) := ⟨⟨by decide +kernel, by decide +kernel⟩, List.mem_of_getElem? (i := 740) (by decide +kernel), List.mem_of_getElem? (i := 905) (by decide +kernel), List.mem_of_getElem? (i := 906) (by decide +kernel)⟩
theorem lw_p36 : lw_okq (⟨"ReachLabelsModel", "names", "()I"⟩, 28) := ⟨⟨by decide +kernel, by decide +kernel⟩, List.mem_of_getElem? (i := 740) (by decide +kernel), List.mem_of_getElem? (i := 912) (by decide +kernel), List.mem_of_getElem? (i := 913) (by decide +kernel)⟩
theorem lw_p37 : lw_okq (⟨"ReachLabelsModel", "inOf", "(II)I"⟩, 28) := ⟨⟨by decide +kernel, by decide +kernel⟩, List.mem_of_getElem? (i := 740) (by decide +kernel), List.mem_of_getElem? (i := 916) (by decide +kernel), List.mem_of_getElem? (i := 917) (by decide +kernel)⟩
theorem lw_p38 : lw_okq (⟨"ReachLabelsModel", "isLabel", "(IIII)Z"⟩, 28) := ⟨⟨by decide +kernel, by decide +kernel⟩, List.mem_of_getElem? (i := 740) (by decide +kernel), List.mem_of_getElem? (i := 920) (by decide +kernel), List.mem_of_getElem? (i := 921) (by decide +kernel)⟩
theorem lw_p39 : lw_okq (⟨"ReachLabelsModel", "ringRank", "(I)I"⟩, 28) := ⟨⟨by decide +kernel, by decide +kernel⟩, List.mem_of_getElem? (i := 740) (by decide +kernel), List.mem_of_getElem? (i := 924) (by decide +kernel), List.mem_of_getElem? (i := 925) (by decide +kernel)⟩
theorem lw_p40 : lw_okq (⟨"ReachLabelsModel", "outOf", "(II)I"⟩, 28) := ⟨⟨by decide +kernel, by decide +kernel⟩, List.mem_of_getElem? (i := 740) (by decide +kernel), List.mem_of_getElem? (i := 928) (by decide +kernel), List.mem_of_getElem? (i := 929) (by decide +kernel)⟩
theorem lw_p41 : lw_okq (⟨"ReachLabelsModel", "isTwo", "(II)Z"⟩, 28) := ⟨⟨by decide +kernel, by decide +kernel⟩, List.mem_of_getElem? (i := 740) (by decide +kernel), List.mem_of_getElem? (i := 936) (by decide +kernel), List.mem_of_getElem? (i := 937) (by decide +kernel)⟩
theorem lw_p42 : lw_okq (⟨"ReachLabelsModel", "edges", "([I)I"⟩, 28) := ⟨⟨by decide +kernel, by decide +kernel⟩, List.mem_of_getElem? (i := 740) (by decide +kernel), List.mem_of_getElem? (i := 944) (by decide +kernel), List.mem_of_getElem? (i := 945) (by decide +kernel)⟩
theorem lw_p43 : lw_okq (⟨"ReachLabelsModel", "labels", "()I"⟩, 28) := ⟨⟨by decide +kernel, by decide +kernel⟩, List.mem_of_getElem? (i := 740) (by decide +kernel), List.mem_of_getElem? (i := 951) (by decide +kernel), List.mem_of_getElem? (i := 952) (by decide +kernel)⟩
theorem lw_p44 : lw_okq (⟨"ReachLabelsModel", "pairsOf", "([I)I"⟩, 28) := ⟨⟨by decide +kernel, by decide +kernel⟩, List.mem_of_getElem? (i := 740) (by decide +kernel), List.mem_of_getElem? (i := 955) (by decide +kernel), List.mem_of_getElem? (i := 956) (by decide +kernel)⟩
theorem lw_p45 : lw_okq (⟨"ReachLabelsModel", "spares", "()I"⟩, 28) := ⟨⟨by decide +kernel, by decide +kernel⟩, List.mem_of_getElem? (i := 740) (by decide +kernel), List.mem_of_getElem? (i := 959) (by decide +kernel), List.mem_of_getElem? (i := 960) (by decide +kernel)⟩
theorem lw_p46 : lw_okq (⟨"ReachLabelsModel", "pairsNow", "()I"⟩, 28) := ⟨⟨by decide +kernel, by decide +kernel⟩, List.mem_of_getElem? (i := 740) (by decide +kernel), List.mem_of_getElem? (i := 963) (by decide +kernel), List.mem_of_getElem? (i := 964) (by decide +kernel)⟩
theorem lw_p47 : lw_okq (⟨"ReachLabelsModel", "pairsWith", "(II)I"⟩, 28) := ⟨⟨by decide +kernel, by decide +kernel⟩, List.mem_of_getElem? (i := 740) (by decide +kernel), List.mem_of_getElem? (i := 967) (by decide +kernel), List.mem_of_getElem? (i := 968) (by decide +kernel)⟩
def lw_privs_3 : List (MethodName × Nat) := [(⟨"ReachLabelsModel", "comesBy", "([I[I)V"⟩, 28), (⟨"ReachLabelsModel", "nameOf", "(I)I"⟩, 28), (⟨"ReachLabelsModel", "ringOf", "(I)I"⟩, 28), (⟨"ReachLabelsModel", "comingTo", "(I)I"⟩, 28), (⟨"ReachLabelsModel", "names", "()I"⟩, 28), (⟨"ReachLabelsModel", "inOf", "(II)I"⟩, 28), (⟨"ReachLabelsModel", "isLabel", "(IIII)Z"⟩, 28), (⟨"ReachLabelsModel", "ringRank", "(I)I"⟩, 28), (⟨"ReachLabelsModel", "outOf", "(II)I"⟩, 28), (⟨"ReachLabelsModel", "isTwo", "(II)Z"⟩, 28), (⟨"ReachLabelsModel", "edges", "([I)I"⟩, 28), (⟨"ReachLabelsModel", "labels", "()I"⟩, 28), (⟨"ReachLabelsModel", "pairsOf", "([I)I"⟩, 28), (⟨"ReachLabelsModel", "spares", "()I"⟩, 28), (⟨"ReachLabelsModel", "pairsNow", "()I"⟩, 28), (⟨"ReachLabelsModel", "pairsWith", "(II)I"⟩, 28)]
theorem lw_r3 : ∀ q ∈ lw_privs_3, lw_okq q := List.forall_mem_cons.mpr ⟨lw_p32, List.forall_mem_cons.mpr ⟨lw_p33, List.forall_mem_cons.mpr ⟨lw_p34, List.forall_mem_cons.mpr ⟨lw_p35, List.forall_mem_cons.mpr ⟨lw_p36, List.forall_mem_cons.mpr ⟨lw_p37, List.forall_mem_cons.mpr ⟨lw_p38, List.forall_mem_cons.mpr ⟨lw_p39, List.forall_mem_cons.mpr ⟨lw_p40, List.forall_mem_cons.mpr ⟨lw_p41, List.forall_mem_cons.mpr ⟨lw_p42, List.forall_mem_cons.mpr ⟨lw_p43, List.forall_mem_cons.mpr ⟨lw_p44, List.forall_mem_cons.mpr ⟨lw_p45, List.forall_mem_cons.mpr ⟨lw_p46, List.forall_mem_cons.mpr ⟨lw_p47, fun _ h => absurd h List.not_mem_nil⟩⟩⟩⟩⟩⟩⟩⟩⟩⟩⟩⟩⟩⟩⟩⟩
theorem lw_p48 : lw_okq (⟨"ReachLabelsModel", "asNow", "()V"⟩, 28) := ⟨⟨by decide +kernel, by decide +kernel⟩, List.mem_of_getElem? (i := 740) (by decide +kernel), List.mem_of_getElem? (i := 971) (by decide +kernel), List.mem_of_getElem? (i := 972) (by decide +kernel)⟩
theorem lw_p49 : lw_okq (⟨"ReachLabelsModel", "lone", "()I"⟩, 28) := ⟨⟨by decide +kernel, by decide +kernel⟩, List.mem_of_getElem? (i := 740) (by decide +kernel), List.mem_of_getElem? (i := 975) (by decide +kernel), List.mem_of_getElem? (i := 976) (by decide +kernel)⟩
theorem lw_p50 : lw_okq (⟨"ReachLabelsModel", "chain", "()I"⟩, 28) := ⟨⟨by decide +kernel, by decide +kernel⟩, List.mem_of_getElem? (i := 740) (by decide +kernel), List.mem_of_getElem? (i := 979) (by decide +kernel), List.mem_of_getElem? (i := 980) (by decide +kernel)⟩
theorem lw_p51 : lw_okq (⟨"ReachLabelsModel", "notes", "()V"⟩, 28) := ⟨⟨by decide +kernel, by decide +kernel⟩, List.mem_of_getElem? (i := 740) (by decide +kernel), List.mem_of_getElem? (i := 987) (by decide +kernel), List.mem_of_getElem? (i := 988) (by decide +kernel)⟩
theorem lw_p52 : lw_okq (⟨"ReachLabelsModel", "weight", "(I)I"⟩, 28) := ⟨⟨by decide +kernel, by decide +kernel⟩, List.mem_of_getElem? (i := 740) (by decide +kernel), List.mem_of_getElem? (i := 999) (by decide +kernel), List.mem_of_getElem? (i := 1000) (by decide +kernel)⟩
theorem lw_p53 : lw_okq (⟨"ReachLabelsModel", "measures", "(I)V"⟩, 28) := ⟨⟨by decide +kernel, by decide +kernel⟩, List.mem_of_getElem? (i := 740) (by decide +kernel), List.mem_of_getElem? (i := 1019) (by decide +kernel), List.mem_of_getElem? (i := 1020) (by decide +kernel)⟩
theorem lw_p54 : lw_okq (⟨"ReachLabelsModel", "unseenMany", "()I"⟩, 28) := ⟨⟨by decide +kernel, by decide +kernel⟩, List.mem_of_getElem? (i := 740) (by decide +kernel), List.mem_of_getElem? (i := 1059) (by decide +kernel), List.mem_of_getElem? (i := 1060) (by decide +kernel)⟩
theorem lw_p55 : lw_okq (⟨"ReachLabelsModel", "canBe", "(II)Z"⟩, 28) := ⟨⟨by decide +kernel, by decide +kernel⟩, List.mem_of_getElem? (i := 740) (by decide +kernel), List.mem_of_getElem? (i := 1063) (by decide +kernel), List.mem_of_getElem? (i := 1064) (by decide +kernel)⟩
def lw_privs_4 : List (MethodName × Nat) := [(⟨"ReachLabelsModel", "asNow", "()V"⟩, 28), (⟨"ReachLabelsModel", "lone", "()I"⟩, 28), (⟨"ReachLabelsModel", "chain", "()I"⟩, 28), (⟨"ReachLabelsModel", "notes", "()V"⟩, 28), (⟨"ReachLabelsModel", "weight", "(I)I"⟩, 28), (⟨"ReachLabelsModel", "measures", "(I)V"⟩, 28), (⟨"ReachLabelsModel", "unseenMany", "()I"⟩, 28), (⟨"ReachLabelsModel", "canBe", "(II)Z"⟩, 28)]
theorem lw_r4 : ∀ q ∈ lw_privs_4, lw_okq q := List.forall_mem_cons.mpr ⟨lw_p48, List.forall_mem_cons.mpr ⟨lw_p49, List.forall_mem_cons.mpr ⟨lw_p50, List.forall_mem_cons.mpr ⟨lw_p51, List.forall_mem_cons.mpr ⟨lw_p52, List.forall_mem_cons.mpr ⟨lw_p53, List.forall_mem_cons.mpr ⟨lw_p54, List.forall_mem_cons.mpr ⟨lw_p55, fun _ h => absurd h List.not_mem_nil⟩⟩⟩⟩⟩⟩⟩⟩
def lw_privs : List (MethodName × Nat) := lw_privs_1 ++ (lw_privs_2 ++ (lw_privs_3 ++ (lw_privs_4)))
def lw_tbl : List Cond := k2_sels lw_privs ++ tables_1
theorem lw_privs_ok : ∀ q ∈ lw_privs, lw_okq q := by
  show ∀ q ∈ lw_privs_1 ++ (lw_privs_2 ++ (lw_privs_3 ++ (lw_privs_4))), lw_okq q
  exact List.forall_mem_append.mpr ⟨lw_r1, List.forall_mem_append.mpr ⟨lw_r2, List.forall_mem_append.mpr ⟨lw_r3, lw_r4⟩⟩⟩
end
section
/-! the tables of the mirror machine: classes, fields, methods, links, by numbers; printed by wip/whole/gen02.py -/
def mr_cn : List String := ["ReachLabels$Album", "ReachLabels$Chances", "ReachLabels$Changes", "ReachLabels$Net", "ReachLabels$Past", "ReachLabels$Ranker", "ReachLabels$Reach", "ReachLabels$Script", "ReachLabels$Sights", "ReachLabels$Walks", "ReachLabels", "ReachLabelsModel", "ReachLabelsLaw", "java/lang/Integer", "java/lang/Math"]
def mr_fd : List (List (String × String × Bool × FieldType)) := [
  [("nets", "[LReachLabels$Net;", true, .array (.object "ReachLabels$Net")), ("kept", "[Z", true, .array (.boolean))],
  [("upper", "J", false, .long), ("lower", "J", false, .long), ("from", "[I", true, .array (.int)), ("to", "[I", true, .array (.int)), ("weights", "[J", true, .array (.long)), ("edges", "I", false, .int)],
  [("without", "[I", true, .array (.int))],
  [("nodes", "I", false, .int), ("to", "[I", true, .array (.int)), ("rank", "[I", true, .array (.int))],
  [("size", "I", false, .int), ("nets", "[LReachLabels$Net;", true, .array (.object "ReachLabels$Net"))],
  [("weight", "[I", true, .array (.int))],
  [("ahead", "[I", true, .array (.int)), ("behind", "[I", true, .array (.int)), ("name", "[I", true, .array (.int)), ("in", "[I", true, .array (.int)), ("out", "[I", true, .array (.int)), ("ringRank", "[I", true, .array (.int)), ("lowerRanked", "[I", true, .array (.int)), ("chainFrom", "[I", true, .array (.int)), ("nodes", "I", false, .int), ("names", "I", false, .int)],
  [("length", "I", false, .int), ("letters", "[I", true, .array (.int)), ("at", "I", false, .int), ("tokenStart", "I", false, .int), ("token", "I", false, .int), ("value", "I", false, .int), ("ranked", "I", false, .int)],
  [("size", "I", false, .int), ("from", "[I", true, .array (.int)), ("to", "[I", true, .array (.int)), ("came", "[I", true, .array (.int)), ("fits", "[I", true, .array (.int)), ("nodes", "I", false, .int)],
  [("farOff", "[I", true, .array (.int))],
  [("net", "LReachLabels$Net;", true, .object "ReachLabels$Net"), ("draft", "LReachLabels$Net;", true, .object "ReachLabels$Net"), ("script", "LReachLabels$Script;", true, .object "ReachLabels$Script"), ("reach", "LReachLabels$Reach;", true, .object "ReachLabels$Reach"), ("ranker", "LReachLabels$Ranker;", true, .object "ReachLabels$Ranker"), ("walks", "LReachLabels$Walks;", true, .object "ReachLabels$Walks"), ("changes", "LReachLabels$Changes;", true, .object "ReachLabels$Changes"), ("chances", "LReachLabels$Chances;", true, .object "ReachLabels$Chances"), ("sights", "LReachLabels$Sights;", true, .object "ReachLabels$Sights"), ("past", "LReachLabels$Past;", true, .object "ReachLabels$Past"), ("album", "LReachLabels$Album;", true, .object "ReachLabels$Album")],
  [("thrown", "I", false, .int), ("text", "[I", true, .array (.int)), ("typed", "I", false, .int), ("at", "I", false, .int), ("token", "I", false, .int), ("place", "I", false, .int), ("value", "I", false, .int), ("fault", "I", false, .int), ("nodes", "I", false, .int), ("draftNodes", "I", false, .int), ("draft", "[I", true, .array (.int)), ("draftRanked", "I", false, .int), ("s", "[I", true, .array (.int)), ("w", "[I", true, .array (.int)), ("kept", "[I", true, .array (.int)), ("isKept", "[Z", true, .array (.boolean)), ("undos", "[I", true, .array (.int)), ("undoMany", "I", false, .int), ("seenFrom", "[I", true, .array (.int)), ("seenTo", "[I", true, .array (.int)), ("seenCame", "[I", true, .array (.int)), ("seenMany", "I", false, .int), ("reach", "[I", true, .array (.int)), ("reachIf", "[I", true, .array (.int)), ("chained", "[I", true, .array (.int)), ("far", "[I", true, .array (.int)), ("comesIf", "[I", true, .array (.int)), ("unseenFirst", "I", false, .int)]]
def mr_name (n : Nat) : String := mr_cn.getD n ""
def mr_flds (n : Nat) : List (String × String × Bool × FieldType) := mr_fd.getD n []
def mr_T (n : Nat) : u_T := fun k => match (mr_flds n)[k]? with
  | some q => (mr_name n, q.1, q.2.1, q.2.2.1)
  | none => (mr_name n, "", "", true)
def mr_ty (n k : Nat) : FieldType := match (mr_flds n)[k]? with
  | some q => q.2.2.2
  | none => .int
def mr_N (n : Nat) : Nat := (mr_flds n).length
def mr_cl : List vw_C := (List.range 12).map (fun n => (mr_name n, mr_T n, mr_N n))
/-- a method: number of its class, name, descriptor, the place of its code among the words (5000: the law), locals, answer, how many parameters (without this), its height over its callees, kind (0 static, 1 virtual, 2 constructor) -/
abbrev mr_R : Type := Nat × String × String × Nat × Nat × Option FieldType × Nat × Nat × Nat
def mr_M : List mr_R := [
  (10, "<init>", "()V", 76, 1, none, 0, 4, 2),
  (3, "<init>", "()V", 84, 1, none, 0, 2, 2),
  (3, "startAnew", "()V", 89, 2, none, 0, 0, 1),
  (3, "rankRest", "(I)V", 93, 4, none, 1, 1, 1),
  (3, "isRanked", "(I)Z", 97, 2, some .boolean, 1, 0, 1),
  (7, "<init>", "()V", 129, 1, none, 0, 1, 2),
  (6, "<init>", "()V", 158, 1, none, 0, 1, 2),
  (5, "<init>", "()V", 205, 1, none, 0, 1, 2),
  (9, "<init>", "()V", 215, 1, none, 0, 1, 2),
  (2, "<init>", "()V", 225, 1, none, 0, 1, 2),
  (1, "<init>", "()V", 235, 1, none, 0, 1, 2),
  (8, "<init>", "()V", 263, 1, none, 0, 1, 2),
  (4, "<init>", "()V", 289, 2, none, 0, 3, 2),
  (0, "<init>", "()V", 306, 2, none, 0, 3, 2),
  (6, "derive", "(LReachLabels$Net;)V", 321, 2, none, 1, 3, 1),
  (10, "close", "([II)V", 327, 4, none, 2, 1, 0),
  (10, "bit", "(I)I", 330, 1, some .int, 1, 0, 0),
  (10, "holds", "(II)Z", 333, 2, some .boolean, 2, 0, 0),
  (6, "turnAround", "()V", 337, 3, none, 0, 1, 1),
  (6, "nameRings", "()V", 343, 2, none, 0, 2, 1),
  (6, "ringOf", "(I)I", 347, 2, some .int, 1, 0, 1),
  (10, "lowest", "(I)I", 350, 2, some .int, 1, 1, 0),
  (6, "rankRings", "([I)V", 354, 4, none, 1, 1, 1),
  (14, "min", "(II)I", 357, 2, some .int, 2, 0, 0),
  (6, "label", "()V", 361, 3, none, 0, 2, 1),
  (6, "leads", "(II)Z", 365, 3, some .boolean, 2, 1, 1),
  (10, "type", "(I)I", 403, 2, some .int, 1, 1, 1),
  (7, "append", "(I)Z", 407, 2, some .boolean, 1, 0, 1),
  (10, "clear", "()I", 411, 2, some .int, 0, 0, 1),
  (10, "graph", "()I", 415, 2, some .int, 0, 6, 1),
  (7, "readInto", "(LReachLabels$Net;)I", 419, 3, some .int, 1, 5, 1),
  (7, "readToken", "()V", 424, 3, none, 0, 1, 1),
  (7, "isDigit", "(I)Z", 427, 1, some .boolean, 1, 0, 0),
  (7, "isSign", "(I)Z", 430, 1, some .boolean, 1, 0, 0),
  (7, "readItem", "(LReachLabels$Net;Z)Z", 435, 4, some .boolean, 2, 4, 1),
  (7, "readNodes", "(LReachLabels$Net;)Z", 439, 2, some .boolean, 1, 3, 1),
  (7, "readNumber", "(II)Z", 443, 3, some .boolean, 2, 2, 1),
  (7, "readEdge", "(LReachLabels$Net;)Z", 447, 3, some .boolean, 1, 3, 1),
  (3, "has", "(II)Z", 451, 3, some .boolean, 2, 1, 1),
  (3, "link", "(II)V", 456, 3, none, 2, 1, 1),
  (7, "readRanked", "(LReachLabels$Net;)Z", 461, 2, some .boolean, 1, 3, 1),
  (3, "become", "(LReachLabels$Net;)V", 467, 2, none, 1, 1, 1),
  (0, "empty", "()V", 472, 2, none, 0, 0, 1),
  (10, "node", "(II)I", 476, 3, some .int, 2, 1, 1),
  (10, "isNode", "(I)Z", 480, 2, some .boolean, 1, 0, 1),
  (10, "edge", "(II)I", 485, 3, some .int, 2, 3, 1),
  (10, "areTwoNodes", "(II)Z", 489, 3, some .boolean, 2, 2, 1),
  (10, "areNodes", "(II)Z", 493, 3, some .boolean, 2, 1, 1),
  (10, "now", "(I)I", 498, 2, some .int, 1, 4, 1),
  (3, "edgeCount", "()I", 502, 3, some .int, 0, 1, 1),
  (13, "bitCount", "(I)I", 505, 1, some .int, 1, 0, 0),
  (6, "ringCount", "()I", 512, 1, some .int, 0, 1, 1),
  (6, "labelCount", "()I", 517, 3, some .int, 0, 1, 1),
  (6, "pairCount", "()I", 521, 1, some .int, 0, 2, 1),
  (10, "pairsOf", "([II)I", 524, 4, some .int, 2, 1, 0),
  (2, "spareCount", "(LReachLabels$Net;)I", 529, 5, some .int, 1, 3, 1),
  (2, "isSpare", "(LReachLabels$Net;II)Z", 534, 4, some .boolean, 3, 2, 1),
  (3, "spread", "(II)I", 539, 7, some .int, 2, 1, 1),
  (6, "lone", "()I", 544, 4, some .int, 0, 2, 1),
  (14, "max", "(II)I", 548, 2, some .int, 2, 0, 0),
  (6, "chain", "()I", 552, 4, some .int, 0, 2, 1),
  (6, "longestFrom", "(I)I", 556, 4, some .int, 1, 1, 1),
  (10, "adds", "(II)I", 560, 3, some .int, 2, 5, 1),
  (4, "remember", "(LReachLabels$Net;)V", 564, 2, none, 1, 2, 1),
  (4, "dropOldest", "()V", 568, 3, none, 0, 0, 1),
  (10, "labelsThen", "()I", 574, 1, some .int, 0, 4, 1),
  (10, "cuts", "(II)I", 578, 3, some .int, 2, 5, 1),
  (3, "unlink", "(II)V", 582, 3, none, 2, 1, 1),
  (10, "ranks", "()I", 586, 1, some .int, 0, 5, 1),
  (5, "rank", "(LReachLabels$Net;)V", 590, 3, none, 1, 3, 1),
  (3, "edgesInto", "(I)I", 595, 4, some .int, 1, 2, 1),
  (5, "howManyAheadOf", "(II)I", 600, 5, some .int, 2, 0, 1),
  (10, "undo", "()I", 604, 1, some .int, 0, 4, 1),
  (4, "restore", "(LReachLabels$Net;)Z", 608, 2, some .boolean, 1, 2, 1),
  (10, "comes", "(II)I", 612, 3, some .int, 2, 2, 1),
  (10, "hub", "(II)I", 616, 3, some .int, 2, 2, 1),
  (6, "lowestRanked", "(I)I", 620, 4, some .int, 1, 1, 1),
  (10, "way", "(III)I", 624, 5, some .int, 3, 3, 1),
  (9, "shortest", "(LReachLabels$Net;II)I", 628, 6, some .int, 3, 2, 1),
  (9, "leadingTo", "(LReachLabels$Net;I)I", 633, 4, some .int, 2, 1, 0),
  (9, "nodeOfShortest", "(LReachLabels$Net;III)I", 637, 7, some .int, 4, 2, 1),
  (10, "on", "(III)I", 642, 5, some .int, 3, 3, 1),
  (10, "isChoice", "(I)Z", 645, 1, some .boolean, 1, 0, 0),
  (9, "onEvery", "(LReachLabels$Net;III)I", 649, 7, some .int, 4, 2, 1),
  (10, "loss", "(III)I", 654, 4, some .int, 3, 3, 1),
  (2, "pairsWithout", "(LReachLabels$Net;II)I", 659, 4, some .int, 3, 2, 1),
  (10, "gain", "(II)I", 666, 3, some .int, 2, 3, 1),
  (2, "gainOf", "(LReachLabels$Reach;II)I", 670, 6, some .int, 3, 1, 1),
  (10, "best", "(I)I", 675, 3, some .int, 1, 4, 1),
  (2, "bestToAdd", "(LReachLabels$Net;LReachLabels$Reach;)I", 679, 8, some .int, 2, 3, 1),
  (3, "missingFrom", "(I)I", 683, 2, some .int, 1, 2, 1),
  (3, "everyNode", "()I", 687, 1, some .int, 0, 1, 1),
  (10, "edgeNumber", "(II)I", 691, 2, some .int, 2, 0, 0),
  (10, "odds", "(IIII)I", 695, 5, some .int, 4, 4, 1),
  (1, "weigh", "(LReachLabels$Net;LReachLabels$Reach;III)V", 699, 7, none, 5, 3, 1),
  (1, "takeEdges", "(LReachLabels$Net;I)V", 703, 6, none, 2, 2, 1),
  (1, "weighCounts", "(I)V", 709, 3, none, 1, 1, 1),
  (1, "power", "(JI)J", 712, 6, some .long, 2, 0, 0),
  (1, "arrives", "(III)Z", 717, 8, some .boolean, 3, 1, 1),
  (1, "reduce", "()V", 723, 8, none, 0, 0, 1),
  (10, "sees", "(III)I", 727, 4, some .int, 3, 2, 1),
  (8, "append", "(III)Z", 731, 4, some .boolean, 3, 0, 1),
  (10, "forget", "()I", 735, 2, some .int, 0, 0, 1),
  (10, "unseen", "(I)I", 739, 2, some .int, 1, 4, 1),
  (8, "sift", "(LReachLabels$Net;LReachLabels$Reach;)V", 743, 6, none, 2, 3, 1),
  (8, "making", "(LReachLabels$Reach;III)I", 747, 4, some .int, 4, 2, 0),
  (8, "fitting", "()I", 752, 3, some .int, 0, 1, 1),
  (8, "firstFitting", "()I", 757, 2, some .int, 0, 2, 1),
  (10, "next", "()I", 763, 1, some .int, 0, 5, 1),
  (8, "bestQuestion", "(LReachLabels$Reach;)I", 767, 9, some .int, 1, 4, 1),
  (8, "fittingSo", "(LReachLabels$Reach;II)I", 772, 6, some .int, 3, 3, 1),
  (10, "keep", "(I)I", 777, 2, some .int, 1, 3, 1),
  (0, "take", "(ILReachLabels$Net;)V", 781, 3, none, 2, 2, 1),
  (10, "back", "(I)I", 786, 2, some .int, 1, 4, 1),
  (0, "show", "(ILReachLabels$Net;)Z", 790, 3, some .boolean, 2, 2, 1),
  (10, "count", "(I)I", 794, 2, some .int, 1, 0, 1),
  (11, "<init>", "()V", 799, 1, none, 0, 1, 2),
  (11, "begins", "()V", 804, 2, none, 0, 0, 1),
  (11, "ranksRest", "()V", 808, 2, none, 0, 0, 1),
  (11, "settles", "()V", 812, 2, none, 0, 0, 1),
  (11, "type", "(I)I", 901, 2, some .int, 1, 1, 1),
  (11, "in", "(III)Z", 904, 3, some .boolean, 3, 0, 0),
  (11, "clear", "()I", 908, 2, some .int, 0, 0, 1),
  (11, "graph", "()I", 912, 3, some .int, 0, 4, 1),
  (11, "advances", "()V", 916, 2, none, 0, 1, 1),
  (11, "letterAt", "(I)I", 920, 2, some .int, 1, 0, 1),
  (11, "isWell", "()Z", 924, 1, some .boolean, 0, 0, 1),
  (11, "takes", "(Z)I", 928, 3, some .int, 1, 2, 1),
  (11, "readsItem", "(I)V", 932, 4, none, 1, 3, 1),
  (11, "isNumber", "(II)Z", 936, 3, some .boolean, 2, 1, 1),
  (11, "has", "(II)Z", 939, 2, some .boolean, 2, 0, 0),
  (11, "node", "(II)I", 943, 3, some .int, 2, 6, 1),
  (11, "isNode", "(I)Z", 947, 2, some .boolean, 1, 1, 1),
  (11, "comesBy", "([I[I)V", 951, 5, none, 2, 1, 1),
  (11, "nameOf", "(I)I", 955, 2, some .int, 1, 3, 1),
  (11, "ringOf", "(I)I", 959, 2, some .int, 1, 2, 1),
  (11, "comingTo", "(I)I", 963, 4, some .int, 1, 1, 1),
  (11, "lowest", "(I)I", 966, 2, some .int, 1, 1, 0),
  (11, "names", "()I", 970, 3, some .int, 0, 4, 1),
  (11, "inOf", "(II)I", 974, 6, some .int, 2, 5, 1),
  (11, "isLabel", "(IIII)Z", 978, 7, some .boolean, 4, 4, 1),
  (11, "ringRank", "(I)I", 982, 5, some .int, 1, 3, 1),
  (11, "outOf", "(II)I", 986, 6, some .int, 2, 5, 1),
  (11, "edge", "(II)I", 990, 3, some .int, 2, 3, 1),
  (11, "isTwo", "(II)Z", 994, 3, some .boolean, 2, 2, 1),
  (11, "now", "(I)I", 998, 2, some .int, 1, 7, 1),
  (11, "edges", "([I)I", 1002, 4, some .int, 1, 1, 1),
  (11, "ones", "(I)I", 1005, 3, some .int, 1, 0, 0),
  (11, "labels", "()I", 1009, 4, some .int, 0, 6, 1),
  (11, "pairsOf", "([I)I", 1013, 4, some .int, 1, 1, 1),
  (11, "spares", "()I", 1017, 5, some .int, 0, 3, 1),
  (11, "pairsNow", "()I", 1021, 1, some .int, 0, 2, 1),
  (11, "pairsWith", "(II)I", 1025, 3, some .int, 2, 2, 1),
  (11, "asNow", "()V", 1029, 2, none, 0, 0, 1),
  (11, "lone", "()I", 1033, 5, some .int, 0, 5, 1),
  (11, "chain", "()I", 1037, 7, some .int, 0, 5, 1),
  (11, "adds", "(II)I", 1041, 3, some .int, 2, 7, 1),
  (11, "notes", "()V", 1045, 2, none, 0, 0, 1),
  (11, "cuts", "(II)I", 1049, 3, some .int, 2, 7, 1),
  (11, "ranks", "()I", 1053, 4, some .int, 0, 7, 1),
  (11, "weight", "(I)I", 1057, 4, some .int, 1, 1, 1),
  (11, "undo", "()I", 1061, 2, some .int, 0, 0, 1),
  (11, "comes", "(II)I", 1065, 3, some .int, 2, 2, 1),
  (11, "hub", "(II)I", 1069, 7, some .int, 2, 6, 1),
  (11, "way", "(III)I", 1073, 7, some .int, 3, 2, 1),
  (11, "measures", "(I)V", 1077, 5, none, 1, 1, 1),
  (11, "on", "(III)I", 1081, 6, some .int, 3, 2, 1),
  (11, "loss", "(III)I", 1085, 5, some .int, 3, 3, 1),
  (11, "gain", "(II)I", 1089, 3, some .int, 2, 3, 1),
  (11, "best", "(I)I", 1093, 8, some .int, 1, 3, 1),
  (11, "odds", "(IIII)I", 1097, 17, some .int, 4, 2, 1),
  (11, "gcd", "(JJ)J", 1101, 10, some .long, 2, 0, 0),
  (11, "sees", "(III)I", 1105, 4, some .int, 3, 2, 1),
  (11, "forget", "()I", 1109, 2, some .int, 0, 0, 1),
  (11, "unseen", "(I)I", 1113, 3, some .int, 1, 5, 1),
  (11, "unseenMany", "()I", 1117, 5, some .int, 0, 4, 1),
  (11, "canBe", "(II)Z", 1121, 5, some .boolean, 2, 3, 1),
  (11, "next", "()I", 1125, 8, some .int, 0, 5, 1),
  (11, "keep", "(I)I", 1129, 3, some .int, 1, 2, 1),
  (11, "back", "(I)I", 1133, 3, some .int, 1, 2, 1),
  (11, "count", "(I)I", 1137, 2, some .int, 1, 0, 1),
  (12, "law", "([I)Z", 5000, 4, some .boolean, 1, 8, 0)]
def mr_y (q : mr_R) : MethodName := ⟨mr_name q.1, q.2.1, q.2.2.1⟩
def mr_bytes (q : mr_R) : ByteArray := if q.2.2.2.1 = 5000 then code else match lw_tbl[q.2.2.2.1]? with
  | some (.code _ b _ _) => b
  | _ => ⟨#[]⟩
abbrev mr_maxL (q : mr_R) : Nat := q.2.2.2.2.1
abbrev mr_ret (q : mr_R) : Option FieldType := q.2.2.2.2.2.1
abbrev mr_na (q : mr_R) : Nat := q.2.2.2.2.2.2.1
abbrev mr_hg (q : mr_R) : Nat := q.2.2.2.2.2.2.2.1
abbrev mr_kd (q : mr_R) : Nat := q.2.2.2.2.2.2.2.2
/-- the places of a method's words: its code, static or instanceMethod, selects (virtual ones), its class initialized -/
def mr_pM : List (Nat × Nat × Nat × Nat) := [(76, 75, 0, 57), (84, 83, 0, 58), (89, 87, 88, 58), (93, 91, 92, 58), (97, 95, 96, 58), (129, 128, 0, 59), (158, 157, 0, 60), (205, 204, 0, 61), (215, 214, 0, 62), (225, 224, 0, 63), (235, 234, 0, 64), (263, 262, 0, 65), (289, 288, 0, 66), (306, 305, 0, 67), (321, 319, 320, 60), (327, 326, 0, 57), (330, 329, 0, 57), (333, 332, 0, 57), (337, 336, 0, 60), (343, 342, 1, 60), (347, 345, 346, 60), (350, 349, 0, 57), (354, 353, 2, 60), (357, 356, 0, 69), (361, 360, 3, 60), (365, 363, 364, 60), (403, 401, 402, 57), (407, 405, 406, 59), (411, 409, 410, 57), (415, 413, 414, 57), (419, 417, 418, 59), (424, 423, 4, 59), (427, 426, 0, 59), (430, 429, 0, 59), (435, 434, 5, 59), (439, 438, 6, 59), (443, 442, 7, 59), (447, 446, 8, 59), (451, 449, 450, 58), (456, 454, 455, 58), (461, 460, 9, 59), (467, 465, 466, 58), (472, 470, 471, 67), (476, 474, 475, 57), (480, 479, 10, 57), (485, 483, 484, 57), (489, 488, 11, 57), (493, 492, 12, 57), (498, 496, 497, 57), (502, 500, 501, 58), (505, 504, 0, 71), (512, 510, 511, 60), (517, 515, 516, 60), (521, 519, 520, 60), (524, 523, 0, 57), (529, 527, 528, 63), (534, 532, 533, 63), (539, 537, 538, 58), (544, 542, 543, 60), (548, 547, 0, 69), (552, 550, 551, 60), (556, 555, 13, 60), (560, 558, 559, 57), (564, 562, 563, 66), (568, 567, 14, 66), (574, 573, 15, 57), (578, 576, 577, 57), (582, 580, 581, 58), (586, 584, 585, 57), (590, 588, 589, 61), (595, 593, 594, 58), (600, 599, 16, 61), (604, 602, 603, 57), (608, 606, 607, 66), (612, 610, 611, 57), (616, 614, 615, 57), (620, 618, 619, 60), (624, 622, 623, 57), (628, 626, 627, 62), (633, 632, 0, 62), (637, 635, 636, 62), (642, 640, 641, 57), (645, 644, 0, 57), (649, 647, 648, 62), (654, 652, 653, 57), (659, 657, 658, 63), (666, 664, 665, 57), (670, 668, 669, 63), (675, 673, 674, 57), (679, 677, 678, 63), (683, 681, 682, 58), (687, 685, 686, 58), (691, 690, 0, 57), (695, 693, 694, 57), (699, 697, 698, 64), (703, 702, 17, 64), (709, 708, 18, 64), (712, 711, 0, 64), (717, 716, 19, 64), (723, 722, 20, 64), (727, 725, 726, 57), (731, 729, 730, 65), (735, 733, 734, 57), (739, 737, 738, 57), (743, 741, 742, 65), (747, 746, 0, 65), (752, 750, 751, 65), (757, 755, 756, 65), (763, 761, 762, 57), (767, 765, 766, 65), (772, 771, 21, 65), (777, 775, 776, 57), (781, 779, 780, 67), (786, 784, 785, 57), (790, 788, 789, 67), (794, 792, 793, 57), (799, 798, 0, 70), (804, 803, 22, 70), (808, 807, 23, 70), (812, 811, 24, 70), (901, 899, 900, 70), (904, 903, 0, 70), (908, 906, 907, 70), (912, 910, 911, 70), (916, 915, 25, 70), (920, 919, 26, 70), (924, 923, 27, 70), (928, 927, 28, 70), (932, 931, 29, 70), (936, 935, 30, 70), (939, 938, 0, 70), (943, 941, 942, 70), (947, 946, 31, 70), (951, 950, 32, 70), (955, 954, 33, 70), (959, 958, 34, 70), (963, 962, 35, 70), (966, 965, 0, 70), (970, 969, 36, 70), (974, 973, 37, 70), (978, 977, 38, 70), (982, 981, 39, 70), (986, 985, 40, 70), (990, 988, 989, 70), (994, 993, 41, 70), (998, 996, 997, 70), (1002, 1001, 42, 70), (1005, 1004, 0, 70), (1009, 1008, 43, 70), (1013, 1012, 44, 70), (1017, 1016, 45, 70), (1021, 1020, 46, 70), (1025, 1024, 47, 70), (1029, 1028, 48, 70), (1033, 1032, 49, 70), (1037, 1036, 50, 70), (1041, 1039, 1040, 70), (1045, 1044, 51, 70), (1049, 1047, 1048, 70), (1053, 1051, 1052, 70), (1057, 1056, 52, 70), (1061, 1059, 1060, 70), (1065, 1063, 1064, 70), (1069, 1067, 1068, 70), (1073, 1071, 1072, 70), (1077, 1076, 53, 70), (1081, 1079, 1080, 70), (1085, 1083, 1084, 70), (1089, 1087, 1088, 70), (1093, 1091, 1092, 70), (1097, 1095, 1096, 70), (1101, 1100, 0, 70), (1105, 1103, 1104, 70), (1109, 1107, 1108, 70), (1113, 1111, 1112, 70), (1117, 1116, 54, 70), (1121, 1120, 55, 70), (1125, 1123, 1124, 70), (1129, 1127, 1128, 70), (1133, 1131, 1132, 70), (1137, 1135, 1136, 70)]
def mr_okM (q : mr_R) (p : Nat × Nat × Nat × Nat) : Bool :=
  (match lw_tbl[q.2.2.2.1]? with
  | some (.code y _ L r) => decide (y = mr_y q) && decide (L = mr_maxL q) && decide (r = mr_ret q)
  | _ => false) && decide (q.2.2.2.1 ≠ 5000) && decide (lw_tbl[p.2.2.2]? = some (.initialized (mr_y q).cls)) &&
  (if mr_kd q = 0 then decide (lw_tbl[p.2.1]? = some (.static (mr_y q))) else decide (lw_tbl[p.2.1]? = some (.instanceMethod (mr_y q)))) &&
  (if mr_kd q = 1 then decide (lw_tbl[p.2.2.1]? = some (.selects (mr_y q).cls (mr_y q) (mr_y q))) else true) &&
  (if mr_kd q = 2 then decide ((mr_y q).name = "<init>") && decide (mr_ret q = none) else true) &&
  decide ((mr_y q).cls ≠ "java/lang/invoke/MethodHandle") && decide ((mr_y q).cls ≠ "java/lang/invoke/VarHandle") && decide ((parseMethodDescriptor (mr_y q).desc).map (fun d => d.parameters.length) = some (mr_na q)) &&
  (Jvm.plainName (mr_y q).cls || decide (q.1 = 14)) && decide (mr_maxL q ≤ 17) && decide (mr_kd q ≤ 2)
/-- links of methods: number of the class and the entry; the method (1000: System.arraycopy, 1001: Object.<init>, 1002: Math.max, 1003: Math.min), 1 if it is a nest mate's, the place of the word -/
def mr_mL : List ((Nat × Nat) × Nat × Nat × Nat) := [((0, 3), 1001, 0, 307), ((0, 21), 1, 0, 309), ((0, 22), 41, 0, 782), ((1, 3), 1001, 0, 236), ((1, 41), 95, 0, 700), ((1, 45), 96, 0, 706), ((1, 49), 16, 1, 713), ((1, 53), 98, 0, 714), ((1, 57), 50, 0, 718), ((1, 64), 97, 0, 710), ((1, 68), 99, 0, 720), ((1, 76), 17, 1, 704), ((1, 80), 38, 0, 705), ((10, 1), 1001, 0, 77), ((10, 9), 1, 0, 82), ((10, 21), 5, 1, 127), ((10, 28), 6, 1, 156), ((10, 35), 7, 1, 203), ((10, 42), 8, 1, 213), ((10, 49), 9, 1, 223), ((10, 56), 10, 1, 233), ((10, 63), 11, 1, 261), ((10, 70), 12, 0, 287), ((10, 77), 13, 0, 304), ((10, 82), 14, 0, 318), ((10, 86), 27, 0, 404), ((10, 94), 30, 0, 416), ((10, 98), 41, 0, 464), ((10, 105), 42, 0, 469), ((10, 108), 44, 0, 477), ((10, 115), 20, 0, 481), ((10, 134), 46, 0, 486), ((10, 138), 38, 0, 494), ((10, 141), 49, 0, 499), ((10, 145), 51, 0, 509), ((10, 148), 52, 0, 514), ((10, 151), 53, 0, 518), ((10, 154), 55, 0, 526), ((10, 157), 58, 0, 541), ((10, 160), 60, 0, 549), ((10, 163), 63, 0, 561), ((10, 166), 39, 0, 570), ((10, 170), 65, 0, 571), ((10, 173), 67, 0, 579), ((10, 176), 69, 0, 587), ((10, 178), 73, 0, 605), ((10, 182), 47, 0, 490), ((10, 185), 76, 0, 617), ((10, 188), 78, 0, 625), ((10, 192), 80, 0, 634), ((10, 196), 82, 0, 643), ((10, 199), 83, 0, 646), ((10, 202), 56, 0, 655), ((10, 206), 85, 0, 656), ((10, 209), 87, 0, 667), ((10, 213), 89, 0, 676), ((10, 217), 94, 0, 696), ((10, 228), 101, 0, 728), ((10, 231), 104, 0, 740), ((10, 235), 106, 0, 749), ((10, 238), 107, 0, 754), ((10, 241), 109, 0, 764), ((10, 245), 112, 0, 778), ((10, 249), 114, 0, 787), ((10, 256), 17, 0, 331), ((10, 259), 16, 0, 328), ((10, 262), 50, 0, 525), ((11, 1), 1001, 0, 800), ((11, 56), 117, 0, 801), ((11, 59), 118, 0, 805), ((11, 62), 119, 0, 809), ((11, 69), 121, 0, 902), ((11, 79), 125, 0, 917), ((11, 95), 126, 0, 921), ((11, 99), 124, 0, 913), ((11, 108), 129, 0, 933), ((11, 112), 127, 0, 925), ((11, 116), 130, 0, 937), ((11, 119), 128, 0, 929), ((11, 132), 132, 0, 944), ((11, 136), 147, 0, 1003), ((11, 139), 136, 0, 960), ((11, 142), 135, 0, 956), ((11, 145), 137, 0, 964), ((11, 148), 134, 0, 952), ((11, 151), 141, 0, 979), ((11, 154), 140, 0, 975), ((11, 158), 133, 0, 948), ((11, 162), 138, 0, 967), ((11, 166), 139, 0, 971), ((11, 170), 142, 0, 983), ((11, 173), 144, 0, 991), ((11, 176), 153, 0, 1026), ((11, 179), 149, 0, 1010), ((11, 183), 151, 0, 1018), ((11, 186), 152, 0, 1022), ((11, 189), 146, 0, 999), ((11, 192), 148, 0, 1006), ((11, 195), 150, 0, 1014), ((11, 198), 154, 0, 1030), ((11, 201), 155, 0, 1034), ((11, 204), 157, 0, 1042), ((11, 207), 160, 0, 1054), ((11, 210), 165, 0, 1074), ((11, 215), 171, 0, 1099), ((11, 222), 176, 0, 1118), ((11, 225), 175, 0, 1114), ((12, 9), 0, 0, 74), ((12, 12), 116, 0, 797), ((12, 13), 26, 0, 400), ((12, 17), 120, 0, 898), ((12, 18), 28, 0, 408), ((12, 22), 122, 0, 905), ((12, 23), 29, 0, 412), ((12, 26), 123, 0, 909), ((12, 27), 43, 0, 473), ((12, 31), 131, 0, 940), ((12, 32), 45, 0, 482), ((12, 35), 143, 0, 987), ((12, 36), 48, 0, 495), ((12, 39), 145, 0, 995), ((12, 40), 62, 0, 557), ((12, 43), 156, 0, 1038), ((12, 44), 66, 0, 575), ((12, 47), 158, 0, 1046), ((12, 48), 68, 0, 583), ((12, 51), 159, 0, 1050), ((12, 52), 72, 0, 601), ((12, 55), 161, 0, 1058), ((12, 56), 74, 0, 609), ((12, 59), 162, 0, 1062), ((12, 60), 75, 0, 613), ((12, 63), 163, 0, 1066), ((12, 64), 77, 0, 621), ((12, 68), 164, 0, 1070), ((12, 69), 81, 0, 639), ((12, 72), 166, 0, 1078), ((12, 73), 84, 0, 651), ((12, 76), 167, 0, 1082), ((12, 77), 86, 0, 663), ((12, 80), 168, 0, 1086), ((12, 81), 88, 0, 672), ((12, 84), 169, 0, 1090), ((12, 85), 93, 0, 692), ((12, 89), 170, 0, 1094), ((12, 90), 100, 0, 724), ((12, 93), 172, 0, 1102), ((12, 94), 102, 0, 732), ((12, 97), 173, 0, 1106), ((12, 98), 103, 0, 736), ((12, 101), 174, 0, 1110), ((12, 102), 108, 0, 760), ((12, 105), 177, 0, 1122), ((12, 106), 111, 0, 774), ((12, 109), 178, 0, 1126), ((12, 110), 113, 0, 783), ((12, 113), 179, 0, 1130), ((12, 114), 115, 0, 791), ((12, 117), 180, 0, 1134), ((2, 3), 1001, 0, 226), ((2, 20), 16, 1, 535), ((2, 24), 57, 0, 536), ((2, 28), 17, 1, 540), ((2, 36), 38, 0, 530), ((2, 39), 56, 0, 531), ((2, 43), 1000, 0, 660), ((2, 49), 15, 1, 661), ((2, 53), 54, 1, 662), ((2, 65), 50, 0, 671), ((2, 70), 90, 0, 680), ((2, 73), 87, 0, 688), ((2, 77), 92, 1, 689), ((3, 3), 1001, 0, 85), ((3, 18), 2, 0, 86), ((3, 21), 3, 0, 90), ((3, 29), 1000, 0, 468), ((3, 35), 16, 1, 457), ((3, 39), 17, 1, 452), ((3, 43), 50, 0, 503), ((3, 48), 91, 0, 684), ((3, 52), 4, 0, 94), ((3, 56), 38, 0, 596), ((4, 3), 1001, 0, 290), ((4, 21), 1, 0, 293), ((4, 22), 64, 0, 565), ((4, 25), 41, 0, 569), ((5, 3), 1001, 0, 206), ((5, 24), 50, 0, 591), ((5, 30), 70, 0, 592), ((5, 36), 71, 0, 597), ((6, 3), 1001, 0, 159), ((6, 49), 1000, 0, 322), ((6, 55), 15, 1, 325), ((6, 59), 18, 0, 334), ((6, 62), 19, 0, 340), ((6, 68), 22, 0, 351), ((6, 72), 24, 0, 358), ((6, 75), 17, 1, 338), ((6, 79), 50, 0, 513), ((6, 85), 54, 1, 522), ((6, 89), 51, 0, 545), ((6, 93), 20, 0, 344), ((6, 96), 1002, 0, 546), ((6, 102), 61, 0, 553), ((6, 105), 16, 1, 339), ((6, 108), 21, 1, 348), ((6, 111), 1003, 0, 355), ((6, 114), 25, 0, 362), ((7, 3), 1001, 0, 130), ((7, 34), 2, 0, 420), ((7, 39), 31, 0, 421), ((7, 42), 34, 0, 432), ((7, 46), 3, 0, 463), ((7, 50), 35, 0, 436), ((7, 54), 37, 0, 444), ((7, 57), 40, 0, 458), ((7, 60), 36, 0, 440), ((7, 67), 38, 0, 448), ((7, 70), 39, 0, 453), ((7, 74), 4, 0, 462), ((7, 81), 32, 0, 425), ((7, 84), 33, 0, 428), ((7, 87), 1003, 0, 431), ((8, 3), 1001, 0, 264), ((8, 34), 90, 0, 744), ((8, 38), 105, 0, 745), ((8, 42), 50, 0, 753), ((8, 47), 21, 1, 758), ((8, 50), 92, 1, 759), ((8, 54), 106, 0, 768), ((8, 58), 110, 0, 769), ((8, 62), 1002, 0, 773), ((8, 67), 25, 0, 748), ((9, 3), 1001, 0, 216), ((9, 15), 16, 1, 629), ((9, 25), 17, 1, 630), ((9, 29), 79, 0, 631), ((9, 36), 21, 1, 638), ((9, 39), 57, 0, 650)]
def mr_yOf (t : Nat) : MethodName := if t = 1000 then arraycopyName else if t = 1001 then Lib.objectInit else if t = 1002 then Lib.Math.max.name else if t = 1003 then Lib.Math.min.name else match mr_M[t]? with
  | some q => mr_y q
  | none => ⟨"", "", ""⟩
def mr_okL (e : (Nat × Nat) × Nat × Nat × Nat) : Bool :=
  if e.2.2.1 = 0 then decide (lw_tbl[e.2.2.2]? = some (.methodLink (mr_name e.1.1) e.1.2 (mr_yOf e.2.1))) else decide (lw_tbl[e.2.2.2]? = some (.methodLinkNest (mr_name e.1.1) e.1.2 (mr_yOf e.2.1) "ReachLabels"))
/-- links of fields: number of the class and the entry; class, slot, the place of the word -/
def mr_fL : List ((Nat × Nat) × Nat × Nat × Nat) := [((0, 11), 0, 0, 310), ((0, 17), 0, 1, 311), ((1, 9), 1, 0, 237), ((1, 15), 1, 1, 239), ((1, 18), 1, 2, 241), ((1, 22), 1, 3, 242), ((1, 25), 1, 4, 243), ((1, 29), 1, 5, 244), ((1, 33), 6, 0, 161), ((1, 38), 6, 1, 165), ((1, 71), 3, 0, 104), ((2, 9), 2, 0, 227), ((2, 15), 3, 1, 108), ((2, 32), 3, 0, 103), ((2, 57), 6, 1, 166), ((2, 62), 6, 0, 162), ((3, 9), 3, 1, 107), ((3, 15), 3, 2, 112), ((3, 25), 3, 0, 98), ((4, 9), 4, 0, 294), ((4, 17), 4, 1, 296), ((5, 9), 5, 0, 207), ((5, 15), 3, 0, 100), ((5, 21), 3, 1, 110), ((5, 33), 3, 2, 114), ((6, 9), 6, 0, 160), ((6, 15), 6, 1, 164), ((6, 18), 6, 2, 169), ((6, 21), 6, 3, 171), ((6, 24), 6, 4, 173), ((6, 27), 6, 5, 175), ((6, 30), 6, 6, 176), ((6, 33), 6, 7, 177), ((6, 36), 6, 8, 178), ((6, 40), 6, 9, 179), ((6, 43), 3, 0, 99), ((6, 46), 3, 1, 109), ((6, 65), 3, 2, 113), ((7, 9), 7, 0, 131), ((7, 15), 7, 1, 133), ((7, 19), 7, 2, 134), ((7, 22), 7, 3, 135), ((7, 25), 7, 4, 136), ((7, 28), 7, 5, 137), ((7, 31), 7, 6, 138), ((7, 64), 3, 0, 105), ((7, 78), 3, 2, 116), ((8, 9), 8, 0, 265), ((8, 15), 8, 1, 267), ((8, 19), 8, 2, 268), ((8, 22), 8, 3, 269), ((8, 25), 8, 4, 270), ((8, 28), 8, 5, 271), ((8, 31), 3, 0, 102), ((8, 73), 6, 1, 168), ((9, 9), 9, 0, 217), ((9, 19), 3, 0, 101), ((9, 33), 3, 1, 111), ((10, 10), 10, 0, 366), ((10, 16), 10, 1, 367), ((10, 22), 10, 2, 368), ((10, 29), 10, 3, 369), ((10, 36), 10, 4, 370), ((10, 43), 10, 5, 371), ((10, 50), 10, 6, 372), ((10, 57), 10, 7, 373), ((10, 64), 10, 8, 374), ((10, 71), 10, 9, 375), ((10, 78), 10, 10, 376), ((10, 90), 7, 0, 132), ((10, 101), 8, 0, 266), ((10, 104), 4, 0, 295), ((10, 111), 6, 2, 170), ((10, 119), 3, 2, 115), ((10, 122), 6, 3, 172), ((10, 125), 6, 4, 174), ((10, 128), 6, 0, 163), ((10, 131), 6, 1, 167), ((10, 221), 1, 0, 238), ((10, 225), 1, 1, 240), ((10, 253), 3, 0, 106), ((11, 7), 11, 1, 814), ((11, 13), 11, 10, 823), ((11, 16), 11, 12, 825), ((11, 19), 11, 13, 826), ((11, 22), 11, 14, 827), ((11, 25), 11, 15, 828), ((11, 29), 11, 16, 829), ((11, 32), 11, 18, 831), ((11, 35), 11, 19, 832), ((11, 38), 11, 20, 833), ((11, 41), 11, 22, 835), ((11, 44), 11, 23, 836), ((11, 47), 11, 24, 837), ((11, 50), 11, 25, 838), ((11, 53), 11, 26, 839), ((11, 65), 11, 0, 813), ((11, 73), 11, 2, 815), ((11, 76), 11, 3, 816), ((11, 83), 11, 5, 818), ((11, 86), 11, 4, 817), ((11, 89), 11, 6, 819), ((11, 92), 11, 7, 820), ((11, 102), 11, 9, 822), ((11, 105), 11, 11, 824), ((11, 123), 11, 8, 821), ((11, 126), 11, 21, 834), ((11, 129), 11, 17, 830), ((11, 219), 11, 27, 840)]
def mr_okF (e : (Nat × Nat) × Nat × Nat × Nat) : Bool := decide (lw_tbl[e.2.2.2]? = some (.fieldLink (mr_name e.1.1) e.1.2 (mr_name e.2.1) (mr_T e.2.1 e.2.2.1).2.1 (mr_T e.2.1 e.2.2.1).2.2.1)) && decide (e.2.2.1 < mr_N e.2.1) && decide (e.2.1 < 12)
/-- links of classes: number of the class and the entry; class, places of classLink, instantiable, initialized -/
def mr_cL : List ((Nat × Nat) × Nat × Nat × Nat × Nat) := [((0, 9), 3, 308, 81, 58), ((4, 15), 3, 291, 81, 58), ((10, 7), 3, 80, 81, 58), ((10, 19), 7, 125, 126, 59), ((10, 26), 6, 154, 155, 60), ((10, 33), 5, 201, 202, 61), ((10, 40), 9, 211, 212, 62), ((10, 47), 2, 221, 222, 63), ((10, 54), 1, 231, 232, 64), ((10, 61), 8, 259, 260, 65), ((10, 68), 4, 285, 286, 66), ((10, 75), 0, 302, 303, 67), ((12, 7), 10, 72, 73, 57), ((12, 10), 11, 795, 796, 70)]
def mr_okC (e : (Nat × Nat) × Nat × Nat × Nat × Nat) : Bool := decide (lw_tbl[e.2.2.1]? = some (.classLink (mr_name e.1.1) e.1.2 (mr_name e.2.1))) && decide (lw_tbl[e.2.2.2.1]? = some (.instantiable (mr_name e.2.1) (mr_N e.2.1))) && decide (lw_tbl[e.2.2.2.2]? = some (.initialized (mr_name e.2.1))) && decide (e.2.1 < 12)
def mr_kI : List ((Nat × Nat) × Int32 × Nat) := [((13, 265), 1431655765, 506), ((13, 266), 858993459, 507), ((13, 267), 252645135, 508)]
def mr_kJ : List ((Nat × Nat) × Int64 × Nat) := [((1, 62), 10, 719), ((11, 213), 10, 1098)]
/-- the layout of the fields, by the places of its words -/
def mr_lp : List (List Nat) := [[312, 314], [245, 247, 249, 251, 253, 255], [228], [117, 119, 121], [297, 299], [208], [180, 182, 184, 186, 188, 190, 192, 194, 196, 198], [139, 141, 143, 145, 147, 149, 151], [272, 274, 276, 278, 280, 282], [218], [377, 379, 381, 383, 385, 387, 389, 391, 393, 395, 397], [841, 843, 845, 847, 849, 851, 853, 855, 857, 859, 861, 863, 865, 867, 869, 871, 873, 875, 877, 879, 881, 883, 885, 887, 889, 891, 893, 895]]
def mr_okY (n : Nat) : Bool := decide ((mr_lp.getD n []).map (fun i => lw_tbl[i]?) = (u_ws (mr_name n) (mr_T n) (mr_N n)).map some) &&
  decide (∀ k, k < mr_N n → parseFieldDescriptor (mr_T n k).2.2.1 = some (mr_ty n k)) && decide (∀ a, a < mr_N n → ∀ b, b < mr_N n → a ≠ b → (mr_T n a).2.1 ≠ (mr_T n b).2.1) && decide (∀ k, k < mr_N n → (mr_T n k).1 = mr_name n)
set_option maxRecDepth 100000 in
theorem mr_okM_all : ((mr_M.take 181).zip mr_pM).all (fun e => mr_okM e.1 e.2) = true := by decide +kernel
theorem mr_pM_len : mr_pM.length = 181 := by decide +kernel
theorem mr_M_len : mr_M.length = 182 := by decide +kernel
set_option maxRecDepth 100000 in
theorem mr_okL_all : mr_mL.all mr_okL = true := by decide +kernel
set_option maxRecDepth 100000 in
theorem mr_okF_all : mr_fL.all mr_okF = true := by decide +kernel
set_option maxRecDepth 100000 in
theorem mr_okC_all : mr_cL.all mr_okC = true := by decide +kernel
set_option maxRecDepth 100000 in
theorem mr_okY_all : (List.range 12).all mr_okY = true := by decide +kernel
set_option maxRecDepth 100000 in
theorem mr_kI_all : mr_kI.all (fun e => decide (lw_tbl[e.2.2]? = some (.constant (mr_name e.1.1) e.1.2 e.2.1))) = true := by decide +kernel
set_option maxRecDepth 100000 in
theorem mr_kJ_all : mr_kJ.all (fun e => decide (lw_tbl[e.2.2]? = some (.constantLong (mr_name e.1.1) e.1.2 e.2.1))) = true := by decide +kernel
set_option maxRecDepth 100000 in
theorem mr_w_aI : (.arrayClass .int : Jvm.Cond) ∈ lw_tbl := List.mem_of_getElem? (i := 124) (by decide +kernel)
set_option maxRecDepth 100000 in
theorem mr_w_aJ : (.arrayClass .long : Jvm.Cond) ∈ lw_tbl := List.mem_of_getElem? (i := 258) (by decide +kernel)
set_option maxRecDepth 100000 in
theorem mr_w_aZ : (.arrayClass .boolean : Jvm.Cond) ∈ lw_tbl := List.mem_of_getElem? (i := 317) (by decide +kernel)
set_option maxRecDepth 100000 in
theorem mr_w_aO : (.arrayOver (.object "ReachLabels$Net") : Jvm.Cond) ∈ lw_tbl := List.mem_of_getElem? (i := 292) (by decide +kernel)
set_option maxRecDepth 100000 in
theorem mr_w_nat : (.native arraycopyName : Jvm.Cond) ∈ lw_tbl := List.mem_of_getElem? (i := 324) (by decide +kernel)
set_option maxRecDepth 100000 in
theorem mr_w_sac : (.static arraycopyName : Jvm.Cond) ∈ lw_tbl := List.mem_of_getElem? (i := 323) (by decide +kernel)
set_option maxRecDepth 100000 in
theorem mr_w_obj : (.code Lib.objectInit ⟨#[0xb1]⟩ 1 none : Jvm.Cond) ∈ lw_tbl := List.mem_of_getElem? (i := 79) (by decide +kernel)
set_option maxRecDepth 100000 in
theorem mr_w_oin : (.instanceMethod Lib.objectInit : Jvm.Cond) ∈ lw_tbl := List.mem_of_getElem? (i := 78) (by decide +kernel)
set_option maxRecDepth 100000 in
theorem mr_w_sys : (.initialized "java/lang/System" : Jvm.Cond) ∈ lw_tbl := List.mem_of_getElem? (i := 68) (by decide +kernel)
set_option maxRecDepth 100000 in
theorem mr_w_max : (.code Lib.Math.max.name Lib.Math.max.code 2 (some .int) : Jvm.Cond) ∈ lw_tbl := List.mem_of_getElem? (i := 548) (by decide +kernel)
set_option maxRecDepth 100000 in
theorem mr_w_min : (.code Lib.Math.min.name Lib.Math.min.code 2 (some .int) : Jvm.Cond) ∈ lw_tbl := List.mem_of_getElem? (i := 357) (by decide +kernel)
set_option maxRecDepth 100000 in
theorem mr_w_smax : (.static Lib.Math.max.name : Jvm.Cond) ∈ lw_tbl := List.mem_of_getElem? (i := 547) (by decide +kernel)
set_option maxRecDepth 100000 in
theorem mr_w_smin : (.static Lib.Math.min.name : Jvm.Cond) ∈ lw_tbl := List.mem_of_getElem? (i := 356) (by decide +kernel)
set_option maxRecDepth 100000 in
theorem mr_w_math : (.initialized "java/lang/Math" : Jvm.Cond) ∈ lw_tbl := List.mem_of_getElem? (i := 69) (by decide +kernel)
end
section
/-! THE MIRROR MACHINE. A pure picture of the bytecode: cells have small numbers, the first made is 0. A cell: an object (class, fields), or an array of ints, longs, booleans, Nets. -/
abbrev mr_c : Type := (Nat × List Value) ⊕ (Nat × (Nat → Int32)) ⊕ (Nat × (Nat → Int64)) ⊕ (Nat × (Nat → Int32)) ⊕ (Nat × (Nat → Option Nat))
/-- cells, how many are made, how many slots they have, the script's length, the script -/
abbrev mr_h : Type := (Nat → mr_c) × Nat × Nat × Nat × (Nat → Int32)
def mr_O (c : Nat) (fs : List Value) : mr_c := .inl (c, fs)
def mr_I (n : Nat) (f : Nat → Int32) : mr_c := .inr (.inl (n, f))
def mr_J (n : Nat) (f : Nat → Int64) : mr_c := .inr (.inr (.inl (n, f)))
def mr_Z (n : Nat) (f : Nat → Int32) : mr_c := .inr (.inr (.inr (.inl (n, f))))
def mr_A (n : Nat) (f : Nat → Option Nat) : mr_c := .inr (.inr (.inr (.inr (n, f))))
def mr_up (h : mr_h) (a : Nat) (c : mr_c) : mr_h := (va_up h.1 a c, h.2)
def mr_add (h : mr_h) (n : Nat) (c : mr_c) : mr_h := (va_up h.1 h.2.1 c, h.2.1 + 1, h.2.2.1 + n, h.2.2.2)
def mr_ft (M pc : Nat) : Option (Instr × Nat) := match mr_M[M]? with
  | none => none
  | some q => match decode (mr_bytes q) pc with
    | .ok r => some r
    | .error _ => none
def mr_own (M : Nat) : Nat := match mr_M[M]? with
  | some q => q.1
  | none => 99
def mr_isI (M : Nat) : Bool := match mr_M[M]? with
  | some q => mr_kd q == 2
  | none => false
def mr_gl (M x : Nat) : Option (Nat × Nat) := (mr_fL.find? (fun e => e.1.1 == mr_own M && e.1.2 == x)).map (fun e => (e.2.1, e.2.2.1))
def mr_nl (M x : Nat) : Option Nat := (mr_cL.find? (fun e => e.1.1 == mr_own M && e.1.2 == x)).map (fun e => e.2.1)
def mr_ik (M x : Nat) : Option Int32 := (mr_kI.find? (fun e => e.1.1 == mr_own M && e.1.2 == x)).map (fun e => e.2.1)
def mr_jk (M x : Nat) : Option Int64 := (mr_kJ.find? (fun e => e.1.1 == mr_own M && e.1.2 == x)).map (fun e => e.2.1)
def mr_hgt (M : Nat) : Nat := match mr_M[M]? with
  | some q => mr_hg q
  | none => 0
def mr_tl (M x : Nat) : Option Nat := if 1 ≤ mr_hgt M then (mr_mL.find? (fun e => e.1.1 == mr_own M && e.1.2 == x)).map (fun e => e.2.1) else none
/-- the called method and how many parameters it has; it is lower than the caller -/
def mr_lk (M x kd : Nat) : Option (Nat × Nat) := match mr_tl M x, mr_M[M]? with
  | some t, some q => match mr_M[t]? with
    | some r => if mr_hg r < mr_hg q ∧ mr_kd r = kd ∧ t < 181 ∧ r.1 ≠ 14 then some (t, mr_na r) else none
    | none => none
  | _, _ => none
def mr_isL : Option Value → Bool
  | some (.long _) => true
  | some (.double _) => true
  | _ => false
def mr_set1 (lv : List Value) (i : Nat) (v : Value) : Option (List Value) := if i < lv.length ∧ (i = 0 ∨ mr_isL lv[i - 1]? = false) then some (lv.set i v) else none
def mr_set2 (lv : List Value) (i : Nat) (v : Value) : Option (List Value) := if i + 1 < lv.length ∧ (i = 0 ∨ mr_isL lv[i - 1]? = false) then some ((lv.set i v).set (i + 1) .null) else none
def mr_sl : List Value → List Value
  | [] => []
  | v :: vs => if v.category = 2 then v :: .null :: mr_sl vs else v :: mr_sl vs
def mr_ent (as : List Value) (n : Nat) : List Value := mr_sl as ++ List.replicate (n - (mr_sl as).length) .null
abbrev mr_n : Type := Nat × List Value × List Value × mr_h
def mr_b2 (len pc : Nat) (lv st : List Value) (h : mr_h) (f : Int32 → Int32 → Int32) : Option mr_n := if len = 1 then match st with
  | .int y :: .int x :: r => some (pc + 1, lv, .int (f x y) :: r, h)
  | _ => none else none
def mr_l2 (len pc : Nat) (lv st : List Value) (h : mr_h) (f : Int64 → Int64 → Int64) : Option mr_n := if len = 1 then match st with
  | .long y :: .long x :: r => some (pc + 1, lv, .long (f x y) :: r, h)
  | _ => none else none
def mr_jmp (pc : Nat) (off : Int) (lv st : List Value) (h : mr_h) : Option mr_n := if 0 ≤ (pc : Int) + off then some (((pc : Int) + off).toNat, lv, st, h) else none
def mr_ldi (len l pc k : Nat) (lv st : List Value) (h : mr_h) : Option mr_n := if len = l then match lv[k]? with
  | some (.int x) => some (pc + l, lv, .int x :: st, h)
  | _ => none else none
def mr_ldl (len l pc k : Nat) (lv st : List Value) (h : mr_h) : Option mr_n := if len = l then match lv[k]? with
  | some (.long x) => some (pc + l, lv, .long x :: st, h)
  | _ => none else none
def mr_lda (len l pc k : Nat) (lv st : List Value) (h : mr_h) : Option mr_n := if len = l then match lv[k]? with
  | some (.ref x) => some (pc + l, lv, .ref x :: st, h)
  | some (.retAddr 0) => some (pc + l, lv, .retAddr 0 :: st, h)
  | _ => none else none
def mr_sti (len l pc k : Nat) (lv st : List Value) (h : mr_h) : Option mr_n := if len = l then match st with
  | .int x :: r => (mr_set1 lv k (.int x)).map (fun lv' => (pc + l, lv', r, h))
  | _ => none else none
def mr_stl (len l pc k : Nat) (lv st : List Value) (h : mr_h) : Option mr_n := if len = l then match st with
  | .long x :: r => (mr_set2 lv k (.long x)).map (fun lv' => (pc + l, lv', r, h))
  | _ => none else none
def mr_sta (len l pc k : Nat) (lv st : List Value) (h : mr_h) : Option mr_n := if len = l then match st with
  | .ref x :: r => (mr_set1 lv k (.ref x)).map (fun lv' => (pc + l, lv', r, h))
  | _ => none else none
def mr_cmp (c : ClassFile.Cond) (x y : Int32) : Prop := match c with
  | .eq => x = y
  | .ne => ¬ x = y
  | .lt => x < y
  | .ge => y ≤ x
  | .gt => y < x
  | .le => x ≤ y
def mr_cmpD (c : ClassFile.Cond) (x y : Int32) : Decidable (mr_cmp c x y) := match c with
  | .eq => inferInstanceAs (Decidable (x = y))
  | .ne => inferInstanceAs (Decidable (¬ x = y))
  | .lt => inferInstanceAs (Decidable (x < y))
  | .ge => inferInstanceAs (Decidable (y ≤ x))
  | .gt => inferInstanceAs (Decidable (y < x))
  | .le => inferInstanceAs (Decidable (x ≤ y))
def mr_ite (c : ClassFile.Cond) (x y : Int32) (a b : Option mr_n) : Option mr_n := match mr_cmpD c x y with
  | .isTrue _ => a
  | .isFalse _ => b
def mr_fit (t : FieldType) (v : Value) : Bool := match t, v with
  | .int, .int _ => true
  | .long, .long _ => true
  | .array _, .ref _ => true
  | .object _, .ref _ => true
  | _, _ => false
def mr_get (M x pc : Nat) (lv st : List Value) (h : mr_h) : Option mr_n := match st with
  | .ref a :: r => match h.1 a, mr_gl M x with
    | .inl (c, fs), some (ci, k) => if c = ci then (fs[k]?).map (fun v => (pc + 3, lv, v :: r, h)) else none
    | _, _ => none
  | _ => none
def mr_put (M x pc : Nat) (lv st : List Value) (h : mr_h) : Option mr_n := match st with
  | v :: .ref a :: r => match h.1 a, mr_gl M x with
    | .inl (c, fs), some (ci, k) => if c = ci ∧ k < fs.length ∧ mr_fit (mr_ty ci k) v = true ∧ ((mr_T ci k).2.2.2 = false ∨ (mr_own M = ci ∧ mr_isI M = true)) then some (pc + 3, lv, r, mr_up h a (.inl (c, fs.set k v))) else none
    | _, _ => none
  | _ => none
def mr_ald (pc : Nat) (lv st : List Value) (h : mr_h) : Option mr_n := match st with
  | .int i :: .ref a :: r => match h.1 a with
    | .inr (.inl (n, f)) => if i < 0 ∨ n ≤ i.toNatClampNeg then none else some (pc + 1, lv, .int (f i.toNatClampNeg) :: r, h)
    | _ => none
  | .int i :: .retAddr 0 :: r => if i < 0 ∨ h.2.2.2.1 ≤ i.toNatClampNeg then none else some (pc + 1, lv, .int (h.2.2.2.2 i.toNatClampNeg) :: r, h)
  | _ => none
def mr_ast (pc : Nat) (lv st : List Value) (h : mr_h) : Option mr_n := match st with
  | .int x :: .int i :: .ref a :: r => match h.1 a with
    | .inr (.inl (n, f)) => if i < 0 ∨ n ≤ i.toNatClampNeg then none else some (pc + 1, lv, r, mr_up h a (.inr (.inl (n, upd f i.toNatClampNeg x))))
    | _ => none
  | _ => none
def mr_lld (pc : Nat) (lv st : List Value) (h : mr_h) : Option mr_n := match st with
  | .int i :: .ref a :: r => match h.1 a with
    | .inr (.inr (.inl (n, f))) => if i < 0 ∨ n ≤ i.toNatClampNeg then none else some (pc + 1, lv, .long (f i.toNatClampNeg) :: r, h)
    | _ => none
  | _ => none
def mr_lst (pc : Nat) (lv st : List Value) (h : mr_h) : Option mr_n := match st with
  | .long x :: .int i :: .ref a :: r => match h.1 a with
    | .inr (.inr (.inl (n, f))) => if i < 0 ∨ n ≤ i.toNatClampNeg then none else some (pc + 1, lv, r, mr_up h a (.inr (.inr (.inl (n, vp_updL f i.toNatClampNeg x)))))
    | _ => none
  | _ => none
def mr_zld (pc : Nat) (lv st : List Value) (h : mr_h) : Option mr_n := match st with
  | .int i :: .ref a :: r => match h.1 a with
    | .inr (.inr (.inr (.inl (n, f)))) => if i < 0 ∨ n ≤ i.toNatClampNeg then none else some (pc + 1, lv, .int (f i.toNatClampNeg) :: r, h)
    | _ => none
  | _ => none
def mr_zst (pc : Nat) (lv st : List Value) (h : mr_h) : Option mr_n := match st with
  | .int x :: .int i :: .ref a :: r => match h.1 a with
    | .inr (.inr (.inr (.inl (n, f)))) => if i < 0 ∨ n ≤ i.toNatClampNeg then none else some (pc + 1, lv, r, mr_up h a (.inr (.inr (.inr (.inl (n, upd f i.toNatClampNeg (x &&& 1)))))))
    | _ => none
  | _ => none
def mr_qld (pc : Nat) (lv st : List Value) (h : mr_h) : Option mr_n := match st with
  | .int i :: .ref a :: r => match h.1 a with
    | .inr (.inr (.inr (.inr (n, f)))) => if i < 0 ∨ n ≤ i.toNatClampNeg then none else (f i.toNatClampNeg).map (fun k => (pc + 1, lv, .ref k :: r, h))
    | _ => none
  | _ => none
def mr_qst (pc : Nat) (lv st : List Value) (h : mr_h) : Option mr_n := match st with
  | .ref v :: .int i :: .ref a :: r => match h.1 a, h.1 v with
    | .inr (.inr (.inr (.inr (n, f)))), .inl (3, _) => if i < 0 ∨ n ≤ i.toNatClampNeg then none else some (pc + 1, lv, r, mr_up h a (.inr (.inr (.inr (.inr (n, va_up f i.toNatClampNeg (some v)))))))
    | _, _ => none
  | _ => none
def mr_dfs (ci : Nat) : List Value := (List.range (mr_N ci)).map (fun k => defaultValue (mr_ty ci k))
def mr_new (M x pc : Nat) (lv st : List Value) (h : mr_h) : Option mr_n := (mr_nl M x).map (fun ci => (pc + 3, lv, .ref h.2.1 :: st, mr_add h (mr_N ci) (.inl (ci, mr_dfs ci))))
def mr_nar (t : ArrayType) (pc : Nat) (lv st : List Value) (h : mr_h) : Option mr_n := match st with
  | .int n :: r => if n < 0 ∨ 10000 < n.toNatClampNeg then none else match t with
    | .int => some (pc + 2, lv, .ref h.2.1 :: r, mr_add h n.toNatClampNeg (.inr (.inl (n.toNatClampNeg, fun _ => 0))))
    | .long => some (pc + 2, lv, .ref h.2.1 :: r, mr_add h n.toNatClampNeg (.inr (.inr (.inl (n.toNatClampNeg, fun _ => 0)))))
    | .boolean => some (pc + 2, lv, .ref h.2.1 :: r, mr_add h n.toNatClampNeg (.inr (.inr (.inr (.inl (n.toNatClampNeg, fun _ => 0))))))
    | _ => none
  | _ => none
def mr_naq (M x pc : Nat) (lv st : List Value) (h : mr_h) : Option mr_n := match st with
  | .int n :: r => if n < 0 ∨ 10000 < n.toNatClampNeg then none else if mr_nl M x = some 3 then some (pc + 3, lv, .ref h.2.1 :: r, mr_add h n.toNatClampNeg (.inr (.inr (.inr (.inr (n.toNatClampNeg, fun _ => none)))))) else none
  | _ => none
def mr_sta3 (M x pc : Nat) (lv st : List Value) (h : mr_h) : Option mr_n := match mr_tl M x, st with
  | some 1000, .int n :: .int dp :: .ref a :: .int sp :: .ref b :: r => match h.1 b, h.1 a with
    | .inr (.inl (n0, f)), .inr (.inl (n1, g)) => if ¬ a = b ∧ ¬ sp < 0 ∧ ¬ dp < 0 ∧ ¬ n < 0 ∧ sp.toNatClampNeg + n.toNatClampNeg ≤ n0 ∧ dp.toNatClampNeg + n.toNatClampNeg ≤ n1 ∧ r.length ≤ 2 then some (pc + 3, lv, r, mr_up h a (.inr (.inl (n1, va_cpy f g sp.toNatClampNeg dp.toNatClampNeg n.toNatClampNeg)))) else none
    | _, _ => none
  | some 1002, .int y :: .int x :: r => if r.length ≤ 4 then some (pc + 3, lv, .int (if x < y then y else x) :: r, h) else none
  | some 1003, .int y :: .int x :: r => if r.length ≤ 4 then some (pc + 3, lv, .int (if y < x then y else x) :: r, h) else none
  | _, _ => none
def mr_spe (M x pc : Nat) (lv st : List Value) (h : mr_h) : Option mr_n := match mr_tl M x, st with
  | some 1001, .ref _ :: r => if r.length ≤ 4 then some (pc + 3, lv, r, h) else none
  | _, _ => none
/-- one instruction that neither calls a method of ours nor returns -/
def mr_one (M : Nat) (i : Instr) (len pc : Nat) (lv st : List Value) (h : mr_h) : Option mr_n :=
  match i with
  | .iconst n => if len = 1 then some (pc + 1, lv, .int (Int32.ofInt n) :: st, h) else none
  | .bipush n => if len = 2 then some (pc + 2, lv, .int (Int8.ofInt n).toInt32 :: st, h) else none
  | .sipush n => if len = 3 then some (pc + 3, lv, .int (Int16.ofInt n).toInt32 :: st, h) else none
  | .lconst n => if len = 1 then some (pc + 1, lv, .long (Int64.ofNat (n : Nat)) :: st, h) else none
  | .ldc_w x => if len = 3 then (mr_ik M x).map (fun v => (pc + 3, lv, .int v :: st, h)) else none
  | .ldc2_w x => if len = 3 then (mr_jk M x).map (fun v => (pc + 3, lv, .long v :: st, h)) else none
  | .iload_n k => mr_ldi len 1 pc k lv st h
  | .iload k => mr_ldi len 2 pc k lv st h
  | .lload_n k => mr_ldl len 1 pc k lv st h
  | .lload k => mr_ldl len 2 pc k lv st h
  | .aload_n k => mr_lda len 1 pc k lv st h
  | .istore_n k => mr_sti len 1 pc k lv st h
  | .istore k => mr_sti len 2 pc k lv st h
  | .lstore_n k => mr_stl len 1 pc k lv st h
  | .lstore k => mr_stl len 2 pc k lv st h
  | .astore_n k => mr_sta len 1 pc k lv st h
  | .iinc k n => if len = 3 then match lv[k]? with
    | some (.int x) => (mr_set1 lv k (.int (x + Int32.ofInt n))).map (fun lv' => (pc + 3, lv', st, h))
    | _ => none else none
  | .iadd => mr_b2 len pc lv st h (fun x y => x + y)
  | .isub => mr_b2 len pc lv st h (fun x y => x - y)
  | .imul => mr_b2 len pc lv st h (fun x y => x * y)
  | .iand => mr_b2 len pc lv st h (fun x y => x &&& y)
  | .ior => mr_b2 len pc lv st h (fun x y => x ||| y)
  | .ixor => mr_b2 len pc lv st h (fun x y => x ^^^ y)
  | .ishl => mr_b2 len pc lv st h (fun x y => x <<< (y &&& 31))
  | .ishr => mr_b2 len pc lv st h (fun x y => x >>> (y &&& 31))
  | .iushr => mr_b2 len pc lv st h (fun x y => (x.toUInt32 >>> (y.toUInt32 &&& Int32.toUInt32 31)).toInt32)
  | .idiv => match st with
    | .int y :: _ => if y = 0 then none else mr_b2 len pc lv st h (fun x y => x / y)
    | _ => none
  | .irem => match st with
    | .int y :: _ => if y = 0 then none else mr_b2 len pc lv st h (fun x y => x - x / y * y)
    | _ => none
  | .ladd => mr_l2 len pc lv st h (fun x y => x + y)
  | .lmul => mr_l2 len pc lv st h (fun x y => x * y)
  | .ldiv => match st with
    | .long y :: _ => if y = 0 then none else mr_l2 len pc lv st h (fun x y => x / y)
    | _ => none
  | .lrem => match st with
    | .long y :: _ => if y = 0 then none else mr_l2 len pc lv st h (fun x y => x - x / y * y)
    | _ => none
  | .lcmp => if len = 1 then match st with
    | .long y :: .long x :: r => some (pc + 1, lv, .int (lg_cmp x y) :: r, h)
    | _ => none else none
  | .i2l => if len = 1 then match st with
    | .int x :: r => some (pc + 1, lv, .long x.toInt64 :: r, h)
    | _ => none else none
  | .l2i => if len = 1 then match st with
    | .long x :: r => some (pc + 1, lv, .int x.toInt32 :: r, h)
    | _ => none else none
  | .dup => if len = 1 then match st with
    | v :: r => if v.category = 1 then some (pc + 1, lv, v :: v :: r, h) else none
    | _ => none else none
  | .pop => if len = 1 then match st with
    | v :: r => if v.category = 1 then some (pc + 1, lv, r, h) else none
    | _ => none else none
  | .dup2 => if len = 1 then match st with
    | v :: w :: r => if v.category = 1 ∧ w.category = 1 then some (pc + 1, lv, v :: w :: v :: w :: r, h) else none
    | _ => none else none
  | .goto off => if len = 3 then mr_jmp pc off lv st h else none
  | .ifCond c off => if len = 3 ∧ 0 ≤ (pc : Int) + off then match st with
    | .int x :: r => mr_ite c x 0 (mr_jmp pc off lv r h) (some (pc + 3, lv, r, h))
    | _ => none else none
  | .if_icmp c off => if len = 3 ∧ 0 ≤ (pc : Int) + off then match st with
    | .int y :: .int x :: r => mr_ite c x y (mr_jmp pc off lv r h) (some (pc + 3, lv, r, h))
    | _ => none else none
  | .tableswitch d lo hi offs => match st with
    | .int x :: r => if x.toInt < lo ∨ hi < x.toInt then mr_jmp pc d lv r h else match offs[(x.toInt - lo).toNat]? with
      | some o => mr_jmp pc o lv r h
      | none => none
    | _ => none
  | .lookupswitch d ps => match st with
    | .int x :: r => if (ps.toList.zip (ps.toList.drop 1)).all (fun (a, next) => a.1 < next.1) = true then mr_jmp pc (Op.lookupswitch.offset ps.toList d x.toInt) lv r h else none
    | _ => none
  | .getfield x => if len = 3 then mr_get M x pc lv st h else none
  | .putfield x => if len = 3 then mr_put M x pc lv st h else none
  | .iaload => if len = 1 then mr_ald pc lv st h else none
  | .iastore => if len = 1 then mr_ast pc lv st h else none
  | .laload => if len = 1 then mr_lld pc lv st h else none
  | .lastore => if len = 1 then mr_lst pc lv st h else none
  | .baload => if len = 1 then mr_zld pc lv st h else none
  | .bastore => if len = 1 then mr_zst pc lv st h else none
  | .aaload => if len = 1 then mr_qld pc lv st h else none
  | .aastore => if len = 1 then mr_qst pc lv st h else none
  | .arraylength => if len = 1 then match st with
    | .retAddr 0 :: r => some (pc + 1, lv, .int (Int32.ofNat h.2.2.2.1) :: r, h)
    | _ => none else none
  | .new x => if len = 3 then mr_new M x pc lv st h else none
  | .newarray t => if len = 2 then mr_nar t pc lv st h else none
  | .anewarray x => if len = 3 then mr_naq M x pc lv st h else none
  | .invokestatic x => if len = 3 then mr_sta3 M x pc lv st h else none
  | .invokespecial x => if len = 3 then mr_spe M x pc lv st h else none
  | _ => none
def mr_tk : Nat → List Value → List Value → Option (List Value × List Value)
  | 0, st, acc => some (acc, st)
  | _ + 1, [], _ => none
  | n + 1, v :: st, acc => mr_tk n st (v :: acc)
def mr_cs (M x : Nat) (st : List Value) : Option (Nat × List Value × List Value) := match mr_lk M x 0 with
  | some (t, n) => match mr_tk n st [] with
    | some (as, r) => if r.length ≤ 4 then some (t, as, r) else none
    | none => none
  | none => none
def mr_ci (M x : Nat) (st : List Value) : Option (Nat × List Value × List Value) := match mr_lk M x 2 with
  | some (t, n) => match mr_tk n st [] with
    | some (as, .ref b :: r) => if r.length ≤ 4 then some (t, .ref b :: as, r) else none
    | _ => none
  | none => none
def mr_cv (M x : Nat) (st : List Value) (h : mr_h) : Option (Nat × List Value × List Value) := match mr_lk M x 1 with
  | some (t, n) => match mr_tk n st [] with
    | some (as, .ref b :: r) => match h.1 b with
      | .inl (c, _) => if r.length ≤ 4 ∧ c = mr_own t then some (t, .ref b :: as, r) else none
      | _ => none
    | _ => none
  | none => none
/-- a call of a method of ours: which, its arguments, the rest of the stack -/
def mr_cal (M : Nat) (i : Instr) (len : Nat) (st : List Value) (h : mr_h) : Option (Nat × List Value × List Value) := if len = 3 then match i with
  | .invokestatic x => mr_cs M x st
  | .invokespecial x => mr_ci M x st
  | .invokevirtual x => mr_cv M x st h
  | _ => none else none
def mr_rty (M : Nat) : Option FieldType := match mr_M[M]? with
  | some q => mr_ret q
  | none => some (.object "")
/-- a return: the answer -/
def mr_rt (M : Nat) (i : Instr) (len : Nat) (st : List Value) : Option (Option Value) := if len = 1 then match i, st with
  | .ireturn, [.int v] => if mr_rty M = some .int ∨ (mr_rty M = some .boolean ∧ v &&& 1 = v) then some (some (.int v)) else none
  | .lreturn, [.long v] => if mr_rty M = some .long then some (some (.long v)) else none
  | .return_, [] => if mr_rty M = none then some none else none
  | _, _ => none else none
def mr_mxl (M : Nat) : Nat := match mr_M[M]? with
  | some q => mr_maxL q
  | none => 0
def mr_ex : Nat → Nat → Nat → List Value → List Value → mr_h → Option (Option Value × mr_h)
  | 0, _, _, _, _, _ => none
  | n + 1, M, pc, lv, st, h => match mr_ft M pc with
    | none => none
    | some (i, len) => match mr_one M i len pc lv st h with
      | some (pc', lv', st', h') => mr_ex n M pc' lv' st' h'
      | none => match mr_cal M i len st h with
        | some (t, as, r) => if (mr_sl as).length ≤ mr_mxl t then match mr_ex n t 0 (mr_ent as (mr_mxl t)) [] h with
          | some (v, h') => mr_ex n M (pc + 3) lv (v.toList ++ r) h'
          | none => none else none
        | none => match mr_rt M i len st with
          | some v => some (v, h)
          | none => none
end
section
/-! how the mirror's cells lie in the machine's heap -/
def mr_v (b base : Nat) : Value → Value
  | .ref k => .ref (base + k)
  | .retAddr _ => .ref b
  | v => v
theorem mr_v_cat (b base : Nat) (v : Value) : (mr_v b base v).category = v.category := by cases v <;> rfl
abbrev mr_q : Type := ClassId × ClassId × ClassId × ClassId
def mr_e (b base : Nat) (cs : mr_q) : mr_c → va_E
  | .inl (c, fs) => .inr (c, fs.map (mr_v b base))
  | .inr (.inl (n, f)) => .inl (cs.1, n, .inl f)
  | .inr (.inr (.inl (n, f))) => .inl (cs.2.1, n, .inr (.inl f))
  | .inr (.inr (.inr (.inl (n, f)))) => .inl (cs.2.2.1, n, .inl f)
  | .inr (.inr (.inr (.inr (n, f)))) => .inl (cs.2.2.2, n, .inr (.inr (.inr (.inr (fun j => (f j).map (fun k => base + k))))))
def mr_w (D : va_G) (b base : Nat) (cs : mr_q) (s : State) (h : mr_h) (H : Heap) : Prop :=
  H.size = base + h.2.1 ∧ (∀ k, k < h.2.1 → va_at D mr_cl (base + k, mr_e b base cs (h.1 k)) H) ∧ (∀ k, h.2.1 ≤ k → h.1 k = .inl (99, [])) ∧ va_X b h.2.2.2.1 h.2.2.2.2 s H ∧ b < base
def mr_tys (cs : mr_q) : List (ClassId × FieldType) := [(cs.1, .int), (cs.2.1, .long), (cs.2.2.1, .boolean), (cs.2.2.2, .object "ReachLabels$Net")]
def mr_K (D : va_G) (cs : mr_q) (U : State) : Prop :=
  va_K D mr_cl (mr_tys cs) U ∧ (∀ e ∈ mr_mL, e.2.2.1 ≠ 0 → va_Nw (.methodLinkNest (mr_name e.1.1) e.1.2 (mr_yOf e.2.1) "ReachLabels") U) ∧ va_AO "ReachLabels$Net" U
theorem mr_K.warm {D : va_G} {cs : mr_q} {s U : State} (hW : s.WarmedH U.vm) (h : mr_K D cs s) : mr_K D cs U :=
  ⟨va_K.moved hW.alike h.1, fun e he hn => va_Nw.warmM hW (h.2.1 e he hn), va_AO.moved hW.alike h.2.2⟩
theorem mr_K.same {D : va_G} {cs : mr_q} {s U : State} (hv : s.vm = U.vm) (h : mr_K D cs s) : mr_K D cs U :=
  ⟨va_K.moved (by rw [← hv]; exact Vm.Alike.refl s.vm) h.1, fun e he hn => va_Nw.same rfl hv (h.2.1 e he hn), va_AO.moved (by rw [← hv]; exact Vm.Alike.refl s.vm) h.2.2⟩
def mr_tt : List Cond := lw_tbl.filter goodWord
theorem mr_tt_in {w : Cond} (h : w ∈ lw_tbl) (g : goodWord w = true) : w ∈ mr_tt := List.mem_filter.mpr ⟨h, g⟩
theorem mr_tt_good {w : Cond} (h : w ∈ mr_tt) : (w.onTables && w.keeps) = true ∨ ∃ ty, w = .arrayClass ty := good_of_word (List.mem_filter.mp h).2
theorem mr_w.moved {D : va_G} {b base : Nat} {cs : mr_q} {s U : State} {h : mr_h} {H : Heap} (hv : s.vm.Alike U.vm) (hw : mr_w D b base cs s h H) : mr_w D b base cs U h H :=
  ⟨hw.1, hw.2.1, hw.2.2.1, hw.2.2.2.1.moved hv, hw.2.2.2.2⟩
theorem mr_w.lt {D : va_G} {b base : Nat} {cs : mr_q} {s : State} {h : mr_h} {H : Heap} (hw : mr_w D b base cs s h H) {k : Nat} (hk : h.1 k ≠ .inl (99, [])) : k < h.2.1 := Nat.not_le.mp fun hle => hk (hw.2.2.1 k hle)
theorem mr_w.at {D : va_G} {b base : Nat} {cs : mr_q} {s : State} {h : mr_h} {H : Heap} (hw : mr_w D b base cs s h H) {k : Nat} {c : mr_c} (hc : h.1 k = c) (hk : c ≠ .inl (99, [])) : va_at D mr_cl (base + k, mr_e b base cs c) H := by
  have := hw.2.1 k (hw.lt (by rw [hc]; exact hk))
  rwa [hc] at this
theorem mr_w.set {D : va_G} {b base : Nat} {cs : mr_q} {s : State} {h : mr_h} {H H1 : Heap} (hw : mr_w D b base cs s h H) {k : Nat} {c : mr_c} (hk : k < h.2.1) (z : H1.size = H.size) (o : ∀ q, q ≠ base + k → H1[q]? = H[q]?)
    (ha : va_at D mr_cl (base + k, mr_e b base cs c) H1) : mr_w D b base cs s (mr_up h k c) H1 := by
  refine ⟨z.trans hw.1, fun j hj => ?_, fun j hj => ?_, hw.2.2.2.1.kept (o b (by have := hw.2.2.2.2; omega)), hw.2.2.2.2⟩
  · by_cases e : j = k
    · subst e
      simpa [mr_up, va_up] using ha
    · have h1 := hw.2.1 j hj
      have h2 : (mr_up h k c).1 j = h.1 j := by simp [mr_up, va_up, e]
      rw [h2]
      exact h1.kept (o _ (by show base + j ≠ base + k; omega))
  · have hj' : h.2.1 ≤ j := hj
    have e : j ≠ k := by omega
    have h2 : (mr_up h k c).1 j = h.1 j := by simp [mr_up, va_up, e]
    rw [h2]
    exact hw.2.2.1 j hj'
theorem mr_w.add {D : va_G} {b base : Nat} {cs : mr_q} {s : State} {h : mr_h} {H H1 : Heap} (hw : mr_w D b base cs s h H) {n : Nat} {c : mr_c} (z : H1.size = H.size + 1) (o : ∀ q, q < H.size → H1[q]? = H[q]?)
    (ha : va_at D mr_cl (base + h.2.1, mr_e b base cs c) H1) : mr_w D b base cs s (mr_add h n c) H1 := by
  have hs := hw.1
  refine ⟨by rw [z, hs]; show _ = base + (h.2.1 + 1); omega, fun j hj => ?_, fun j hj => ?_, hw.2.2.2.1.kept (o b (by have := hw.2.2.2.2; omega)), hw.2.2.2.2⟩
  · have hj' : j < h.2.1 + 1 := hj
    by_cases e : j = h.2.1
    · subst e
      simpa [mr_add, va_up] using ha
    · have h1 := hw.2.1 j (by omega)
      have h2 : (mr_add h n c).1 j = h.1 j := by simp [mr_add, va_up, e]
      rw [h2]
      exact h1.kept (o _ (by show base + j < H.size; omega))
  · have hj' : h.2.1 + 1 ≤ j := hj
    have e : j ≠ h.2.1 := by omega
    have h2 : (mr_add h n c).1 j = h.1 j := by simp [mr_add, va_up, e]
    rw [h2]
    exact hw.2.2.1 j (by omega)
/-! locals -/
def mr_lvl (b base : Nat) (lv : List Value) : List (Nat × Value) := (lv.zipIdx.filter (fun q => decide (q.1 ≠ Value.null))).map (fun q => (q.2, mr_v b base q.1))
theorem mr_lvl_mem {b base : Nat} {lv : List Value} {i : Nat} {v : Value} (h : lv[i]? = some v) (hv : v ≠ Value.null) : (i, mr_v b base v) ∈ mr_lvl b base lv :=
  List.mem_map.mpr ⟨(v, i), List.mem_filter.mpr ⟨List.mem_zipIdx_iff_getElem?.mpr h, by simpa using hv⟩, rfl⟩
def mr_lv (b base : Nat) (lv : List Value) (ls : Array Slot) (nL : Nat) : Prop := lv.length = nL ∧ lv_has ls nL (mr_lvl b base lv)
theorem mr_lv.get {b base nL i : Nat} {lv : List Value} {ls : Array Slot} {v : Value} (h : mr_lv b base lv ls nL) (hi : lv[i]? = some v) (hv : v ≠ Value.null) : ls[i]? = some (Slot.val (mr_v b base v)) := h.2.2.2 _ (mr_lvl_mem hi hv)
theorem mr_lv.of {b base nL : Nat} {lv : List Value} {ls : Array Slot} (h1 : lv.length = nL) (h2 : ls.size = nL) (h3 : lv_wf ls) (h4 : ∀ (i : Nat) (v : Value), lv[i]? = some v → v ≠ Value.null → ls[i]? = some (Slot.val (mr_v b base v))) : mr_lv b base lv ls nL := by
  refine ⟨h1, h2, h3, fun q hq => ?_⟩
  obtain ⟨x, hx, rfl⟩ := List.mem_map.mp hq
  obtain ⟨hz, hn⟩ := List.mem_filter.mp hx
  exact h4 _ _ (List.mem_zipIdx_iff_getElem?.mp hz) (by simpa using hn)
theorem mr_lv.set1 {b base nL i : Nat} {lv lv' : List Value} {ls : Array Slot} {v : Value} (h : mr_lv b base lv ls nL) (hs : mr_set1 lv i v = some lv') {ls' : Array Slot}
    (hh : lv_has ls' nL ((i, mr_v b base v) :: (mr_lvl b base lv).filter (fun q => !(q.1 == i) && !(q.1 + 1 == i && q.2.category == 2)))) : mr_lv b base lv' ls' nL := by
  unfold mr_set1 at hs
  split at hs
  · rename_i hc
    cases hs
    refine mr_lv.of (by rw [List.length_set]; exact h.1) hh.1 hh.2.1 fun j w hj hw => ?_
    by_cases e : j = i
    · subst e
      rw [List.getElem?_set_self hc.1] at hj
      cases hj
      exact hh.2.2 _ List.mem_cons_self
    · rw [List.getElem?_set_ne (fun x => e x.symm)] at hj
      refine hh.2.2 (j, mr_v b base w) (List.mem_cons_of_mem _ (List.mem_filter.mpr ⟨mr_lvl_mem hj hw, ?_⟩))
      have hcat : ¬ (j + 1 = i ∧ w.category = 2) := by
        rintro ⟨e1, e2⟩
        rcases hc.2 with z | z
        · omega
        · rw [show i - 1 = j by omega, hj] at z
          cases w <;> simp [mr_isL, Value.category] at z e2
      simp only [mr_v_cat]
      simp
      exact ⟨e, Classical.not_and_iff_not_or_not.mp hcat⟩
  · cases hs
theorem mr_lv.set2 {b base nL i : Nat} {lv lv' : List Value} {ls : Array Slot} {v : Value} (h : mr_lv b base lv ls nL) (hs : mr_set2 lv i v = some lv') {ls' : Array Slot}
    (hh : lv_has ls' nL ((i, mr_v b base v) :: (mr_lvl b base lv).filter (fun q => !(q.1 == i) && (!(q.1 == i + 1) && !(q.1 + 1 == i && q.2.category == 2))))) : mr_lv b base lv' ls' nL := by
  unfold mr_set2 at hs
  split at hs
  · rename_i hc
    cases hs
    refine mr_lv.of (by rw [List.length_set, List.length_set]; exact h.1) hh.1 hh.2.1 fun j w hj hw => ?_
    by_cases e2 : j = i + 1
    · subst e2
      rw [List.getElem?_set_self (by rw [List.length_set]; exact hc.1)] at hj
      cases hj
      exact absurd rfl hw
    rw [List.getElem?_set_ne (fun x => e2 x.symm)] at hj
    by_cases e : j = i
    · subst e
      rw [List.getElem?_set_self (by omega)] at hj
      cases hj
      exact hh.2.2 _ List.mem_cons_self
    · rw [List.getElem?_set_ne (fun x => e x.symm)] at hj
      refine hh.2.2 (j, mr_v b base w) (List.mem_cons_of_mem _ (List.mem_filter.mpr ⟨mr_lvl_mem hj hw, ?_⟩))
      have hcat : ¬ (j + 1 = i ∧ w.category = 2) := by
        rintro ⟨e1, e3⟩
        rcases hc.2 with z | z
        · omega
        · rw [show i - 1 = j by omega, hj] at z
          cases w <;> simp [mr_isL, Value.category] at z e3
      simp only [mr_v_cat]
      simp
      exact ⟨e, e2, Classical.not_and_iff_not_or_not.mp hcat⟩
  · cases hs
theorem mr_set1_lt {lv lv' : List Value} {i : Nat} {v : Value} (h : mr_set1 lv i v = some lv') : i < lv.length := by
  unfold mr_set1 at h
  split at h
  · rename_i hc; exact hc.1
  · cases h
theorem mr_set2_lt {lv lv' : List Value} {i : Nat} {v : Value} (h : mr_set2 lv i v = some lv') : i + 1 < lv.length := by
  unfold mr_set2 at h
  split at h
  · rename_i hc; exact hc.1
  · cases h
theorem mr_sl_map (b base : Nat) (as : List Value) : (lg_sl (as.map (mr_v b base))).length = (mr_sl as).length := by
  induction as with
  | nil => rfl
  | cons v vs ih =>
    have e : lg_sl ((v :: vs).map (mr_v b base)) = (if (mr_v b base v).category = 2 then [Slot.val (mr_v b base v), .second] else [Slot.val (mr_v b base v)]) ++ lg_sl (vs.map (mr_v b base)) := by
      simp [lg_sl]
    rw [e, mr_sl, mr_v_cat]
    split <;> simp [ih] <;> omega
theorem mr_ent_at (as : List Value) (n : Nat) : ∀ (k : Nat) (i : Nat) (v : Value), (mr_sl as ++ List.replicate n .null)[i]? = some v → v ≠ Value.null → (k + i, v) ∈ lv_args k as := by
  induction as with
  | nil =>
    intro k i v h hv
    have := List.eq_of_mem_replicate (List.mem_of_getElem? (by simpa [mr_sl] using h))
    exact absurd this hv
  | cons w ws ih =>
    intro k i v h hv
    unfold mr_sl at h
    unfold lv_args
    split at h
    · rename_i hc
      rw [if_pos hc]
      match i, h with
      | 0, h => simp at h; subst h; exact List.mem_cons_self
      | 1, h => simp at h; exact absurd h.symm hv
      | i + 2, h =>
        simp only [List.cons_append, List.getElem?_cons_succ] at h
        have := ih (k + 2) i v h hv
        rw [show k + (i + 2) = k + 2 + i by omega]
        exact List.mem_cons_of_mem _ this
    · rename_i hc
      rw [if_neg hc]
      match i, h with
      | 0, h => simp at h; subst h; exact List.mem_cons_self
      | i + 1, h =>
        simp only [List.cons_append, List.getElem?_cons_succ] at h
        have := ih (k + 1) i v h hv
        rw [show k + (i + 1) = k + 1 + i by omega]
        exact List.mem_cons_of_mem _ this
theorem lv_args_map (b base : Nat) (as : List Value) : ∀ k, lv_args k (as.map (mr_v b base)) = (lv_args k as).map (fun q => (q.1, mr_v b base q.2)) := by
  induction as with
  | nil => intro k; rfl
  | cons v vs ih =>
    intro k
    simp only [List.map_cons, lv_args, mr_v_cat, ih]
theorem mr_ent_lv {b base nL : Nat} {as : List Value} (h : (mr_sl as).length ≤ nL) : mr_lv b base (mr_ent as nL) ((lg_sl (as.map (mr_v b base)) ++ List.replicate (nL - (lg_sl (as.map (mr_v b base))).length) Slot.unset).toArray) nL := by
  have h0 := lv_entry (as.map (mr_v b base)) (n := nL) (by rw [mr_sl_map]; exact h)
  refine mr_lv.of (by unfold mr_ent; simp; omega) h0.1 h0.2.1 fun i v hi hv => ?_
  have h1 := mr_ent_at as _ 0 i v hi hv
  rw [Nat.zero_add] at h1
  refine h0.2.2 (i, mr_v b base v) ?_
  rw [lv_args_map]
  exact List.mem_map.mpr ⟨(i, v), h1, rfl⟩
end
section
/-! one instruction of the mirror is one of the machine's -/
def mr_x (p : Program) (R : Room) (s : State) (m : MethodId) (args : Array Value) (meth : Method) (c : Code) (D : va_G) (cs : mr_q) (q : mr_R) : Prop :=
  p.tables.exec = Jvm.exec ∧ c.code = mr_bytes q ∧ c.maxLocals = mr_maxL q ∧ s.vm.findClass (mr_name q.1) = some m.cls ∧ (∀ w ∈ mr_tt, w.before args s = true) ∧ mr_K D cs s ∧ mr_hg q ≤ R.frames ∧ 36 * mr_hg q ≤ R.locals ∧ (mr_kd q = 2 → meth.name = "<init>")
theorem mr_lt31 {i : Int32} {n : Nat} (h : ¬ (i < 0 ∨ n ≤ i.toNatClampNeg)) : vp_in i n := h
theorem mr_cl_at {n : Nat} (h : n < 12) : mr_cl[n]? = some (mr_name n, mr_T n, mr_N n) := by
  simp [mr_cl, h]
theorem mr_Y {n : Nat} (h : n < 12) : (∀ w ∈ u_ws (mr_name n) (mr_T n) (mr_N n), w ∈ mr_tt) ∧ (∀ k, k < mr_N n → parseFieldDescriptor (mr_T n k).2.2.1 = some (mr_ty n k)) ∧
    (∀ a, a < mr_N n → ∀ b, b < mr_N n → a ≠ b → (mr_T n a).2.1 ≠ (mr_T n b).2.1) ∧ (∀ k, k < mr_N n → (mr_T n k).1 = mr_name n) := by
  have h1 := List.all_eq_true.mp mr_okY_all n (List.mem_range.mpr h)
  simp only [mr_okY, Bool.and_eq_true, decide_eq_true_eq] at h1
  obtain ⟨⟨⟨h2, h3⟩, h4⟩, h5⟩ := h1
  refine ⟨fun w hw => ?_, h3, h4, h5⟩
  have h6 : some w ∈ (mr_lp.getD n []).map (fun i => lw_tbl[i]?) := by rw [h2]; exact List.mem_map.mpr ⟨w, hw, rfl⟩
  obtain ⟨i, -, hi⟩ := List.mem_map.mp h6
  refine mr_tt_in (List.mem_of_getElem? hi) ?_
  obtain ⟨k, -, rfl⟩ := List.mem_map.mp hw
  unfold u_lay
  split <;> rfl
theorem mr_gl_ok {M x ci k : Nat} {q : mr_R} (hq : mr_M[M]? = some q) (h : mr_gl M x = some (ci, k)) : ci < 12 ∧ k < mr_N ci ∧ (Cond.fieldLink (mr_name q.1) x (mr_name ci) (mr_T ci k).2.1 (mr_T ci k).2.2.1) ∈ mr_tt := by
  unfold mr_gl at h
  obtain ⟨e, he, h2⟩ := Option.map_eq_some_iff.mp h
  have h3 := List.mem_of_find?_eq_some he
  have h4 := List.find?_some he
  have h5 := List.all_eq_true.mp mr_okF_all e h3
  simp only [mr_own, hq, Bool.and_eq_true, beq_iff_eq] at h4
  simp only [mr_okF, Bool.and_eq_true, decide_eq_true_eq] at h5
  cases h2
  obtain ⟨e1, e2⟩ := h4
  rw [e1, e2] at h5
  exact ⟨h5.2, h5.1.2, mr_tt_in (List.mem_of_getElem? h5.1.1) rfl⟩
theorem mr_nl_ok {M x ci : Nat} {q : mr_R} (hq : mr_M[M]? = some q) (h : mr_nl M x = some ci) : ci < 12 ∧ (Cond.classLink (mr_name q.1) x (mr_name ci)) ∈ mr_tt ∧ (Cond.instantiable (mr_name ci) (mr_N ci)) ∈ mr_tt ∧ (Cond.initialized (mr_name ci)) ∈ mr_tt := by
  unfold mr_nl at h
  obtain ⟨e, he, h2⟩ := Option.map_eq_some_iff.mp h
  have h3 := List.mem_of_find?_eq_some he
  have h4 := List.find?_some he
  have h5 := List.all_eq_true.mp mr_okC_all e h3
  simp only [mr_own, hq, Bool.and_eq_true, beq_iff_eq] at h4
  simp only [mr_okC, Bool.and_eq_true, decide_eq_true_eq] at h5
  cases h2
  obtain ⟨e1, e2⟩ := h4
  rw [e1, e2] at h5
  exact ⟨h5.2, mr_tt_in (List.mem_of_getElem? h5.1.1.1) rfl, mr_tt_in (List.mem_of_getElem? h5.1.1.2) rfl, mr_tt_in (List.mem_of_getElem? h5.1.2) rfl⟩
theorem mr_ik_ok {M x : Nat} {v : Int32} {q : mr_R} (hq : mr_M[M]? = some q) (h : mr_ik M x = some v) : (Cond.constant (mr_name q.1) x v) ∈ mr_tt := by
  unfold mr_ik at h
  obtain ⟨e, he, h2⟩ := Option.map_eq_some_iff.mp h
  have h3 := List.mem_of_find?_eq_some he
  have h4 := List.find?_some he
  have h5 := List.all_eq_true.mp mr_kI_all e h3
  simp only [mr_own, hq, Bool.and_eq_true, beq_iff_eq] at h4
  simp only [decide_eq_true_eq] at h5
  cases h2
  obtain ⟨e1, e2⟩ := h4
  rw [e1, e2] at h5
  exact mr_tt_in (List.mem_of_getElem? h5) rfl
theorem mr_jk_ok {M x : Nat} {v : Int64} {q : mr_R} (hq : mr_M[M]? = some q) (h : mr_jk M x = some v) : (Cond.constantLong (mr_name q.1) x v) ∈ mr_tt := by
  unfold mr_jk at h
  obtain ⟨e, he, h2⟩ := Option.map_eq_some_iff.mp h
  have h3 := List.mem_of_find?_eq_some he
  have h4 := List.find?_some he
  have h5 := List.all_eq_true.mp mr_kJ_all e h3
  simp only [mr_own, hq, Bool.and_eq_true, beq_iff_eq] at h4
  simp only [decide_eq_true_eq] at h5
  cases h2
  obtain ⟨e1, e2⟩ := h4
  rw [e1, e2] at h5
  exact mr_tt_in (List.mem_of_getElem? h5) rfl
theorem mr_tl_hg {M x t : Nat} {q : mr_R} (hq : mr_M[M]? = some q) (h : mr_tl M x = some t) : 1 ≤ mr_hg q := by
  unfold mr_tl at h
  split at h
  · rename_i h1
    simpa [mr_hgt, hq] using h1
  · cases h
/-- a link is a word of the tables, or a nest mate's -/
theorem mr_tl_ok {M x t : Nat} {q : mr_R} {D : va_G} {cs : mr_q} {U : State} (hq : mr_M[M]? = some q) (h : mr_tl M x = some t) (hK : mr_K D cs U) :
    (Cond.methodLink (mr_name q.1) x (mr_yOf t)) ∈ mr_tt ∨ va_Nw (.methodLinkNest (mr_name q.1) x (mr_yOf t) "ReachLabels") U := by
  unfold mr_tl at h
  have h1m : 1 ≤ mr_hgt M := by
    by_cases z : 1 ≤ mr_hgt M
    · exact z
    · rw [if_neg z] at h
      cases h
  rw [if_pos h1m] at h
  obtain ⟨e, he, h2⟩ := Option.map_eq_some_iff.mp h
  have h3 := List.mem_of_find?_eq_some he
  have h4 := List.find?_some he
  have h5 := List.all_eq_true.mp mr_okL_all e h3
  simp only [mr_own, hq, Bool.and_eq_true, beq_iff_eq] at h4
  cases h2
  obtain ⟨e1, e2⟩ := h4
  unfold mr_okL at h5
  split at h5
  · rw [e1, e2] at h5
    exact Or.inl (mr_tt_in (List.mem_of_getElem? (of_decide_eq_true h5)) rfl)
  · rename_i hn
    have := hK.2.1 e h3 hn
    rw [e1, e2] at this
    exact Or.inr this
theorem mr_b2_inv {len pc : Nat} {lv st : List Value} {h : mr_h} {f : Int32 → Int32 → Int32} {z : mr_n} (H : mr_b2 len pc lv st h f = some z) : ∃ (x y : Int32) (r : List Value), len = 1 ∧ st = .int y :: .int x :: r ∧ z = (pc + 1, lv, .int (f x y) :: r, h) := by
  unfold mr_b2 at H
  split at H
  · rename_i e
    split at H
    · cases H; exact ⟨_, _, _, e, rfl, rfl⟩
    · cases H
  · cases H
theorem mr_l2_inv {len pc : Nat} {lv st : List Value} {h : mr_h} {f : Int64 → Int64 → Int64} {z : mr_n} (H : mr_l2 len pc lv st h f = some z) : ∃ (x y : Int64) (r : List Value), len = 1 ∧ st = .long y :: .long x :: r ∧ z = (pc + 1, lv, .long (f x y) :: r, h) := by
  unfold mr_l2 at H
  split at H
  · rename_i e
    split at H
    · cases H; exact ⟨_, _, _, e, rfl, rfl⟩
    · cases H
  · cases H
theorem mr_ldi_inv {len l pc k : Nat} {lv st : List Value} {h : mr_h} {z : mr_n} (H : mr_ldi len l pc k lv st h = some z) : ∃ x : Int32, len = l ∧ lv[k]? = some (.int x) ∧ z = (pc + l, lv, .int x :: st, h) := by
  unfold mr_ldi at H
  split at H
  · rename_i e
    split at H
    · rename_i e2; cases H; exact ⟨_, e, e2, rfl⟩
    · cases H
  · cases H
theorem mr_ldl_inv {len l pc k : Nat} {lv st : List Value} {h : mr_h} {z : mr_n} (H : mr_ldl len l pc k lv st h = some z) : ∃ x : Int64, len = l ∧ lv[k]? = some (.long x) ∧ z = (pc + l, lv, .long x :: st, h) := by
  unfold mr_ldl at H
  split at H
  · rename_i e
    split at H
    · rename_i e2; cases H; exact ⟨_, e, e2, rfl⟩
    · cases H
  · cases H
theorem mr_lda_inv {len l pc k : Nat} {lv st : List Value} {h : mr_h} {z : mr_n} (H : mr_lda len l pc k lv st h = some z) : ∃ x : Value, len = l ∧ lv[k]? = some x ∧ z = (pc + l, lv, x :: st, h) ∧ x ≠ Value.null ∧ ∀ b base, ∃ a, mr_v b base x = .ref a := by
  unfold mr_lda at H
  split at H
  · rename_i e
    split at H
    · rename_i e2; cases H; exact ⟨_, e, e2, rfl, (fun h => by cases h), fun _ _ => ⟨_, rfl⟩⟩
    · rename_i e2; cases H; exact ⟨_, e, e2, rfl, (fun h => by cases h), fun _ _ => ⟨_, rfl⟩⟩
    · cases H
  · cases H
theorem mr_sti_inv {len l pc k : Nat} {lv st : List Value} {h : mr_h} {z : mr_n} (H : mr_sti len l pc k lv st h = some z) : ∃ (x : Int32) (r lv' : List Value), len = l ∧ st = .int x :: r ∧ mr_set1 lv k (.int x) = some lv' ∧ z = (pc + l, lv', r, h) := by
  unfold mr_sti at H
  split at H
  · rename_i e
    split at H
    · obtain ⟨lv', h1, h2⟩ := Option.map_eq_some_iff.mp H; exact ⟨_, _, lv', e, rfl, h1, h2.symm⟩
    · cases H
  · cases H
theorem mr_stl_inv {len l pc k : Nat} {lv st : List Value} {h : mr_h} {z : mr_n} (H : mr_stl len l pc k lv st h = some z) : ∃ (x : Int64) (r lv' : List Value), len = l ∧ st = .long x :: r ∧ mr_set2 lv k (.long x) = some lv' ∧ z = (pc + l, lv', r, h) := by
  unfold mr_stl at H
  split at H
  · rename_i e
    split at H
    · obtain ⟨lv', h1, h2⟩ := Option.map_eq_some_iff.mp H; exact ⟨_, _, lv', e, rfl, h1, h2.symm⟩
    · cases H
  · cases H
theorem mr_sta_inv {len l pc k : Nat} {lv st : List Value} {h : mr_h} {z : mr_n} (H : mr_sta len l pc k lv st h = some z) : ∃ (x : Nat) (r lv' : List Value), len = l ∧ st = .ref x :: r ∧ mr_set1 lv k (.ref x) = some lv' ∧ z = (pc + l, lv', r, h) := by
  unfold mr_sta at H
  split at H
  · rename_i e
    split at H
    · obtain ⟨lv', h1, h2⟩ := Option.map_eq_some_iff.mp H; exact ⟨_, _, lv', e, rfl, h1, h2.symm⟩
    · cases H
  · cases H
theorem mr_jmp_inv {pc : Nat} {off : Int} {lv st : List Value} {h : mr_h} {z : mr_n} (H : mr_jmp pc off lv st h = some z) : ∃ t : Nat, (pc : Int) + off = (t : Int) ∧ z = (t, lv, st, h) := by
  unfold mr_jmp at H
  split at H
  · rename_i e; cases H; exact ⟨_, (Int.toNat_of_nonneg e).symm, rfl⟩
  · cases H
theorem mr_ite_inv {c : ClassFile.Cond} {x y : Int32} {a b : Option mr_n} {z : mr_n} (H : mr_ite c x y a b = some z) : (mr_cmp c x y ∧ a = some z) ∨ (¬ mr_cmp c x y ∧ b = some z) := by
  unfold mr_ite at H
  split at H
  · rename_i e _; exact Or.inl ⟨e, H⟩
  · rename_i e _; exact Or.inr ⟨e, H⟩
end
section
/-! the instructions that read or write cells -/
theorem mr_mL_sys : mr_mL.all (fun e => decide (e.2.1 < 1000) || decide (e.2.2.1 = 0)) = true := by decide +kernel
theorem mr_tl_sys {M x t : Nat} {q : mr_R} (hq : mr_M[M]? = some q) (h : mr_tl M x = some t) (ht : 1000 ≤ t) : (Cond.methodLink (mr_name q.1) x (mr_yOf t)) ∈ mr_tt := by
  unfold mr_tl at h
  have h1m : 1 ≤ mr_hgt M := by
    by_cases z : 1 ≤ mr_hgt M
    · exact z
    · rw [if_neg z] at h
      cases h
  rw [if_pos h1m] at h
  obtain ⟨e, he, h2⟩ := Option.map_eq_some_iff.mp h
  have h3 := List.mem_of_find?_eq_some he
  have h4 := List.find?_some he
  have h5 := List.all_eq_true.mp mr_okL_all e h3
  have h6 := List.all_eq_true.mp mr_mL_sys e h3
  simp only [mr_own, hq, Bool.and_eq_true, beq_iff_eq] at h4
  cases h2
  obtain ⟨e1, e2⟩ := h4
  simp only [Bool.or_eq_true, decide_eq_true_eq] at h6
  have h7 : e.2.2.1 = 0 := by omega
  unfold mr_okL at h5
  rw [if_pos h7, e1, e2] at h5
  exact mr_tt_in (List.mem_of_getElem? (of_decide_eq_true h5)) rfl
section MRH
variable {p : Program} {l : Launch} {e : Env} {R : Room} {s : State} {m : MethodId} {args : Array Value} {below : List Frame} {meth : Method} {c : Code} {H : Heap} {locs : List Loc} {cells slots : Nat} {Q : State → Prop}
variable {cc : ByteArray} {pc : Nat} {ls : Array Slot} {rest : List Value} {D : va_G} {b base : Nat} {cs : mr_q} {h : mr_h} {q : mr_R} {M : Nat}
theorem mr_r_get (hX : mr_x p R s m args meth c D cs q) (hq : mr_M[M]? = some q) (hw : mr_w D b base cs s h H) {a x ci k : Nat} {fs : List Value} {v : Value} (ha : h.1 a = .inl (ci, fs)) (hg : mr_gl M x = some (ci, k)) (hv : fs[k]? = some v) (hd : decode (mr_bytes q) pc = .ok (.getfield x, 3))
    (kk : W p l e R s m args below meth c H locs cells slots Q (F0 m (pc + 3) ls (mr_v b base v :: rest))) : W p l e R s m args below meth c H locs cells slots Q (F0 m pc ls (.ref (base + a) :: rest)) := by
  obtain ⟨hx, hb, hml, hown, hts, hK, -⟩ := hX
  obtain ⟨h1, h2, h3⟩ := mr_gl_ok hq hg
  obtain ⟨y1, y2, y3, y4⟩ := mr_Y h1
  have hat := hw.at ha (fun z => by injection z with z; injection z with z; omega)
  have hP : va_P D mr_cl [(base + a, .inr (ci, fs.map (mr_v b base)))] H := by
    intro j z hz
    match j, hz with
    | 0, hz => cases hz; exact hat
    | j + 1, hz => simp at hz
  exact va_get (C := mr_name ci) (T := mr_T ci) (N := mr_N ci) hx hb hts y1 hown hK.1 hP 0 rfl (mr_cl_at h1) k h2 (hts _ h3) (fun z hz => by rw [y4 k h2] at hz; exact hz) (by rw [List.getElem?_map, hv]; rfl) hd kk
theorem mr_r_put (hX : mr_x p R s m args meth c D cs q) (hq : mr_M[M]? = some q) (hw : mr_w D b base cs s h H) {a x ci k : Nat} {fs : List Value} {v : Value} (ha : h.1 a = .inl (ci, fs)) (hg : mr_gl M x = some (ci, k)) (hl : k < fs.length) (hfit : mr_fit (mr_ty ci k) v = true)
    (hfin : (mr_T ci k).2.2.2 = false ∨ (mr_own M = ci ∧ mr_isI M = true)) (hd : decode (mr_bytes q) pc = .ok (.putfield x, 3))
    (kk : ∀ (H1 : Heap) (f : Nat), mr_w D b base cs s (mr_up h a (.inl (ci, fs.set k v))) H1 → W p l e R s m args below meth c H1 (locs ++ [⟨base + a, f⟩]) cells slots Q (F0 m (pc + 3) ls rest)) : W p l e R s m args below meth c H locs cells slots Q (F0 m pc ls (mr_v b base v :: .ref (base + a) :: rest)) := by
  obtain ⟨hx, hb, hml, hown, hts, hK, -, -, hinit⟩ := hX
  obtain ⟨h1, h2, h3⟩ := mr_gl_ok hq hg
  obtain ⟨y1, y2, y3, y4⟩ := mr_Y h1
  have hc := mr_cl_at h1
  have hne : h.1 a ≠ .inl (99, []) := fun z => by rw [ha] at z; injection z with z; injection z with z; omega
  obtain ⟨r, hr, cell, q1, q2, q3, q4⟩ := hw.at ha (fun z => by injection z with z; injection z with z; omega)
  have hr' : r = (mr_name ci, mr_T ci, mr_N ci) := Option.some.inj (hr.symm.trans hc)
  subst hr'
  have hap := va_apart (own := mr_name q.1) hts y1 (mr_ty ci) y2 y3 hK.1 hc
  obtain ⟨hS, hfc, kC, hkC, hkind⟩ := hK.1.1 ci _ hc
  obtain ⟨cf, kf, fi, f, hi, hsl⟩ := hS k h2
  have hlay := hts _ (y1 _ (u_in_lay h2))
  have hst := (u_facts hfc hkC (u_lays hts y1 h2) hi).1
  have hlt : f.slot < cell.slots.size := by rw [hsl]; exact k2_hasslot (q4 k h2)
  have hn : narrow (mr_ty ci k) (mr_v b base v) = mr_v b base v := by
    revert hfit
    cases mr_ty ci k <;> cases v <;> simp [mr_fit, narrow, mr_v]
  have hf : fits (mr_ty ci k) (mr_v b base v) = true := by
    revert hfit
    cases mr_ty ci k <;> cases v <;> simp [mr_fit, fits, mr_v]
  have hlink := hts _ h3
  have hsame : s.fieldFound? (mr_name ci) (mr_T ci k).2.1 (mr_T ci k).2.2.1 = some (cf, kf, fi, f) := by rw [← y4 k h2]; exact hi
  have fin : ∀ H' : Heap, H'[base + a]? = some (cell.setSlot f.slot (mr_v b base v)) → H'.size = H.size → (∀ z, z ≠ base + a → H'[z]? = H[z]?) → mr_w D b base cs s (mr_up h a (.inl (ci, fs.set k v))) H' := by
    intro H' e1 e2 e3
    refine hw.set (hw.lt hne) e2 e3 ?_
    rw [hsl] at e1
    refine ⟨_, hc, ?_⟩
    have := t_OB.to (V := updV (vp_V (fs.map (mr_v b base))) k (mr_v b base v)) (V' := vp_V ((fs.set k v).map (mr_v b base))) ⟨_, e1, q2, q3, t_set q4 hap h2 (mr_v b base v)⟩ (fun j _ => by
      rw [List.map_set]
      exact vp_updV_set (by rw [List.length_map]; exact hl) _ j)
    exact this
  unfold u_lay at hlay
  by_cases hfb : (mr_T ci k).2.2.2 = true
  · rw [if_pos hfb] at hlay
    rcases hfin with z | ⟨z1, z2⟩
    · rw [hfb] at z; cases z
    · have hin2 : meth.name = "<init>" := hinit (by simpa [mr_isI, hq] using z2)
      have hown' : mr_name ci = mr_name q.1 := by rw [← z1]; simp [mr_own, hq]
      have hcf : m.cls = cf := by
        obtain ⟨_, _, c', _, _, _, -, -, hf', -, -, -, hown2, -⟩ := Cond.laysFinal_spec hlay
        have e1 : c' = cf := by have := hi.symm.trans hf'; simp at this; exact this.1.symm
        rw [y4 k h2, hown'] at hown2
        rw [← e1]; exact Option.some.inj (hown.symm.trans hown2)
      have h6 := u_fits hfc hkC hkind (Or.inr hlay) hi (y2 k h2) hn hf
      refine W.putFinK hx hb hown hlink hsame hst hcf hin2 (by rw [q2]; exact h6) q1 q3 hlt rfl rfl hd fun H' e1 e2 e3 => ?_
      exact kk H' _ (fin H' e1 e2 e3)
  · rw [if_neg hfb] at hlay
    have h6 := u_store hfc hkC hkind hlay hi (y2 k h2) hn hf
    refine W.putK hx hb (f := f) ⟨hown, hlink, ⟨_, _, _, hsame⟩, hst⟩ (by rw [q2]; exact h6) q1 q3 hlt rfl rfl hd fun H' e1 e2 e3 => ?_
    exact kk H' _ (fin H' e1 e2 e3)
theorem mr_r_iald (hX : mr_x p R s m args meth c D cs q) (hw : mr_w D b base cs s h H) {a n : Nat} {f : Nat → Int32} {i : Int32} (ha : h.1 a = .inr (.inl (n, f))) (hi : vp_in i n) (hd : decode (mr_bytes q) pc = .ok (.iaload, 1))
    (kk : W p l e R s m args below meth c H locs cells slots Q (F0 m (pc + 1) ls (.int (f i.toNatClampNeg) :: rest))) : W p l e R s m args below meth c H locs cells slots Q (F0 m pc ls (.int i :: .ref (base + a) :: rest)) := by
  obtain ⟨hx, hb, hml, hown, hts, hK, -⟩ := hX
  have hP : va_P D mr_cl [(base + a, .inl (cs.1, n, .inl f))] H := by
    intro j z hz
    match j, hz with
    | 0, hz => cases hz; exact hw.at ha (fun z => by cases z)
    | j + 1, hz => simp at hz
  exact va_iald hx hb hK.1 hP 0 0 rfl rfl hi hd kk
theorem mr_r_zald (hX : mr_x p R s m args meth c D cs q) (hw : mr_w D b base cs s h H) {a n : Nat} {f : Nat → Int32} {i : Int32} (ha : h.1 a = .inr (.inr (.inr (.inl (n, f))))) (hi : vp_in i n) (hd : decode (mr_bytes q) pc = .ok (.baload, 1))
    (kk : W p l e R s m args below meth c H locs cells slots Q (F0 m (pc + 1) ls (.int (f i.toNatClampNeg) :: rest))) : W p l e R s m args below meth c H locs cells slots Q (F0 m pc ls (.int i :: .ref (base + a) :: rest)) := by
  obtain ⟨hx, hb, hml, hown, hts, hK, -⟩ := hX
  have hP : va_P D mr_cl [(base + a, .inl (cs.2.2.1, n, .inl f))] H := by
    intro j z hz
    match j, hz with
    | 0, hz => cases hz; exact hw.at ha (fun z => by cases z)
    | j + 1, hz => simp at hz
  exact va_zald hx hb hK.1 hP 0 2 rfl rfl hi hd kk
theorem mr_r_lald (hX : mr_x p R s m args meth c D cs q) (hw : mr_w D b base cs s h H) {a n : Nat} {f : Nat → Int64} {i : Int32} (ha : h.1 a = .inr (.inr (.inl (n, f)))) (hi : vp_in i n) (hd : decode (mr_bytes q) pc = .ok (.laload, 1))
    (kk : W p l e R s m args below meth c H locs cells slots Q (F0 m (pc + 1) ls (.long (f i.toNatClampNeg) :: rest))) : W p l e R s m args below meth c H locs cells slots Q (F0 m pc ls (.int i :: .ref (base + a) :: rest)) := by
  obtain ⟨hx, hb, hml, hown, hts, hK, -⟩ := hX
  have hP : va_P D mr_cl [(base + a, .inl (cs.2.1, n, .inr (.inl f)))] H := by
    intro j z hz
    match j, hz with
    | 0, hz => cases hz; exact hw.at ha (fun z => by cases z)
    | j + 1, hz => simp at hz
  exact va_lald hx hb hK.1 hP 0 1 rfl rfl hi hd kk
theorem mr_r_qald (hX : mr_x p R s m args meth c D cs q) (hw : mr_w D b base cs s h H) {a n k : Nat} {f : Nat → Option Nat} {i : Int32} (ha : h.1 a = .inr (.inr (.inr (.inr (n, f))))) (hi : vp_in i n) (hk : f i.toNatClampNeg = some k) (hd : decode (mr_bytes q) pc = .ok (.aaload, 1))
    (kk : W p l e R s m args below meth c H locs cells slots Q (F0 m (pc + 1) ls (.ref (base + k) :: rest))) : W p l e R s m args below meth c H locs cells slots Q (F0 m pc ls (.int i :: .ref (base + a) :: rest)) := by
  obtain ⟨hx, hb, hml, hown, hts, hK, -⟩ := hX
  have hP : va_P D mr_cl [(base + a, .inl (cs.2.2.2, n, .inr (.inr (.inr (.inr (fun j => (f j).map (fun k => base + k)))))))] H := by
    intro j z hz
    match j, hz with
    | 0, hz => cases hz; exact hw.at ha (fun z => by cases z)
    | j + 1, hz => simp at hz
  exact va_aldq (C := "ReachLabels$Net") hx hb hK.1 hP 0 3 rfl rfl hi hd (by rw [hk]; exact kk)
theorem mr_r_sld (hX : mr_x p R s m args meth c D cs q) (hw : mr_w D b base cs s h H) {i : Int32} (hi : vp_in i h.2.2.2.1) (hd : decode (mr_bytes q) pc = .ok (.iaload, 1))
    (kk : W p l e R s m args below meth c H locs cells slots Q (F0 m (pc + 1) ls (.int (h.2.2.2.2 i.toNatClampNeg) :: rest))) : W p l e R s m args below meth c H locs cells slots Q (F0 m pc ls (.int i :: .ref b :: rest)) := by
  obtain ⟨hx, hb, -⟩ := hX
  obtain ⟨scr, h1, h2, h3, h4, h5⟩ := hw.2.2.2.1
  exact W.iald hx hb h1 h2 h3 (by rw [h4]; exact hi) (h5 _ (Nat.not_le.mp fun z => hi (Or.inr z))) rfl rfl hd kk
theorem mr_r_slen (hX : mr_x p R s m args meth c D cs q) (hw : mr_w D b base cs s h H) (hd : decode (mr_bytes q) pc = .ok (.arraylength, 1))
    (kk : W p l e R s m args below meth c H locs cells slots Q (F0 m (pc + 1) ls (.int (Int32.ofNat h.2.2.2.1) :: rest))) : W p l e R s m args below meth c H locs cells slots Q (F0 m pc ls (.ref b :: rest)) := by
  obtain ⟨hx, hb, -⟩ := hX
  obtain ⟨scr, h1, h2, h3, h4, h5⟩ := hw.2.2.2.1
  exact W.alen hx hb h1 h2 (by rw [h4]) rfl rfl hd kk
theorem mr_r_iast (hX : mr_x p R s m args meth c D cs q) (hw : mr_w D b base cs s h H) {a n : Nat} {f : Nat → Int32} {i x : Int32} (ha : h.1 a = .inr (.inl (n, f))) (hi : vp_in i n) (hd : decode (mr_bytes q) pc = .ok (.iastore, 1))
    (kk : ∀ (H1 : Heap) (k : Nat), mr_w D b base cs s (mr_up h a (.inr (.inl (n, upd f i.toNatClampNeg x)))) H1 → W p l e R s m args below meth c H1 (locs ++ [⟨base + a, k⟩]) cells slots Q (F0 m (pc + 1) ls rest)) : W p l e R s m args below meth c H locs cells slots Q (F0 m pc ls (.int x :: .int i :: .ref (base + a) :: rest)) := by
  obtain ⟨hx, hb, hml, hown, hts, hK, -⟩ := hX
  have hat := hw.at ha (fun z => by cases z)
  refine W.iast hx hb hat ((hK.1.2 0 _ rfl).1 n (fun j => .int (f j))) (fun z => by cases z) (by show ¬ (i < 0 ∨ (arrV _ _ _).slots.size ≤ _); rw [arrV_size]; exact hi) rfl rfl hd fun H1 e1 z oq => ?_
  refine kk H1 _ (hw.set (hw.lt (by rw [ha]; exact fun z => by cases z)) z oq ?_)
  show H1[base + a]? = some (vp_cell _ _)
  rw [e1]
  dsimp only
  rw [vp_cell_i, vp_cell_i, arrV_store]
  congr 2
  funext j
  by_cases hj : j = i.toNatClampNeg
  · subst hj; simp [updV, upd]
  · simp [updV, upd, hj]
theorem mr_r_zast (hX : mr_x p R s m args meth c D cs q) (hw : mr_w D b base cs s h H) {a n : Nat} {f : Nat → Int32} {i x : Int32} (ha : h.1 a = .inr (.inr (.inr (.inl (n, f))))) (hi : vp_in i n) (hd : decode (mr_bytes q) pc = .ok (.bastore, 1))
    (kk : ∀ (H1 : Heap) (k : Nat), mr_w D b base cs s (mr_up h a (.inr (.inr (.inr (.inl (n, upd f i.toNatClampNeg (x &&& 1))))))) H1 → W p l e R s m args below meth c H1 (locs ++ [⟨base + a, k⟩]) cells slots Q (F0 m (pc + 1) ls rest)) : W p l e R s m args below meth c H locs cells slots Q (F0 m pc ls (.int x :: .int i :: .ref (base + a) :: rest)) := by
  obtain ⟨hx, hb, hml, hown, hts, hK, -⟩ := hX
  have hat := hw.at ha (fun z => by cases z)
  refine W.zast hx hb hat ((hK.1.2 2 _ rfl).1 n (fun j => .int (f j))) (fun z => by cases z) (by show ¬ (i < 0 ∨ (arrV _ _ _).slots.size ≤ _); rw [arrV_size]; exact hi) rfl rfl hd fun H1 e1 z oq => ?_
  refine kk H1 _ (hw.set (hw.lt (by rw [ha]; exact fun z => by cases z)) z oq ?_)
  show H1[base + a]? = some (vp_cell _ _)
  rw [e1]
  dsimp only
  rw [vp_cell_i, vp_cell_i, arrV_store]
  congr 2
  funext j
  by_cases hj : j = i.toNatClampNeg
  · subst hj; simp [updV, upd, narrow]
  · simp [updV, upd, hj]
theorem mr_r_last (hX : mr_x p R s m args meth c D cs q) (hw : mr_w D b base cs s h H) {a n : Nat} {f : Nat → Int64} {i : Int32} {x : Int64} (ha : h.1 a = .inr (.inr (.inl (n, f)))) (hi : vp_in i n) (hd : decode (mr_bytes q) pc = .ok (.lastore, 1))
    (kk : ∀ (H1 : Heap) (k : Nat), mr_w D b base cs s (mr_up h a (.inr (.inr (.inl (n, vp_updL f i.toNatClampNeg x))))) H1 → W p l e R s m args below meth c H1 (locs ++ [⟨base + a, k⟩]) cells slots Q (F0 m (pc + 1) ls rest)) : W p l e R s m args below meth c H locs cells slots Q (F0 m pc ls (.long x :: .int i :: .ref (base + a) :: rest)) := by
  obtain ⟨hx, hb, hml, hown, hts, hK, -⟩ := hX
  have hat := hw.at ha (fun z => by cases z)
  refine W.last hx hb hat ((hK.1.2 1 _ rfl).1 n (fun j => .long (f j))) (fun z => by cases z) (by show ¬ (i < 0 ∨ (arrV _ _ _).slots.size ≤ _); rw [arrV_size]; exact hi) rfl rfl hd fun H1 e1 z oq => ?_
  refine kk H1 _ (hw.set (hw.lt (by rw [ha]; exact fun z => by cases z)) z oq ?_)
  show H1[base + a]? = some (vp_cell _ _)
  rw [e1]
  dsimp only
  rw [vp_cell_l, vp_cell_l, arrV_store]
  congr 2
  funext j
  by_cases hj : j = i.toNatClampNeg
  · subst hj; simp [updV, vp_updL]
  · simp [updV, vp_updL, hj]
theorem mr_r_qast (hX : mr_x p R s m args meth c D cs q) (hw : mr_w D b base cs s h H) {a n v : Nat} {f : Nat → Option Nat} {i : Int32} {fs : List Value} (ha : h.1 a = .inr (.inr (.inr (.inr (n, f))))) (hv : h.1 v = .inl (3, fs)) (hi : vp_in i n) (hd : decode (mr_bytes q) pc = .ok (.aastore, 1))
    (kk : ∀ (H1 : Heap) (k : Nat), mr_w D b base cs s (mr_up h a (.inr (.inr (.inr (.inr (n, va_up f i.toNatClampNeg (some v))))))) H1 → W p l e R s m args below meth c H1 (locs ++ [⟨base + a, k⟩]) cells slots Q (F0 m (pc + 1) ls rest)) : W p l e R s m args below meth c H locs cells slots Q (F0 m pc ls (.ref (base + v) :: .int i :: .ref (base + a) :: rest)) := by
  obtain ⟨hx, hb, hml, hown, hts, hK, -⟩ := hX
  have hat := hw.at ha (fun z => by cases z)
  have hlt : i.toNatClampNeg < n := Nat.not_le.mp fun z => hi (Or.inr z)
  have h0 : ¬ i < 0 := fun z => hi (Or.inl z)
  obtain ⟨r', hr', cellV, g1, g2, g3, -⟩ := hw.at hv (fun z => by injection z with z; injection z with z; cases z)
  have hcls := (hK.1.1 3 _ (mr_cl_at (by decide))).2
  obtain ⟨kA, comp, k1, k2, k3, -⟩ := (hK.1.2 3 _ rfl).2
  have hcomp : comp = D.1 3 := Option.some.inj (k3.symm.trans hcls.1)
  subst hcomp
  obtain ⟨kC, hkC, -⟩ := hcls.2
  refine W.aast hx hb hat (fun z w => by cases w) (fun w => by cases w) k1 k2 rfl hkC ⟨h0, by show _ < (arrV _ _ _).slots.size; rw [arrV_size]; exact hlt⟩ g1 (fun z w => by rw [g3] at w; cases w) (by rw [g2]; exact hkC) (by rw [g2]; exact va_assign hcls) rfl rfl hd fun H1 e1 z oq => ?_
  refine kk H1 _ (hw.set (hw.lt (by rw [ha]; exact fun z => by cases z)) z oq ?_)
  show H1[base + a]? = some (vp_cell _ _)
  rw [e1]
  dsimp only
  rw [vp_cell_q, vp_cell_q, arrV_store]
  congr 2
  funext j
  by_cases hj : j = i.toNatClampNeg
  · subst hj; simp [updV, va_up, va_rf]
  · simp [updV, va_up, hj]
theorem mr_r_new (hX : mr_x p R s m args meth c D cs q) (hq : mr_M[M]? = some q) (hw : mr_w D b base cs s h H) {x ci : Nat} (hn : mr_nl M x = some ci) (hcells : cells + 1 ≤ R.cells) (hslots : slots + mr_N ci ≤ R.slots) (hd : decode (mr_bytes q) pc = .ok (.new x, 3))
    (kk : ∀ (H1 : Heap), mr_w D b base cs s (mr_add h (mr_N ci) (.inl (ci, mr_dfs ci))) H1 → W p l e R s m args below meth c H1 locs (cells + 1) (slots + mr_N ci) Q (F0 m (pc + 3) ls (.ref (base + h.2.1) :: rest))) : W p l e R s m args below meth c H locs cells slots Q (F0 m pc ls rest) := by
  obtain ⟨hx, hb, hml, hown, hts, hK, -⟩ := hX
  obtain ⟨h1, h2, h3, h4⟩ := mr_nl_ok hq hn
  obtain ⟨y1, y2, y3, y4⟩ := mr_Y h1
  have hKn := hK.1.1 ci _ (mr_cl_at h1)
  refine W.newcK hx hb hown (hts _ h2) (hts _ h3) (hts _ h4) rfl hd hcells hslots hKn.2.1 hw.1 fun H1 kC hkC e1 z1 o1 => ?_
  refine kk H1 (hw.add (by rw [z1, hw.1]) (fun z hz => o1 z (by rw [← hw.1]; exact hz)) ⟨_, mr_cl_at h1, (u_born (mr_ty ci) hts y1 hKn hkC e1 y2).to (fun j hj => ?_)⟩)
  have hj' : j < mr_N ci := hj
  have : defaultValue (mr_ty ci j) = mr_v b base (defaultValue (mr_ty ci j)) := by cases mr_ty ci j <;> rfl
  simp only [vp_V, mr_dfs, List.getD_eq_getElem?_getD, List.getElem?_map, List.getElem?_range hj', Option.map_some, Option.getD_some]
  exact this
theorem mr_r_nar (hX : mr_x p R s m args meth c D cs q) (hw : mr_w D b base cs s h H) {at_ : ArrayType} {ty : FieldType} {cA : ClassId} {n : Int32} {ce : mr_c} {a0 : vp_A} (hA : (Cond.arrayClass ty) ∈ mr_tt) (hty : newarray.typeOf at_ = ty) (hf : s.vm.findClass ("[" ++ ty.toString) = some cA) (he : mr_e b base cs ce = .inl (cA, a0)) (ha : vp_cell cA a0 = arrV cA n.toNatClampNeg (fun _ => defaultValue ty))
    (hn : ¬ n < 0) (hn2 : n.toNatClampNeg ≤ 10000) (h8 : componentBytes ty ≤ 8) (hcells : cells + 1 ≤ R.cells) (hslots : slots + n.toNatClampNeg ≤ R.slots) (hd : decode (mr_bytes q) pc = .ok (.newarray at_, 2))
    (kk : ∀ (H1 : Heap), mr_w D b base cs s (mr_add h n.toNatClampNeg ce) H1 → W p l e R s m args below meth c H1 locs (cells + 1) (slots + n.toNatClampNeg) Q (F0 m (pc + 2) ls (.ref (base + h.2.1) :: rest))) : W p l e R s m args below meth c H locs cells slots Q (F0 m pc ls (.int n :: rest)) := by
  obtain ⟨hx, hb, hml, hown, hts, hK, -⟩ := hX
  subst hty
  refine va_newaK hx hb (hts _ hA) rfl hd rfl hn rfl (Nat.le_trans (Nat.mul_le_mul hn2 h8) (by decide)) hcells hslots hw.1 fun H1 cA' e1 z1 o1 hAr hNm => ?_
  cases hf.symm.trans hNm
  refine kk H1 (hw.add (by rw [z1, hw.1]) (fun z hz => o1 z (by rw [← hw.1]; exact hz)) ?_)
  rw [he]
  show H1[base + h.2.1]? = some (vp_cell cA a0)
  rw [ha]
  exact e1
theorem mr_r_naq (hX : mr_x p R s m args meth c D cs q) (hq : mr_M[M]? = some q) (hw : mr_w D b base cs s h H) {x : Nat} {n : Int32} (hnl : mr_nl M x = some 3) (hn : ¬ n < 0) (hn2 : n.toNatClampNeg ≤ 10000) (hcells : cells + 1 ≤ R.cells) (hslots : slots + n.toNatClampNeg ≤ R.slots) (hd : decode (mr_bytes q) pc = .ok (.anewarray x, 3))
    (kk : ∀ (H1 : Heap), mr_w D b base cs s (mr_add h n.toNatClampNeg (.inr (.inr (.inr (.inr (n.toNatClampNeg, fun _ => none)))))) H1 → W p l e R s m args below meth c H1 locs (cells + 1) (slots + n.toNatClampNeg) Q (F0 m (pc + 3) ls (.ref (base + h.2.1) :: rest))) : W p l e R s m args below meth c H locs cells slots Q (F0 m pc ls (.int n :: rest)) := by
  obtain ⟨hx, hb, hml, hown, hts, hK, -⟩ := hX
  obtain ⟨h1, h2, h3, h4⟩ := mr_nl_ok hq hnl
  refine W.anew (C := "ReachLabels$Net") hx hb hown (hts _ h2) (va_AO.use hK.2.2) rfl hd rfl hn (Nat.le_trans (Nat.mul_le_mul_right 4 hn2) (by decide)) hcells hslots fun cA kA comp f1 f2 f3 f4 => ?_
  obtain ⟨kA', comp', k1, k2, k3, k4⟩ := (hK.1.2 3 _ rfl).2
  cases f1.symm.trans k4
  have hs := hw.1
  rw [hs]
  refine kk _ (hw.add (by simp) (fun z hz => by rw [Array.getElem?_push, if_neg (Nat.ne_of_lt hz)]) ?_)
  show (H.push _)[base + h.2.1]? = some (vp_cell _ _)
  rw [← hs]
  rw [Array.getElem?_push, if_pos rfl]
  rw [arrV_new]
  rfl
theorem mr_r_copy (hX : mr_x p R s m args meth c D cs q) (hq : mr_M[M]? = some q) (hw : mr_w D b base cs s h H) {x a a0 n0 n1 : Nat} {f g : Nat → Int32} {sp dp n : Int32} (hls : ls.size = c.maxLocals) (ht : mr_tl M x = some 1000) (ha0 : h.1 a0 = .inr (.inl (n0, f))) (ha1 : h.1 a = .inr (.inl (n1, g)))
    (h1 : ¬ sp < 0) (h2 : ¬ dp < 0) (h3 : ¬ n < 0) (h4 : sp.toNatClampNeg + n.toNatClampNeg ≤ n0) (h5 : dp.toNatClampNeg + n.toNatClampNeg ≤ n1) (hr : (rest.map fun v => v.category).sum ≤ 4) (h36 : 1 ≤ mr_hg q) (hnf : nativeFrameWords "java/lang/System" "arraycopy" 5 + 11 ≤ 32) (hd : decode (mr_bytes q) pc = .ok (.invokestatic x, 3))
    (kk : ∀ (H1 : Heap) (L : List Loc), (∀ z ∈ L, z.base = base + a) → mr_w D b base cs s (mr_up h a (.inr (.inl (n1, va_cpy f g sp.toNatClampNeg dp.toNatClampNeg n.toNatClampNeg)))) H1 → W p l e R s m args below meth c H1 (locs ++ L) cells slots Q (F0 m (pc + 3) ls rest)) :
    W p l e R s m args below meth c H locs cells slots Q (F0 m pc ls (.int n :: .int dp :: .ref (base + a) :: .int sp :: .ref (base + a0) :: rest)) := by
  obtain ⟨hx, hb, hml, hown, hts, hK, hfr, hlo, -⟩ := hX
  have nn : ∀ z : Int32, ¬ z < 0 → z.toInt = (z.toNatClampNeg : Int) := by
    intro z hz
    have hz0 : (0 : Int) ≤ z.toInt := by
      have := Int32.not_lt.mp hz
      simpa using Int32.le_iff_toInt_le.mp this
    show z.toInt = ((z.toInt.toNat : Nat) : Int)
    omega
  have hlink : (Cond.methodLink (mr_name q.1) x arraycopyName).before args s = true := by
    exact hts _ (mr_tl_sys hq ht (by decide))
  intro T hT X
  have hc0 : H[base + a0]? = some (vp_cell cs.1 (n0, .inl f)) := hw.at ha0 (fun z => by cases z)
  have hc1 : H[base + a]? = some (vp_cell cs.1 (n1, .inl g)) := hw.at ha1 (fun z => by cases z)
  obtain ⟨-, k0, hk0, cm0, hkk0⟩ := (hK.1.2 0 _ rfl).1 n0 (fun j => .int (f j))
  obtain ⟨-, k1, hk1, cm1, hkk1⟩ := (hK.1.2 0 _ rfl).1 n1 (fun j => .int (g j))
  obtain ⟨vm', X', step⟩ := X.arraycopy hx hown hlink (hts _ (mr_tt_in mr_w_nat rfl)) (hts _ (mr_tt_in mr_w_sac rfl)) (hts _ (mr_tt_in mr_w_sys rfl)) (src := base + a0) (dst := base + a) (cs := vp_cell cs.1 (n0, .inl f)) (cd := vp_cell cs.1 (n1, .inl g)) (srcPos := sp) (destPos := dp) (n := n) (by rw [hT]; exact hc0) (by rw [hT]; exact hc1)
    (fun _ z => by cases z) (fun _ z => by cases z) (fun z => by cases z) (fun z => by cases z) hk0 hk1 hkk0 hkk1 (by simp [refKind]) h1 h2 h3
    (by rw [nn sp h1, nn n h3]; show ¬ _ > ((arrV cs.1 n0 (fun j => .int (f j))).slots.size : Int); rw [arrV_size]; omega)
    (by rw [nn dp h2, nn n h3]; show ¬ _ > ((arrV cs.1 n1 (fun j => .int (g j))).slots.size : Int); rw [arrV_size]; omega)
    (fun vm₁ _ i hi => by
      have e : (vp_cell cs.1 (n0, .inl f)).slots.getD (sp.toNatClampNeg + i) .null = .int (f (sp.toNatClampNeg + i)) := by
        show (arrV cs.1 n0 (fun j => .int (f j))).slots.getD _ _ = _
        rw [Array.getD_eq_getD_getElem?, arrV_read _ _ (by omega)]
        rfl
      refine ⟨?_, ?_⟩
      · rw [e]
        rfl
      · rw [e]
        exact trivial)
    (g := F0 m pc ls (.int n :: .int dp :: .ref (base + a) :: .int sp :: .ref (base + a0) :: rest)) rfl (by exact hls) (rest := rest) rfl (by rw [hb]; exact hd) (by omega) (by show 2 * 0 + _ + _ ≤ _; omega)
  have e1 : copied (vp_cell cs.1 (n0, .inl f)) (vp_cell cs.1 (n1, .inl g)) sp dp n = vp_cell cs.1 (n1, .inl (va_cpy f g sp.toNatClampNeg dp.toNatClampNeg n.toNatClampNeg)) := va_copied (fun z => .int z) cs.1 cs.1 f g h4
  rw [e1] at X' step
  have hl : base + a < H.size := (Array.getElem?_eq_some_iff.mp hc1).1
  have hheap : ((T.setVm vm').setCell (base + a) (vp_cell cs.1 (n1, .inl (va_cpy f g sp.toNatClampNeg dp.toNatClampNeg n.toNatClampNeg)))).heap = H.setIfInBounds (base + a) (vp_cell cs.1 (n1, .inl (va_cpy f g sp.toNatClampNeg dp.toNatClampNeg n.toNatClampNeg))) := by rw [← hT]; rfl
  obtain ⟨t, a1, b1⟩ := kk _ _ (fun z hz => by obtain ⟨w, -, hw⟩ := List.mem_map.mp hz; rw [← hw]) (hw.set (hw.lt (by rw [ha1]; exact fun z => by cases z)) (by simp) (fun z hz => by simp [Array.getElem?_setIfInBounds, Ne.symm hz]) (show (H.setIfInBounds (base + a) _)[base + a]? = some _ by simp [Array.getElem?_setIfInBounds, hl])) _ hheap X'
  exact ⟨t, step t a1, b1⟩
end MRH
end
section
/-! one instruction of the mirror, any -/
theorem mr_stk_sum {b base n : Nat} {st : List Value} (h : st.length ≤ n) : ((st.map (mr_v b base)).map fun v => v.category).sum ≤ 2 * n := by
  induction st generalizing n with
  | nil => simp
  | cons v vs ih =>
    cases n with
    | zero => simp at h
    | succ k =>
      have h1 := ih (n := k) (by simpa using h)
      have h2 : (mr_v b base v).category ≤ 2 := by rcases lv_cat (mr_v b base v) with z | z <;> omega
      simp only [List.map_cons, List.sum_cons]
      omega
section MRS
variable {p : Program} {l : Launch} {e : Env} {R : Room} {s : State} {m : MethodId} {args : Array Value} {below : List Frame} {meth : Method} {c : Code} {H : Heap} {locs : List Loc} {cells slots : Nat} {Q : State → Prop}
variable {pc : Nat} {ls : Array Slot} {D : va_G} {b base : Nat} {cs : mr_q} {h h' : mr_h} {q : mr_R} {M : Nat}
set_option maxHeartbeats 4000000 in
theorem mr_one_snd (hX : mr_x p R s m args meth c D cs q) (hq : mr_M[M]? = some q) {i : Instr} {len : Nat} (hd : decode (mr_bytes q) pc = .ok (i, len)) {lv st lv' st' : List Value} {pc' : Nat} (ho : mr_one M i len pc lv st h = some (pc', lv', st', h')) (hw : mr_w D b base cs s h H) (hl : mr_lv b base lv ls c.maxLocals)
    (hloc : ∀ z ∈ locs, base ≤ z.base) (hcr : cells ≤ R.cells) (hsr : slots ≤ R.slots) (hcs : cells + (h'.2.1 - h.2.1) ≤ R.cells) (hss : slots + (h'.2.2.1 - h.2.2.1) ≤ R.slots)
    (kk : ∀ (H1 : Heap) (locs1 : List Loc) (ls1 : Array Slot), mr_w D b base cs s h' H1 → mr_lv b base lv' ls1 c.maxLocals → (∀ z ∈ locs1, base ≤ z.base) → W p l e R s m args below meth c H1 locs1 (cells + (h'.2.1 - h.2.1)) (slots + (h'.2.2.1 - h.2.2.1)) Q (F0 m pc' ls1 (st'.map (mr_v b base)))) :
    W p l e R s m args below meth c H locs cells slots Q (F0 m pc ls (st.map (mr_v b base))) := by
  have hx := hX.1
  have hb := hX.2.1
  have hown := hX.2.2.2.1
  have hts := hX.2.2.2.2.1
  have K0 : h' = h → ∀ ls1, mr_lv b base lv' ls1 c.maxLocals → W p l e R s m args below meth c H locs cells slots Q (F0 m pc' ls1 (st'.map (mr_v b base))) := fun e0 ls1 hl1 =>
    W.cs (by rw [e0]; omega) (by rw [e0]; omega) (kk H locs ls1 (by rw [e0]; exact hw) hl1 hloc)
  have KL : ∀ (H1 : Heap) (L : List Loc), h'.2 = h.2 → (∀ z ∈ L, base ≤ z.base) → mr_w D b base cs s h' H1 → mr_lv b base lv' ls c.maxLocals → W p l e R s m args below meth c H1 (locs ++ L) cells slots Q (F0 m pc' ls (st'.map (mr_v b base))) := fun H1 L e0 hL hw1 hl1 =>
    W.cs (by rw [e0]; omega) (by rw [e0]; omega) (kk H1 (locs ++ L) ls hw1 hl1 (fun z hz => (List.mem_append.mp hz).elim (hloc z) (hL z)))
  cases i with
  | iconst n =>
    simp only [mr_one] at ho
    split at ho
    · rename_i e0
      subst e0
      cases ho
      exact lv_iconst hx hb hd rfl (K0 rfl ls hl)
    · cases ho
  | bipush n =>
    simp only [mr_one] at ho
    split at ho
    · rename_i e0
      subst e0
      cases ho
      exact lv_bipush hx hb hd rfl (K0 rfl ls hl)
    · cases ho
  | sipush n =>
    simp only [mr_one] at ho
    split at ho
    · rename_i e0
      subst e0
      cases ho
      exact lv_sipush hx hb hd rfl (K0 rfl ls hl)
    · cases ho
  | lconst n =>
    simp only [mr_one] at ho
    split at ho
    · rename_i e0
      subst e0
      cases ho
      exact lv_lconst hx hb hd rfl (K0 rfl ls hl)
    · cases ho
  | ldc_w x =>
    simp only [mr_one] at ho
    split at ho
    · rename_i e0
      subst e0
      obtain ⟨v, h1, h2⟩ := Option.map_eq_some_iff.mp ho
      cases h2
      exact lv_ldcw hx hb hown (hts _ (mr_ik_ok hq h1)) hd (K0 rfl ls hl)
    · cases ho
  | ldc2_w x =>
    simp only [mr_one] at ho
    split at ho
    · rename_i e0
      subst e0
      obtain ⟨v, h1, h2⟩ := Option.map_eq_some_iff.mp ho
      cases h2
      exact lv_ldc2 hx hb hown (hts _ (mr_jk_ok hq h1)) hd (K0 rfl ls hl)
    · cases ho
  | iload_n k =>
    obtain ⟨x, e1, e2, hz⟩ := mr_ldi_inv (show _ = _ from ho)
    subst e1
    cases hz
    exact lv_iload_n hx hb hd rfl (hl.get e2 (fun z => by cases z)) (K0 rfl ls hl)
  | iload k =>
    obtain ⟨x, e1, e2, hz⟩ := mr_ldi_inv (show _ = _ from ho)
    subst e1
    cases hz
    exact lv_iload hx hb hd (hl.get e2 (fun z => by cases z)) (K0 rfl ls hl)
  | lload_n k =>
    obtain ⟨x, e1, e2, hz⟩ := mr_ldl_inv (show _ = _ from ho)
    subst e1
    cases hz
    exact lv_lload_n hx hb hd rfl (hl.get e2 (fun z => by cases z)) (K0 rfl ls hl)
  | lload k =>
    obtain ⟨x, e1, e2, hz⟩ := mr_ldl_inv (show _ = _ from ho)
    subst e1
    cases hz
    exact lv_lload hx hb hd (hl.get e2 (fun z => by cases z)) (K0 rfl ls hl)
  | aload_n k =>
    obtain ⟨x, e1, e2, hz, hn, hv⟩ := mr_lda_inv (show _ = _ from ho)
    subst e1
    cases hz
    obtain ⟨a, ha⟩ := hv b base
    have h1 := hl.get e2 hn
    rw [ha] at h1
    have h2 := K0 rfl ls hl
    rw [List.map_cons, ha] at h2
    exact lv_aload_n hx hb hd rfl h1 h2
  | istore_n k =>
    obtain ⟨x, r, lw, e1, e2, e3, hz⟩ := mr_sti_inv (show _ = _ from ho)
    subst e1
    subst e2
    cases hz
    exact lv_istore_n hx hb hd rfl hl.2 (by rw [← hl.1]; exact mr_set1_lt e3) rfl (fun ls1 hl1 => K0 rfl ls1 (hl.set1 e3 hl1))
  | istore k =>
    obtain ⟨x, r, lw, e1, e2, e3, hz⟩ := mr_sti_inv (show _ = _ from ho)
    subst e1
    subst e2
    cases hz
    exact lv_istore hx hb hd hl.2 (by rw [← hl.1]; exact mr_set1_lt e3) rfl (fun ls1 hl1 => K0 rfl ls1 (hl.set1 e3 hl1))
  | lstore_n k =>
    obtain ⟨x, r, lw, e1, e2, e3, hz⟩ := mr_stl_inv (show _ = _ from ho)
    subst e1
    subst e2
    cases hz
    exact lv_lstore_n hx hb hd rfl hl.2 (by rw [← hl.1]; exact mr_set2_lt e3) rfl (fun ls1 hl1 => K0 rfl ls1 (hl.set2 e3 hl1))
  | lstore k =>
    obtain ⟨x, r, lw, e1, e2, e3, hz⟩ := mr_stl_inv (show _ = _ from ho)
    subst e1
    subst e2
    cases hz
    exact lv_lstore hx hb hd hl.2 (by rw [← hl.1]; exact mr_set2_lt e3) rfl (fun ls1 hl1 => K0 rfl ls1 (hl.set2 e3 hl1))
  | astore_n k =>
    obtain ⟨x, r, lw, e1, e2, e3, hz⟩ := mr_sta_inv (show _ = _ from ho)
    subst e1
    subst e2
    cases hz
    exact lv_astore_n hx hb hd rfl hl.2 (by rw [← hl.1]; exact mr_set1_lt e3) rfl (fun ls1 hl1 => K0 rfl ls1 (hl.set1 e3 hl1))
  | iinc k n =>
    simp only [mr_one] at ho
    split at ho
    · rename_i e0
      subst e0
      split at ho
      · rename_i x e2
        obtain ⟨lw, h1, h2⟩ := Option.map_eq_some_iff.mp ho
        cases h2
        obtain ⟨j, hj⟩ := List.getElem?_of_mem (mr_lvl_mem (b := b) (base := base) e2 (fun z => by cases z))
        exact lv_iinc hx hb hd hl.2 hj rfl (by rw [← hl.1]; exact mr_set1_lt h1) rfl (fun ls1 hl1 => K0 rfl ls1 (hl.set1 h1 hl1))
      · cases ho
    · cases ho
  | iadd =>
    obtain ⟨x, y, r, e1, e2, hz⟩ := mr_b2_inv (show mr_b2 _ _ _ _ _ _ = _ from ho)
    subst e1
    subst e2
    cases hz
    exact lv_iadd hx hb hd (K0 rfl ls hl)
  | isub =>
    obtain ⟨x, y, r, e1, e2, hz⟩ := mr_b2_inv (show mr_b2 _ _ _ _ _ _ = _ from ho)
    subst e1
    subst e2
    cases hz
    exact lv_isub hx hb hd (K0 rfl ls hl)
  | imul =>
    obtain ⟨x, y, r, e1, e2, hz⟩ := mr_b2_inv (show mr_b2 _ _ _ _ _ _ = _ from ho)
    subst e1
    subst e2
    cases hz
    exact lv_imul hx hb hd (K0 rfl ls hl)
  | iand =>
    obtain ⟨x, y, r, e1, e2, hz⟩ := mr_b2_inv (show mr_b2 _ _ _ _ _ _ = _ from ho)
    subst e1
    subst e2
    cases hz
    exact lv_iand hx hb hd (K0 rfl ls hl)
  | ior =>
    obtain ⟨x, y, r, e1, e2, hz⟩ := mr_b2_inv (show mr_b2 _ _ _ _ _ _ = _ from ho)
    subst e1
    subst e2
    cases hz
    exact lv_ior hx hb hd (K0 rfl ls hl)
  | ixor =>
    obtain ⟨x, y, r, e1, e2, hz⟩ := mr_b2_inv (show mr_b2 _ _ _ _ _ _ = _ from ho)
    subst e1
    subst e2
    cases hz
    exact lv_ixor hx hb hd (K0 rfl ls hl)
  | ishl =>
    obtain ⟨x, y, r, e1, e2, hz⟩ := mr_b2_inv (show mr_b2 _ _ _ _ _ _ = _ from ho)
    subst e1
    subst e2
    cases hz
    exact lv_ishl hx hb hd (K0 rfl ls hl)
  | ishr =>
    obtain ⟨x, y, r, e1, e2, hz⟩ := mr_b2_inv (show mr_b2 _ _ _ _ _ _ = _ from ho)
    subst e1
    subst e2
    cases hz
    exact lv_ishr hx hb hd (K0 rfl ls hl)
  | iushr =>
    obtain ⟨x, y, r, e1, e2, hz⟩ := mr_b2_inv (show mr_b2 _ _ _ _ _ _ = _ from ho)
    subst e1
    subst e2
    cases hz
    exact lv_iushr hx hb hd rfl (K0 rfl ls hl)
  | ladd =>
    obtain ⟨x, y, r, e1, e2, hz⟩ := mr_l2_inv (show mr_l2 _ _ _ _ _ _ = _ from ho)
    subst e1
    subst e2
    cases hz
    exact lv_ladd hx hb hd (K0 rfl ls hl)
  | lmul =>
    obtain ⟨x, y, r, e1, e2, hz⟩ := mr_l2_inv (show mr_l2 _ _ _ _ _ _ = _ from ho)
    subst e1
    subst e2
    cases hz
    exact lv_lmul hx hb hd (K0 rfl ls hl)
  | idiv =>
    simp only [mr_one] at ho
    split at ho
    · split at ho
      · cases ho
      · rename_i hne
        obtain ⟨x, y, r, e1, e2, hz⟩ := mr_b2_inv ho
        subst e1
        cases e2
        cases hz
        exact lv_idiv hx hb hd hne (K0 rfl ls hl)
    · cases ho
  | irem =>
    simp only [mr_one] at ho
    split at ho
    · split at ho
      · cases ho
      · rename_i hne
        obtain ⟨x, y, r, e1, e2, hz⟩ := mr_b2_inv ho
        subst e1
        cases e2
        cases hz
        exact lv_irem hx hb hd hne (K0 rfl ls hl)
    · cases ho
  | ldiv =>
    simp only [mr_one] at ho
    split at ho
    · split at ho
      · cases ho
      · rename_i hne
        obtain ⟨x, y, r, e1, e2, hz⟩ := mr_l2_inv ho
        subst e1
        cases e2
        cases hz
        exact lv_ldiv hx hb hd hne (K0 rfl ls hl)
    · cases ho
  | lrem =>
    simp only [mr_one] at ho
    split at ho
    · split at ho
      · cases ho
      · rename_i hne
        obtain ⟨x, y, r, e1, e2, hz⟩ := mr_l2_inv ho
        subst e1
        cases e2
        cases hz
        exact lv_lrem hx hb hd hne (K0 rfl ls hl)
    · cases ho
  | lcmp =>
    simp only [mr_one] at ho
    split at ho
    · rename_i e0
      subst e0
      split at ho
      · cases ho; exact W.lcmp hx hb hd (K0 rfl ls hl)
      · cases ho
    · cases ho
  | i2l =>
    simp only [mr_one] at ho
    split at ho
    · rename_i e0
      subst e0
      split at ho
      · cases ho; exact lv_i2l hx hb hd rfl (K0 rfl ls hl)
      · cases ho
    · cases ho
  | l2i =>
    simp only [mr_one] at ho
    split at ho
    · rename_i e0
      subst e0
      split at ho
      · cases ho; exact lv_l2i hx hb hd rfl (K0 rfl ls hl)
      · cases ho
    · cases ho
  | dup =>
    simp only [mr_one] at ho
    split at ho
    · rename_i e0
      subst e0
      split at ho
      · split at ho
        · rename_i hc; cases ho; exact lv_dup hx hb hd (by rw [mr_v_cat]; exact hc) (K0 rfl ls hl)
        · cases ho
      · cases ho
    · cases ho
  | pop =>
    simp only [mr_one] at ho
    split at ho
    · rename_i e0
      subst e0
      split at ho
      · split at ho
        · rename_i hc; cases ho; exact lv_pop hx hb hd (by rw [mr_v_cat]; exact hc) (K0 rfl ls hl)
        · cases ho
      · cases ho
    · cases ho
  | dup2 =>
    simp only [mr_one] at ho
    split at ho
    · rename_i e0
      subst e0
      split at ho
      · split at ho
        · rename_i hc; cases ho; exact lv_dup2_11 hx hb hd (by rw [mr_v_cat]; exact hc.1) (by rw [mr_v_cat]; exact hc.2) (K0 rfl ls hl)
        · cases ho
      · cases ho
    · cases ho
  | goto off =>
    simp only [mr_one] at ho
    split at ho
    · rename_i e0
      subst e0
      obtain ⟨t, ht, hz⟩ := mr_jmp_inv ho
      cases hz
      exact lv_goto hx hb hd ht (K0 rfl ls hl)
    · cases ho
  | ifCond cnd off =>
    simp only [mr_one] at ho
    split at ho
    · rename_i e0
      obtain ⟨e1, e2⟩ := e0
      subst e1
      split at ho
      · rcases mr_ite_inv ho with ⟨hc, h2⟩ | ⟨hc, h2⟩
        · obtain ⟨t, ht, hz⟩ := mr_jmp_inv h2
          cases hz
          cases cnd
          · exact lv_if_eq hx hb hd ht (fun _ => K0 rfl ls hl) (fun z => absurd hc z)
          · exact lv_if_ne hx hb hd ht (fun _ => K0 rfl ls hl) (fun z => absurd z hc)
          · exact lv_if_lt hx hb hd ht (fun _ => K0 rfl ls hl) (fun z => absurd hc z)
          · exact lv_if_ge hx hb hd ht (fun _ => K0 rfl ls hl) (fun z => absurd hc z)
          · exact lv_if_gt hx hb hd ht (fun _ => K0 rfl ls hl) (fun z => absurd hc z)
          · exact lv_if_le hx hb hd ht (fun _ => K0 rfl ls hl) (fun z => absurd hc z)
        · cases h2
          cases cnd
          · exact lv_if_eq hx hb hd (Int.toNat_of_nonneg e2).symm (fun z => absurd z hc) (fun _ => K0 rfl ls hl)
          · exact lv_if_ne hx hb hd (Int.toNat_of_nonneg e2).symm (fun z => absurd z hc) (fun _ => K0 rfl ls hl)
          · exact lv_if_lt hx hb hd (Int.toNat_of_nonneg e2).symm (fun z => absurd z hc) (fun _ => K0 rfl ls hl)
          · exact lv_if_ge hx hb hd (Int.toNat_of_nonneg e2).symm (fun z => absurd z hc) (fun _ => K0 rfl ls hl)
          · exact lv_if_gt hx hb hd (Int.toNat_of_nonneg e2).symm (fun z => absurd z hc) (fun _ => K0 rfl ls hl)
          · exact lv_if_le hx hb hd (Int.toNat_of_nonneg e2).symm (fun z => absurd z hc) (fun _ => K0 rfl ls hl)
      · cases ho
    · cases ho
  | if_icmp cnd off =>
    simp only [mr_one] at ho
    split at ho
    · rename_i e0
      obtain ⟨e1, e2⟩ := e0
      subst e1
      split at ho
      · rcases mr_ite_inv ho with ⟨hc, h2⟩ | ⟨hc, h2⟩
        · obtain ⟨t, ht, hz⟩ := mr_jmp_inv h2
          cases hz
          cases cnd
          · exact lv_icmp_eq hx hb hd ht (fun _ => K0 rfl ls hl) (fun z => absurd hc z)
          · exact lv_icmp_ne hx hb hd ht (fun _ => K0 rfl ls hl) (fun z => absurd z hc)
          · exact lv_icmp_lt hx hb hd ht (fun _ => K0 rfl ls hl) (fun z => absurd hc z)
          · exact lv_icmp_ge hx hb hd ht (fun _ => K0 rfl ls hl) (fun z => absurd hc z)
          · exact lv_icmp_gt hx hb hd ht (fun _ => K0 rfl ls hl) (fun z => absurd hc z)
          · exact lv_icmp_le hx hb hd ht (fun _ => K0 rfl ls hl) (fun z => absurd hc z)
        · cases h2
          cases cnd
          · exact lv_icmp_eq hx hb hd (Int.toNat_of_nonneg e2).symm (fun z => absurd z hc) (fun _ => K0 rfl ls hl)
          · exact lv_icmp_ne hx hb hd (Int.toNat_of_nonneg e2).symm (fun z => absurd z hc) (fun _ => K0 rfl ls hl)
          · exact lv_icmp_lt hx hb hd (Int.toNat_of_nonneg e2).symm (fun z => absurd z hc) (fun _ => K0 rfl ls hl)
          · exact lv_icmp_ge hx hb hd (Int.toNat_of_nonneg e2).symm (fun z => absurd z hc) (fun _ => K0 rfl ls hl)
          · exact lv_icmp_gt hx hb hd (Int.toNat_of_nonneg e2).symm (fun z => absurd z hc) (fun _ => K0 rfl ls hl)
          · exact lv_icmp_le hx hb hd (Int.toNat_of_nonneg e2).symm (fun z => absurd z hc) (fun _ => K0 rfl ls hl)
      · cases ho
    · cases ho
  | tableswitch d lo hi offs =>
    simp only [mr_one] at ho
    split at ho
    · split at ho
      · rename_i hc
        obtain ⟨t, ht, hz⟩ := mr_jmp_inv ho
        cases hz
        exact lv_tableOut hx hb hd hc ht (K0 rfl ls hl)
      · rename_i hc
        split at ho
        · rename_i o eo
          obtain ⟨t, ht, hz⟩ := mr_jmp_inv ho
          cases hz
          exact lv_tableIn hx hb hd (fun z => hc (Or.inl z)) (fun z => hc (Or.inr z)) eo ht (K0 rfl ls hl)
        · cases ho
    · cases ho
  | lookupswitch d ps =>
    simp only [mr_one] at ho
    split at ho
    · split at ho
      · rename_i hc
        obtain ⟨t, ht, hz⟩ := mr_jmp_inv ho
        cases hz
        exact lv_lookup hx hb hd hc rfl ht (K0 rfl ls hl)
      · cases ho
    · cases ho
  | getfield x =>
    simp only [mr_one, mr_get] at ho
    split at ho
    · rename_i e0
      subst e0
      split at ho
      · split at ho
        · rename_i ha hg
          split at ho
          · rename_i ec
            subst ec
            obtain ⟨v, h1, h2⟩ := Option.map_eq_some_iff.mp ho
            cases h2
            exact mr_r_get hX hq hw ha hg h1 hd (K0 rfl ls hl)
          · cases ho
        · cases ho
      · cases ho
    · cases ho
  | putfield x =>
    simp only [mr_one, mr_put] at ho
    split at ho
    · rename_i e0
      subst e0
      split at ho
      · split at ho
        · rename_i ha hg
          split at ho
          · rename_i ec
            obtain ⟨ec, h1, h2, h3⟩ := ec
            subst ec
            cases ho
            exact mr_r_put hX hq hw ha hg h1 h2 h3 hd (fun H1 f hw1 => KL H1 _ rfl (fun z hz => by rw [List.mem_singleton.mp hz]; exact Nat.le_add_right _ _) hw1 hl)
          · cases ho
        · cases ho
      · cases ho
    · cases ho
  | iaload =>
    simp only [mr_one, mr_ald] at ho
    split at ho
    · rename_i e0
      subst e0
      split at ho
      · split at ho
        · rename_i ha
          split at ho
          · cases ho
          · rename_i hc
            cases ho
            exact mr_r_iald hX hw ha hc hd (K0 rfl ls hl)
        · cases ho
      · split at ho
        · cases ho
        · rename_i hc
          cases ho
          exact mr_r_sld hX hw hc hd (K0 rfl ls hl)
      · cases ho
    · cases ho
  | iastore =>
    simp only [mr_one, mr_ast] at ho
    split at ho
    · rename_i e0
      subst e0
      split at ho
      · split at ho
        · rename_i ha
          split at ho
          · cases ho
          · rename_i hc
            cases ho
            exact mr_r_iast hX hw ha hc hd (fun H1 f hw1 => KL H1 _ rfl (fun z hz => by rw [List.mem_singleton.mp hz]; exact Nat.le_add_right _ _) hw1 hl)
        · cases ho
      · cases ho
    · cases ho
  | laload =>
    simp only [mr_one, mr_lld] at ho
    split at ho
    · rename_i e0
      subst e0
      split at ho
      · split at ho
        · rename_i ha
          split at ho
          · cases ho
          · rename_i hc
            cases ho
            exact mr_r_lald hX hw ha hc hd (K0 rfl ls hl)
        · cases ho
      · cases ho
    · cases ho
  | lastore =>
    simp only [mr_one, mr_lst] at ho
    split at ho
    · rename_i e0
      subst e0
      split at ho
      · split at ho
        · rename_i ha
          split at ho
          · cases ho
          · rename_i hc
            cases ho
            exact mr_r_last hX hw ha hc hd (fun H1 f hw1 => KL H1 _ rfl (fun z hz => by rw [List.mem_singleton.mp hz]; exact Nat.le_add_right _ _) hw1 hl)
        · cases ho
      · cases ho
    · cases ho
  | baload =>
    simp only [mr_one, mr_zld] at ho
    split at ho
    · rename_i e0
      subst e0
      split at ho
      · split at ho
        · rename_i ha
          split at ho
          · cases ho
          · rename_i hc
            cases ho
            exact mr_r_zald hX hw ha hc hd (K0 rfl ls hl)
        · cases ho
      · cases ho
    · cases ho
  | bastore =>
    simp only [mr_one, mr_zst] at ho
    split at ho
    · rename_i e0
      subst e0
      split at ho
      · split at ho
        · rename_i ha
          split at ho
          · cases ho
          · rename_i hc
            cases ho
            exact mr_r_zast hX hw ha hc hd (fun H1 f hw1 => KL H1 _ rfl (fun z hz => by rw [List.mem_singleton.mp hz]; exact Nat.le_add_right _ _) hw1 hl)
        · cases ho
      · cases ho
    · cases ho
  | aaload =>
    simp only [mr_one, mr_qld] at ho
    split at ho
    · rename_i e0
      subst e0
      split at ho
      · split at ho
        · rename_i ha
          split at ho
          · cases ho
          · rename_i hc
            obtain ⟨k, h1, h2⟩ := Option.map_eq_some_iff.mp ho
            cases h2
            exact mr_r_qald hX hw ha hc h1 hd (K0 rfl ls hl)
        · cases ho
      · cases ho
    · cases ho
  | aastore =>
    simp only [mr_one, mr_qst] at ho
    split at ho
    · rename_i e0
      subst e0
      split at ho
      · split at ho
        · rename_i ha hv
          split at ho
          · cases ho
          · rename_i hc
            cases ho
            exact mr_r_qast hX hw ha hv hc hd (fun H1 f hw1 => KL H1 _ rfl (fun z hz => by rw [List.mem_singleton.mp hz]; exact Nat.le_add_right _ _) hw1 hl)
        · cases ho
      · cases ho
    · cases ho
  | arraylength =>
    simp only [mr_one] at ho
    split at ho
    · rename_i e0
      subst e0
      split at ho
      · cases ho; exact mr_r_slen hX hw hd (K0 rfl ls hl)
      · cases ho
    · cases ho
  | new x =>
    simp only [mr_one, mr_new] at ho
    split at ho
    · rename_i e0
      subst e0
      obtain ⟨ci, h1, h2⟩ := Option.map_eq_some_iff.mp ho
      cases h2
      have e1 : (mr_add h (mr_N ci) (.inl (ci, mr_dfs ci))).2.1 - h.2.1 = 1 := by show h.2.1 + 1 - h.2.1 = 1; omega
      have e2 : (mr_add h (mr_N ci) (.inl (ci, mr_dfs ci))).2.2.1 - h.2.2.1 = mr_N ci := by show h.2.2.1 + mr_N ci - h.2.2.1 = _; omega
      rw [e1] at hcs
      rw [e2] at hss
      rw [e1, e2] at kk
      exact mr_r_new hX hq hw h1 hcs hss hd (fun H1 hw1 => kk H1 locs ls hw1 hl hloc)
    · cases ho
  | newarray t =>
    simp only [mr_one, mr_nar] at ho
    split at ho
    · rename_i e0
      subst e0
      split at ho
      · rename_i n r
        split at ho
        · cases ho
        · rename_i hc
          have hn : ¬ n < 0 := fun z => hc (Or.inl z)
          have hn2 : n.toNatClampNeg ≤ 10000 := Nat.not_lt.mp fun z => hc (Or.inr z)
          split at ho
          · cases ho
            have e1 : ∀ ce, (mr_add h n.toNatClampNeg ce).2.1 - h.2.1 = 1 := fun ce => by show h.2.1 + 1 - h.2.1 = 1; omega
            have e2 : ∀ ce, (mr_add h n.toNatClampNeg ce).2.2.1 - h.2.2.1 = n.toNatClampNeg := fun ce => by show h.2.2.1 + n.toNatClampNeg - h.2.2.1 = _; omega
            rw [e1] at hcs
            rw [e2] at hss
            rw [e1, e2] at kk
            exact mr_r_nar hX hw (ty := .int) (mr_tt_in mr_w_aI rfl) rfl (hX.2.2.2.2.2.1.1.2 0 _ rfl).2 rfl rfl hn hn2 (by decide) hcs hss hd (fun H1 hw1 => kk H1 locs ls hw1 hl hloc)
          · cases ho
            have e1 : ∀ ce, (mr_add h n.toNatClampNeg ce).2.1 - h.2.1 = 1 := fun ce => by show h.2.1 + 1 - h.2.1 = 1; omega
            have e2 : ∀ ce, (mr_add h n.toNatClampNeg ce).2.2.1 - h.2.2.1 = n.toNatClampNeg := fun ce => by show h.2.2.1 + n.toNatClampNeg - h.2.2.1 = _; omega
            rw [e1] at hcs
            rw [e2] at hss
            rw [e1, e2] at kk
            exact mr_r_nar hX hw (ty := .long) (mr_tt_in mr_w_aJ rfl) rfl (hX.2.2.2.2.2.1.1.2 1 _ rfl).2 rfl rfl hn hn2 (by decide) hcs hss hd (fun H1 hw1 => kk H1 locs ls hw1 hl hloc)
          · cases ho
            have e1 : ∀ ce, (mr_add h n.toNatClampNeg ce).2.1 - h.2.1 = 1 := fun ce => by show h.2.1 + 1 - h.2.1 = 1; omega
            have e2 : ∀ ce, (mr_add h n.toNatClampNeg ce).2.2.1 - h.2.2.1 = n.toNatClampNeg := fun ce => by show h.2.2.1 + n.toNatClampNeg - h.2.2.1 = _; omega
            rw [e1] at hcs
            rw [e2] at hss
            rw [e1, e2] at kk
            exact mr_r_nar hX hw (ty := .boolean) (mr_tt_in mr_w_aZ rfl) rfl (hX.2.2.2.2.2.1.1.2 2 _ rfl).2 rfl rfl hn hn2 (by decide) hcs hss hd (fun H1 hw1 => kk H1 locs ls hw1 hl hloc)
          · cases ho
      · cases ho
    · cases ho
  | anewarray x =>
    simp only [mr_one, mr_naq] at ho
    split at ho
    · rename_i e0
      subst e0
      split at ho
      · rename_i n r
        split at ho
        · cases ho
        · rename_i hc
          split at ho
          · rename_i h1
            cases ho
            have e1 : ∀ ce, (mr_add h n.toNatClampNeg ce).2.1 - h.2.1 = 1 := fun ce => by show h.2.1 + 1 - h.2.1 = 1; omega
            have e2 : ∀ ce, (mr_add h n.toNatClampNeg ce).2.2.1 - h.2.2.1 = n.toNatClampNeg := fun ce => by show h.2.2.1 + n.toNatClampNeg - h.2.2.1 = _; omega
            rw [e1] at hcs
            rw [e2] at hss
            rw [e1, e2] at kk
            exact mr_r_naq hX hq hw h1 (fun z => hc (Or.inl z)) (Nat.not_lt.mp fun z => hc (Or.inr z)) hcs hss hd (fun H1 hw1 => kk H1 locs ls hw1 hl hloc)
          · cases ho
      · cases ho
    · cases ho
  | invokestatic x =>
    have hfr := hX.2.2.2.2.2.2.1
    have hlo := hX.2.2.2.2.2.2.2.1
    simp only [mr_one, mr_sta3] at ho
    split at ho
    · rename_i e0
      subst e0
      split at ho
      · rename_i ht
        have hh1 := mr_tl_hg hq ht
        split at ho
        · rename_i ha0 ha1
          split at ho
          · rename_i hc
            obtain ⟨c0, c1, c2, c3, c4, c5, c6⟩ := hc
            cases ho
            exact mr_r_copy hX hq hw hl.2.1 ht ha0 ha1 c1 c2 c3 c4 c5 (mr_stk_sum c6) hh1 (by decide +kernel) hd (fun H1 L hL hw1 => KL H1 L rfl (fun z hz => by rw [hL z hz]; exact Nat.le_add_right _ _) hw1 hl)
          · cases ho
        · cases ho
      · rename_i ht
        have hh1 := mr_tl_hg hq ht
        split at ho
        · rename_i hc
          cases ho
          have hsum := mr_stk_sum (b := b) (base := base) hc
          exact va_mmax hx hb hl.2.1.symm hown (hts _ (mr_tl_sys hq ht (by decide))) (hts _ (mr_tt_in mr_w_smax rfl)) (hts _ (mr_tt_in mr_w_math rfl)) (hts _ (mr_tt_in mr_w_max rfl)) (by omega) (by omega) hcr hsr hd (K0 rfl ls hl)
        · cases ho
      · rename_i ht
        have hh1 := mr_tl_hg hq ht
        split at ho
        · rename_i hc
          cases ho
          have hsum := mr_stk_sum (b := b) (base := base) hc
          exact va_mmin hx hb hl.2.1.symm hown (hts _ (mr_tl_sys hq ht (by decide))) (hts _ (mr_tt_in mr_w_smin rfl)) (hts _ (mr_tt_in mr_w_math rfl)) (hts _ (mr_tt_in mr_w_min rfl)) (by omega) (by omega) hcr hsr hd (K0 rfl ls hl)
        · cases ho
      · cases ho
    · cases ho
  | invokespecial x =>
    have hfr := hX.2.2.2.2.2.2.1
    have hlo := hX.2.2.2.2.2.2.2.1
    simp only [mr_one, mr_spe] at ho
    split at ho
    · rename_i e0
      subst e0
      split at ho
      · rename_i ht
        have hh1 := mr_tl_hg hq ht
        split at ho
        · rename_i hc
          cases ho
          have hsum := mr_stk_sum (b := b) (base := base) hc
          exact W.objInit hx hb hown (hts _ (mr_tl_sys hq ht (by decide))) (hts _ (mr_tt_in mr_w_oin rfl)) (hts _ (mr_tt_in mr_w_obj rfl)) rfl hl.2.1 rfl hd (by omega) (by show 2 * 0 + _ + 12 ≤ _; omega) (K0 rfl ls hl)
        · cases ho
      · cases ho
    · cases ho
  | _ => simp [mr_one] at ho
end MRS
end
section
/-! calls; and the whole: where the mirror ends, the machine does -/
theorem mr_one_mono {M : Nat} {i : Instr} {len pc pc' : Nat} {lv st lv' st' : List Value} {h h' : mr_h} (ho : mr_one M i len pc lv st h = some (pc', lv', st', h')) : h.2.1 ≤ h'.2.1 ∧ h.2.2.1 ≤ h'.2.2.1 := by
  cases i with
  | iconst n =>
    simp only [mr_one] at ho
    split at ho
    · rename_i e0
      subst e0
      cases ho
      exact ⟨Nat.le_refl _, Nat.le_refl _⟩
    · cases ho
  | bipush n =>
    simp only [mr_one] at ho
    split at ho
    · rename_i e0
      subst e0
      cases ho
      exact ⟨Nat.le_refl _, Nat.le_refl _⟩
    · cases ho
  | sipush n =>
    simp only [mr_one] at ho
    split at ho
    · rename_i e0
      subst e0
      cases ho
      exact ⟨Nat.le_refl _, Nat.le_refl _⟩
    · cases ho
  | lconst n =>
    simp only [mr_one] at ho
    split at ho
    · rename_i e0
      subst e0
      cases ho
      exact ⟨Nat.le_refl _, Nat.le_refl _⟩
    · cases ho
  | ldc_w x =>
    simp only [mr_one] at ho
    split at ho
    · rename_i e0
      subst e0
      obtain ⟨v, h1, h2⟩ := Option.map_eq_some_iff.mp ho
      cases h2
      exact ⟨Nat.le_refl _, Nat.le_refl _⟩
    · cases ho
  | ldc2_w x =>
    simp only [mr_one] at ho
    split at ho
    · rename_i e0
      subst e0
      obtain ⟨v, h1, h2⟩ := Option.map_eq_some_iff.mp ho
      cases h2
      exact ⟨Nat.le_refl _, Nat.le_refl _⟩
    · cases ho
  | iload_n k =>
    obtain ⟨x, e1, e2, hz⟩ := mr_ldi_inv (show _ = _ from ho)
    subst e1
    cases hz
    exact ⟨Nat.le_refl _, Nat.le_refl _⟩
  | iload k =>
    obtain ⟨x, e1, e2, hz⟩ := mr_ldi_inv (show _ = _ from ho)
    subst e1
    cases hz
    exact ⟨Nat.le_refl _, Nat.le_refl _⟩
  | lload_n k =>
    obtain ⟨x, e1, e2, hz⟩ := mr_ldl_inv (show _ = _ from ho)
    subst e1
    cases hz
    exact ⟨Nat.le_refl _, Nat.le_refl _⟩
  | lload k =>
    obtain ⟨x, e1, e2, hz⟩ := mr_ldl_inv (show _ = _ from ho)
    subst e1
    cases hz
    exact ⟨Nat.le_refl _, Nat.le_refl _⟩
  | aload_n k =>
    obtain ⟨x, e1, e2, hz, hn, hv⟩ := mr_lda_inv (show _ = _ from ho)
    subst e1
    cases hz
    exact ⟨Nat.le_refl _, Nat.le_refl _⟩
  | istore_n k =>
    obtain ⟨x, r, lw, e1, e2, e3, hz⟩ := mr_sti_inv (show _ = _ from ho)
    subst e1
    subst e2
    cases hz
    exact ⟨Nat.le_refl _, Nat.le_refl _⟩
  | istore k =>
    obtain ⟨x, r, lw, e1, e2, e3, hz⟩ := mr_sti_inv (show _ = _ from ho)
    subst e1
    subst e2
    cases hz
    exact ⟨Nat.le_refl _, Nat.le_refl _⟩
  | lstore_n k =>
    obtain ⟨x, r, lw, e1, e2, e3, hz⟩ := mr_stl_inv (show _ = _ from ho)
    subst e1
    subst e2
    cases hz
    exact ⟨Nat.le_refl _, Nat.le_refl _⟩
  | lstore k =>
    obtain ⟨x, r, lw, e1, e2, e3, hz⟩ := mr_stl_inv (show _ = _ from ho)
    subst e1
    subst e2
    cases hz
    exact ⟨Nat.le_refl _, Nat.le_refl _⟩
  | astore_n k =>
    obtain ⟨x, r, lw, e1, e2, e3, hz⟩ := mr_sta_inv (show _ = _ from ho)
    subst e1
    subst e2
    cases hz
    exact ⟨Nat.le_refl _, Nat.le_refl _⟩
  | iinc k n =>
    simp only [mr_one] at ho
    split at ho
    · rename_i e0
      subst e0
      split at ho
      · rename_i x e2
        obtain ⟨lw, h1, h2⟩ := Option.map_eq_some_iff.mp ho
        cases h2
        exact ⟨Nat.le_refl _, Nat.le_refl _⟩
      · cases ho
    · cases ho
  | iadd =>
    obtain ⟨x, y, r, e1, e2, hz⟩ := mr_b2_inv (show mr_b2 _ _ _ _ _ _ = _ from ho)
    subst e1
    subst e2
    cases hz
    exact ⟨Nat.le_refl _, Nat.le_refl _⟩
  | isub =>
    obtain ⟨x, y, r, e1, e2, hz⟩ := mr_b2_inv (show mr_b2 _ _ _ _ _ _ = _ from ho)
    subst e1
    subst e2
    cases hz
    exact ⟨Nat.le_refl _, Nat.le_refl _⟩
  | imul =>
    obtain ⟨x, y, r, e1, e2, hz⟩ := mr_b2_inv (show mr_b2 _ _ _ _ _ _ = _ from ho)
    subst e1
    subst e2
    cases hz
    exact ⟨Nat.le_refl _, Nat.le_refl _⟩
  | iand =>
    obtain ⟨x, y, r, e1, e2, hz⟩ := mr_b2_inv (show mr_b2 _ _ _ _ _ _ = _ from ho)
    subst e1
    subst e2
    cases hz
    exact ⟨Nat.le_refl _, Nat.le_refl _⟩
  | ior =>
    obtain ⟨x, y, r, e1, e2, hz⟩ := mr_b2_inv (show mr_b2 _ _ _ _ _ _ = _ from ho)
    subst e1
    subst e2
    cases hz
    exact ⟨Nat.le_refl _, Nat.le_refl _⟩
  | ixor =>
    obtain ⟨x, y, r, e1, e2, hz⟩ := mr_b2_inv (show mr_b2 _ _ _ _ _ _ = _ from ho)
    subst e1
    subst e2
    cases hz
    exact ⟨Nat.le_refl _, Nat.le_refl _⟩
  | ishl =>
    obtain ⟨x, y, r, e1, e2, hz⟩ := mr_b2_inv (show mr_b2 _ _ _ _ _ _ = _ from ho)
    subst e1
    subst e2
    cases hz
    exact ⟨Nat.le_refl _, Nat.le_refl _⟩
  | ishr =>
    obtain ⟨x, y, r, e1, e2, hz⟩ := mr_b2_inv (show mr_b2 _ _ _ _ _ _ = _ from ho)
    subst e1
    subst e2
    cases hz
    exact ⟨Nat.le_refl _, Nat.le_refl _⟩
  | iushr =>
    obtain ⟨x, y, r, e1, e2, hz⟩ := mr_b2_inv (show mr_b2 _ _ _ _ _ _ = _ from ho)
    subst e1
    subst e2
    cases hz
    exact ⟨Nat.le_refl _, Nat.le_refl _⟩
  | ladd =>
    obtain ⟨x, y, r, e1, e2, hz⟩ := mr_l2_inv (show mr_l2 _ _ _ _ _ _ = _ from ho)
    subst e1
    subst e2
    cases hz
    exact ⟨Nat.le_refl _, Nat.le_refl _⟩
  | lmul =>
    obtain ⟨x, y, r, e1, e2, hz⟩ := mr_l2_inv (show mr_l2 _ _ _ _ _ _ = _ from ho)
    subst e1
    subst e2
    cases hz
    exact ⟨Nat.le_refl _, Nat.le_refl _⟩
  | idiv =>
    simp only [mr_one] at ho
    split at ho
    · split at ho
      · cases ho
      · rename_i hne
        obtain ⟨x, y, r, e1, e2, hz⟩ := mr_b2_inv ho
        subst e1
        cases e2
        cases hz
        exact ⟨Nat.le_refl _, Nat.le_refl _⟩
    · cases ho
  | irem =>
    simp only [mr_one] at ho
    split at ho
    · split at ho
      · cases ho
      · rename_i hne
        obtain ⟨x, y, r, e1, e2, hz⟩ := mr_b2_inv ho
        subst e1
        cases e2
        cases hz
        exact ⟨Nat.le_refl _, Nat.le_refl _⟩
    · cases ho
  | ldiv =>
    simp only [mr_one] at ho
    split at ho
    · split at ho
      · cases ho
      · rename_i hne
        obtain ⟨x, y, r, e1, e2, hz⟩ := mr_l2_inv ho
        subst e1
        cases e2
        cases hz
        exact ⟨Nat.le_refl _, Nat.le_refl _⟩
    · cases ho
  | lrem =>
    simp only [mr_one] at ho
    split at ho
    · split at ho
      · cases ho
      · rename_i hne
        obtain ⟨x, y, r, e1, e2, hz⟩ := mr_l2_inv ho
        subst e1
        cases e2
        cases hz
        exact ⟨Nat.le_refl _, Nat.le_refl _⟩
    · cases ho
  | lcmp =>
    simp only [mr_one] at ho
    split at ho
    · rename_i e0
      subst e0
      split at ho
      · cases ho; exact ⟨Nat.le_refl _, Nat.le_refl _⟩
      · cases ho
    · cases ho
  | i2l =>
    simp only [mr_one] at ho
    split at ho
    · rename_i e0
      subst e0
      split at ho
      · cases ho; exact ⟨Nat.le_refl _, Nat.le_refl _⟩
      · cases ho
    · cases ho
  | l2i =>
    simp only [mr_one] at ho
    split at ho
    · rename_i e0
      subst e0
      split at ho
      · cases ho; exact ⟨Nat.le_refl _, Nat.le_refl _⟩
      · cases ho
    · cases ho
  | dup =>
    simp only [mr_one] at ho
    split at ho
    · rename_i e0
      subst e0
      split at ho
      · split at ho
        · rename_i hc; cases ho; exact ⟨Nat.le_refl _, Nat.le_refl _⟩
        · cases ho
      · cases ho
    · cases ho
  | pop =>
    simp only [mr_one] at ho
    split at ho
    · rename_i e0
      subst e0
      split at ho
      · split at ho
        · rename_i hc; cases ho; exact ⟨Nat.le_refl _, Nat.le_refl _⟩
        · cases ho
      · cases ho
    · cases ho
  | dup2 =>
    simp only [mr_one] at ho
    split at ho
    · rename_i e0
      subst e0
      split at ho
      · split at ho
        · rename_i hc; cases ho; exact ⟨Nat.le_refl _, Nat.le_refl _⟩
        · cases ho
      · cases ho
    · cases ho
  | goto off =>
    simp only [mr_one] at ho
    split at ho
    · rename_i e0
      subst e0
      obtain ⟨t, ht, hz⟩ := mr_jmp_inv ho
      cases hz
      exact ⟨Nat.le_refl _, Nat.le_refl _⟩
    · cases ho
  | ifCond cnd off =>
    simp only [mr_one] at ho
    split at ho
    · rename_i e0
      obtain ⟨e1, e2⟩ := e0
      subst e1
      split at ho
      · rcases mr_ite_inv ho with ⟨hc, h2⟩ | ⟨hc, h2⟩
        · obtain ⟨t, ht, hz⟩ := mr_jmp_inv h2
          cases hz
          exact ⟨Nat.le_refl _, Nat.le_refl _⟩
        · cases h2
          exact ⟨Nat.le_refl _, Nat.le_refl _⟩
      · cases ho
    · cases ho
  | if_icmp cnd off =>
    simp only [mr_one] at ho
    split at ho
    · rename_i e0
      obtain ⟨e1, e2⟩ := e0
      subst e1
      split at ho
      · rcases mr_ite_inv ho with ⟨hc, h2⟩ | ⟨hc, h2⟩
        · obtain ⟨t, ht, hz⟩ := mr_jmp_inv h2
          cases hz
          exact ⟨Nat.le_refl _, Nat.le_refl _⟩
        · cases h2
          exact ⟨Nat.le_refl _, Nat.le_refl _⟩
      · cases ho
    · cases ho
  | tableswitch d lo hi offs =>
    simp only [mr_one] at ho
    split at ho
    · split at ho
      · rename_i hc
        obtain ⟨t, ht, hz⟩ := mr_jmp_inv ho
        cases hz
        exact ⟨Nat.le_refl _, Nat.le_refl _⟩
      · rename_i hc
        split at ho
        · rename_i o eo
          obtain ⟨t, ht, hz⟩ := mr_jmp_inv ho
          cases hz
          exact ⟨Nat.le_refl _, Nat.le_refl _⟩
        · cases ho
    · cases ho
  | lookupswitch d ps =>
    simp only [mr_one] at ho
    split at ho
    · split at ho
      · rename_i hc
        obtain ⟨t, ht, hz⟩ := mr_jmp_inv ho
        cases hz
        exact ⟨Nat.le_refl _, Nat.le_refl _⟩
      · cases ho
    · cases ho
  | getfield x =>
    simp only [mr_one, mr_get] at ho
    split at ho
    · rename_i e0
      subst e0
      split at ho
      · split at ho
        · rename_i ha hg
          split at ho
          · rename_i ec
            subst ec
            obtain ⟨v, h1, h2⟩ := Option.map_eq_some_iff.mp ho
            cases h2
            exact ⟨Nat.le_refl _, Nat.le_refl _⟩
          · cases ho
        · cases ho
      · cases ho
    · cases ho
  | putfield x =>
    simp only [mr_one, mr_put] at ho
    split at ho
    · rename_i e0
      subst e0
      split at ho
      · split at ho
        · rename_i ha hg
          split at ho
          · rename_i ec
            obtain ⟨ec, h1, h2, h3⟩ := ec
            subst ec
            cases ho
            exact ⟨Nat.le_refl _, Nat.le_refl _⟩
          · cases ho
        · cases ho
      · cases ho
    · cases ho
  | iaload =>
    simp only [mr_one, mr_ald] at ho
    split at ho
    · rename_i e0
      subst e0
      split at ho
      · split at ho
        · rename_i ha
          split at ho
          · cases ho
          · rename_i hc
            cases ho
            exact ⟨Nat.le_refl _, Nat.le_refl _⟩
        · cases ho
      · split at ho
        · cases ho
        · rename_i hc
          cases ho
          exact ⟨Nat.le_refl _, Nat.le_refl _⟩
      · cases ho
    · cases ho
  | iastore =>
    simp only [mr_one, mr_ast] at ho
    split at ho
    · rename_i e0
      subst e0
      split at ho
      · split at ho
        · rename_i ha
          split at ho
          · cases ho
          · rename_i hc
            cases ho
            exact ⟨Nat.le_refl _, Nat.le_refl _⟩
        · cases ho
      · cases ho
    · cases ho
  | laload =>
    simp only [mr_one, mr_lld] at ho
    split at ho
    · rename_i e0
      subst e0
      split at ho
      · split at ho
        · rename_i ha
          split at ho
          · cases ho
          · rename_i hc
            cases ho
            exact ⟨Nat.le_refl _, Nat.le_refl _⟩
        · cases ho
      · cases ho
    · cases ho
  | lastore =>
    simp only [mr_one, mr_lst] at ho
    split at ho
    · rename_i e0
      subst e0
      split at ho
      · split at ho
        · rename_i ha
          split at ho
          · cases ho
          · rename_i hc
            cases ho
            exact ⟨Nat.le_refl _, Nat.le_refl _⟩
        · cases ho
      · cases ho
    · cases ho
  | baload =>
    simp only [mr_one, mr_zld] at ho
    split at ho
    · rename_i e0
      subst e0
      split at ho
      · split at ho
        · rename_i ha
          split at ho
          · cases ho
          · rename_i hc
            cases ho
            exact ⟨Nat.le_refl _, Nat.le_refl _⟩
        · cases ho
      · cases ho
    · cases ho
  | bastore =>
    simp only [mr_one, mr_zst] at ho
    split at ho
    · rename_i e0
      subst e0
      split at ho
      · split at ho
        · rename_i ha
          split at ho
          · cases ho
          · rename_i hc
            cases ho
            exact ⟨Nat.le_refl _, Nat.le_refl _⟩
        · cases ho
      · cases ho
    · cases ho
  | aaload =>
    simp only [mr_one, mr_qld] at ho
    split at ho
    · rename_i e0
      subst e0
      split at ho
      · split at ho
        · rename_i ha
          split at ho
          · cases ho
          · rename_i hc
            obtain ⟨k, h1, h2⟩ := Option.map_eq_some_iff.mp ho
            cases h2
            exact ⟨Nat.le_refl _, Nat.le_refl _⟩
        · cases ho
      · cases ho
    · cases ho
  | aastore =>
    simp only [mr_one, mr_qst] at ho
    split at ho
    · rename_i e0
      subst e0
      split at ho
      · split at ho
        · rename_i ha hv
          split at ho
          · cases ho
          · rename_i hc
            cases ho
            exact ⟨Nat.le_refl _, Nat.le_refl _⟩
        · cases ho
      · cases ho
    · cases ho
  | arraylength =>
    simp only [mr_one] at ho
    split at ho
    · rename_i e0
      subst e0
      split at ho
      · cases ho; exact ⟨Nat.le_refl _, Nat.le_refl _⟩
      · cases ho
    · cases ho
  | new x =>
    simp only [mr_one, mr_new] at ho
    split at ho
    · rename_i e0
      subst e0
      obtain ⟨ci, h1, h2⟩ := Option.map_eq_some_iff.mp ho
      cases h2
      exact ⟨Nat.le_succ _, Nat.le_add_right _ _⟩
    · cases ho
  | newarray t =>
    simp only [mr_one, mr_nar] at ho
    split at ho
    · rename_i e0
      subst e0
      split at ho
      · rename_i n r
        split at ho
        · cases ho
        · rename_i hc
          split at ho
          · cases ho
            exact ⟨Nat.le_succ _, Nat.le_add_right _ _⟩
          · cases ho
            exact ⟨Nat.le_succ _, Nat.le_add_right _ _⟩
          · cases ho
            exact ⟨Nat.le_succ _, Nat.le_add_right _ _⟩
          · cases ho
      · cases ho
    · cases ho
  | anewarray x =>
    simp only [mr_one, mr_naq] at ho
    split at ho
    · rename_i e0
      subst e0
      split at ho
      · rename_i n r
        split at ho
        · cases ho
        · rename_i hc
          split at ho
          · rename_i h1
            cases ho
            exact ⟨Nat.le_succ _, Nat.le_add_right _ _⟩
          · cases ho
      · cases ho
    · cases ho
  | invokestatic x =>
    simp only [mr_one, mr_sta3] at ho
    split at ho
    · rename_i e0
      subst e0
      split at ho
      · rename_i ht
        split at ho
        · rename_i ha0 ha1
          split at ho
          · rename_i hc
            obtain ⟨c0, c1, c2, c3, c4, c5, c6⟩ := hc
            cases ho
            exact ⟨Nat.le_refl _, Nat.le_refl _⟩
          · cases ho
        · cases ho
      · rename_i ht
        split at ho
        · rename_i hc
          cases ho
          exact ⟨Nat.le_refl _, Nat.le_refl _⟩
        · cases ho
      · rename_i ht
        split at ho
        · rename_i hc
          cases ho
          exact ⟨Nat.le_refl _, Nat.le_refl _⟩
        · cases ho
      · cases ho
    · cases ho
  | invokespecial x =>
    simp only [mr_one, mr_spe] at ho
    split at ho
    · rename_i e0
      subst e0
      split at ho
      · rename_i ht
        split at ho
        · rename_i hc
          cases ho
          exact ⟨Nat.le_refl _, Nat.le_refl _⟩
        · cases ho
      · cases ho
    · cases ho
  | _ => simp [mr_one] at ho

theorem mr_ex_mono : ∀ (n M pc : Nat) (lv st : List Value) (h : mr_h) (r : Option Value) (h' : mr_h), mr_ex n M pc lv st h = some (r, h') → h.2.1 ≤ h'.2.1 ∧ h.2.2.1 ≤ h'.2.2.1 := by
  intro n
  induction n with
  | zero => intro M pc lv st h r h' he; simp [mr_ex] at he
  | succ n ih =>
    intro M pc lv st h r h' he
    unfold mr_ex at he
    split at he
    · cases he
    · split at he
      · rename_i ho
        have h1 := mr_one_mono ho
        have h2 := ih _ _ _ _ _ _ _ he
        exact ⟨Nat.le_trans h1.1 h2.1, Nat.le_trans h1.2 h2.2⟩
      · split at he
        · split at he
          · split at he
            · rename_i hc
              have h1 := ih _ _ _ _ _ _ _ hc
              have h2 := ih _ _ _ _ _ _ _ he
              exact ⟨Nat.le_trans h1.1 h2.1, Nat.le_trans h1.2 h2.2⟩
            · cases he
          · cases he
        · split at he
          · cases he
            exact ⟨Nat.le_refl _, Nat.le_refl _⟩
          · cases he

theorem mr_M_ok {t : Nat} {r : mr_R} (hr : mr_M[t]? = some r) (ht : t < 181) (h14 : r.1 ≠ 14) :
    (Cond.code (mr_y r) (mr_bytes r) (mr_maxL r) (mr_ret r)) ∈ mr_tt ∧ (Cond.initialized (mr_y r).cls) ∈ mr_tt ∧ (mr_kd r = 0 → (Cond.static (mr_y r)) ∈ mr_tt) ∧ (mr_kd r ≠ 0 → (Cond.instanceMethod (mr_y r)) ∈ mr_tt) ∧
    (mr_kd r = 1 → (Cond.selects (mr_y r).cls (mr_y r) (mr_y r)) ∈ mr_tt) ∧ (mr_kd r = 2 → (mr_y r).name = "<init>" ∧ mr_ret r = none) ∧
    ((mr_y r).cls ≠ "java/lang/invoke/MethodHandle" ∧ (mr_y r).cls ≠ "java/lang/invoke/VarHandle" ∧ (parseMethodDescriptor (mr_y r).desc).map (fun d => d.parameters.length) = some (mr_na r)) ∧
    Jvm.plainName (mr_y r).cls = true ∧ mr_maxL r ≤ 17 := by
  have h1 : (mr_M.take 181)[t]? = some r := by rw [List.getElem?_take_of_lt ht]; exact hr
  obtain ⟨pp, h2⟩ : ∃ pp, mr_pM[t]? = some pp := by
    have : t < mr_pM.length := by rw [mr_pM_len]; exact ht
    exact ⟨_, List.getElem?_eq_getElem this⟩
  have h3 : ((mr_M.take 181).zip mr_pM)[t]? = some (r, pp) := List.getElem?_zip_eq_some.mpr ⟨h1, h2⟩
  have h4 := List.all_eq_true.mp mr_okM_all _ (List.mem_of_getElem? h3)
  simp only [mr_okM, Bool.and_eq_true, decide_eq_true_eq] at h4
  obtain ⟨⟨⟨⟨⟨⟨⟨⟨⟨⟨⟨g1, g2⟩, g3⟩, g4⟩, g5⟩, g6⟩, g7⟩, g8⟩, g9⟩, g10⟩, g11⟩, g12⟩ := h4
  refine ⟨?_, mr_tt_in (List.mem_of_getElem? g3) rfl, fun z => ?_, fun z => ?_, fun z => ?_, fun z => ?_, ⟨g7, g8, g9⟩, ?_, g11⟩
  · cases hc : lw_tbl[r.2.2.2.1]? with
    | none => rw [hc] at g1; cases g1
    | some w =>
      rw [hc] at g1
      cases w with
      | code y bb L rr =>
        simp only [Bool.and_eq_true, decide_eq_true_eq] at g1
        obtain ⟨⟨e1, e2⟩, e3⟩ := g1
        have e4 : mr_bytes r = bb := by
          unfold mr_bytes
          rw [if_neg g2, hc]
        rw [e4, ← e1, ← e2, ← e3]
        exact mr_tt_in (List.mem_of_getElem? hc) rfl
      | _ => cases g1
  · rw [if_pos z] at g4
    exact mr_tt_in (List.mem_of_getElem? (of_decide_eq_true g4)) rfl
  · rw [if_neg z] at g4
    exact mr_tt_in (List.mem_of_getElem? (of_decide_eq_true g4)) rfl
  · rw [if_pos z] at g5
    exact mr_tt_in (List.mem_of_getElem? (of_decide_eq_true g5)) rfl
  · rw [if_pos z] at g6
    simpa using g6
  · simpa [h14] using g10
end
section
/-! calls, and the theorem of the mirror: where it ends with r, so does the machine -/
def mr_ra (q : mr_R) (pc : Nat) (r : Option Value) : Prop :=
  (∃ v : Int32, decode (mr_bytes q) pc = .ok (.ireturn, 1) ∧ r = some (.int v) ∧ (mr_ret q = some .int ∨ (mr_ret q = some .boolean ∧ v &&& 1 = v))) ∨
  (∃ v : Int64, decode (mr_bytes q) pc = .ok (.lreturn, 1) ∧ r = some (.long v) ∧ mr_ret q = some .long) ∨ (decode (mr_bytes q) pc = .ok (.return_, 1) ∧ r = none ∧ mr_ret q = none)
theorem mr_rt_ok {M len pc : Nat} {i : Instr} {st : List Value} {r : Option Value} {q : mr_R} (hq : mr_M[M]? = some q) (hd : decode (mr_bytes q) pc = .ok (i, len)) (h : mr_rt M i len st = some r) : st = r.toList ∧ mr_ra q pc r ∧ ∀ b base, r.toList.map (mr_v b base) = r.toList := by
  have ht : mr_rty M = mr_ret q := by simp [mr_rty, hq]
  unfold mr_rt at h
  split at h
  · rename_i e
    subst e
    split at h
    · split at h
      · rename_i hc
        cases h
        rw [ht] at hc
        exact ⟨rfl, Or.inl ⟨_, hd, rfl, hc⟩, fun _ _ => rfl⟩
      · cases h
    · split at h
      · rename_i hc
        cases h
        rw [ht] at hc
        exact ⟨rfl, Or.inr (Or.inl ⟨_, hd, rfl, hc⟩), fun _ _ => rfl⟩
      · cases h
    · split at h
      · rename_i hc
        cases h
        rw [ht] at hc
        exact ⟨rfl, Or.inr (Or.inr ⟨hd, rfl, hc⟩), fun _ _ => rfl⟩
      · cases h
    · cases h
  · cases h
theorem mr_ft_ok {M pc : Nat} {z : Instr × Nat} {q : mr_R} (hq : mr_M[M]? = some q) (h : mr_ft M pc = some z) : decode (mr_bytes q) pc = .ok z := by
  unfold mr_ft at h
  rw [hq] at h
  dsimp only at h
  split at h
  · rename_i r hr
    cases h
    exact hr
  · cases h
theorem mr_ft_some {M pc : Nat} {z : Instr × Nat} (h : mr_ft M pc = some z) : ∃ q, mr_M[M]? = some q := by
  unfold mr_ft at h
  split at h
  · cases h
  · rename_i q hq
    exact ⟨q, hq⟩
theorem mr_ex_val : ∀ (n M pc : Nat) (lv st : List Value) (h : mr_h) (r : Option Value) (h' : mr_h), mr_ex n M pc lv st h = some (r, h') → ∀ b base, r.toList.map (mr_v b base) = r.toList := by
  intro n
  induction n with
  | zero => intro M pc lv st h r h' he; simp [mr_ex] at he
  | succ n ih =>
    intro M pc lv st h r h' he
    unfold mr_ex at he
    split at he
    · cases he
    · rename_i hf
      split at he
      · exact ih _ _ _ _ _ _ _ he
      · split at he
        · split at he
          · split at he
            · exact ih _ _ _ _ _ _ _ he
            · cases he
          · cases he
        · split at he
          · rename_i hr
            cases he
            obtain ⟨q, hq⟩ := mr_ft_some hf
            exact (mr_rt_ok hq (mr_ft_ok hq hf) hr).2.2
          · cases he
theorem mr_tk_ok : ∀ (n : Nat) (st acc as r : List Value), mr_tk n st acc = some (as, r) → ∃ pre : List Value, st = pre ++ r ∧ as = pre.reverse ++ acc ∧ pre.length = n := by
  intro n
  induction n with
  | zero => intro st acc as r h; simp only [mr_tk] at h; cases h; exact ⟨[], rfl, rfl, rfl⟩
  | succ n ih =>
    intro st acc as r h
    cases st with
    | nil => simp [mr_tk] at h
    | cons v st =>
      simp only [mr_tk] at h
      obtain ⟨pre, h1, h2, h3⟩ := ih _ _ _ _ h
      exact ⟨v :: pre, by rw [h1]; rfl, by rw [h2]; simp, by simp [h3]⟩
theorem mr_lk_ok {M x kd t n : Nat} {q : mr_R} (hq : mr_M[M]? = some q) (h : mr_lk M x kd = some (t, n)) : ∃ r, mr_M[t]? = some r ∧ mr_tl M x = some t ∧ mr_hg r < mr_hg q ∧ mr_kd r = kd ∧ t < 181 ∧ r.1 ≠ 14 ∧ n = mr_na r ∧ mr_yOf t = mr_y r := by
  unfold mr_lk at h
  split at h
  · rename_i t' q' h1 h2
    cases hq.symm.trans h2
    split at h
    · rename_i r hr
      split at h
      · rename_i hc
        cases h
        refine ⟨r, hr, h1, hc.1, hc.2.1, hc.2.2.1, hc.2.2.2, rfl, ?_⟩
        have := hc.2.2.1
        unfold mr_yOf
        rw [if_neg (by omega), if_neg (by omega), if_neg (by omega), if_neg (by omega), hr]
      · cases h
    · cases h
  · cases h
def mr_Pc (D : va_G) (b base : Nat) (cs : mr_q) (as : List Value) (h : mr_h) : Array Value → State → Prop := fun v U => v = (as.map (mr_v b base)).toArray ∧ mr_w D b base cs U h U.heap ∧ mr_K D cs U
def mr_Qc (D : va_G) (b base : Nat) (cs : mr_q) (r : Option Value) (h' : mr_h) : Array Value → State → Outcome → State → Prop := fun _ _ oc t => oc = .returned r ∧ mr_w D b base cs t h' t.heap
def mr_ws (q : mr_R) : List Cond := .code (mr_y q) (mr_bytes q) (mr_maxL q) (mr_ret q) :: mr_tt
theorem mr_Pc_blind {D : va_G} {b base : Nat} {cs : mr_q} {as : List Value} {h : mr_h} : FrameBlind (mr_Pc D b base cs as h) := fun a U g mk hp =>
  ⟨hp.1, mr_w.moved (s := U) (U := U.calling g mk a) (Vm.Alike.refl U.vm) hp.2.1, mr_K.same (s := U) (U := U.calling g mk a) rfl hp.2.2⟩
theorem mr_good {q : mr_R} (h : (Cond.code (mr_y q) (mr_bytes q) (mr_maxL q) (mr_ret q)) ∈ mr_tt) : GoodIn mr_tt (mr_ws q) := by
  intro w hw
  rcases List.mem_cons.mp hw with z | z
  · subst z; exact ⟨h, mr_tt_good h⟩
  · exact ⟨z, mr_tt_good z⟩
/-- soundness for runs of at most n steps -/
def mr_S (l : Launch) (n : Nat) : Prop := ∀ (M pc : Nat) (lv st : List Value) (h : mr_h) (r : Option Value) (h' : mr_h), mr_ex n M pc lv st h = some (r, h') →
  ∀ (p : Program) (e : Env) (R : Room) (s : State) (m : MethodId) (args : Array Value) (below : List Frame) (meth : Method) (c : Code) (H : Heap) (locs : List Loc) (cells slots : Nat) (Q : State → Prop) (ls : Array Slot) (D : va_G) (b base : Nat) (cs : mr_q) (q : mr_R),
    mr_x p R s m args meth c D cs q → mr_M[M]? = some q → mr_w D b base cs s h H → mr_lv b base lv ls c.maxLocals → (∀ z ∈ locs, base ≤ z.base) → cells + (h'.2.1 - h.2.1) ≤ R.cells → slots + (h'.2.2.1 - h.2.2.1) ≤ R.slots →
    (∀ (H1 : Heap) (locs1 : List Loc) (ls1 : Array Slot) (pc1 : Nat), mr_w D b base cs s h' H1 → (∀ z ∈ locs1, base ≤ z.base) → mr_ra q pc1 r → W p l e R s m args below meth c H1 locs1 (cells + (h'.2.1 - h.2.1)) (slots + (h'.2.2.1 - h.2.2.1)) Q (F0 m pc1 ls1 r.toList)) →
    W p l e R s m args below meth c H locs cells slots Q (F0 m pc ls (st.map (mr_v b base)))
theorem mr_met {l : Launch} {n : Nat} (ih : mr_S l n) {t : Nat} {q : mr_R} {as : List Value} {h h' : mr_h} {r : Option Value} (hq : mr_M[t]? = some q) (ht : t < 181) (h14 : q.1 ≠ 14) (hn : (mr_sl as).length ≤ mr_maxL q) (he : mr_ex n t 0 (mr_ent as (mr_maxL q)) [] h = some (r, h')) (D : va_G) (b base : Nat) (cs : mr_q) :
    Met l (mr_y q) (mr_ws q) { frames := mr_hg q, cells := h'.2.1 - h.2.1, slots := h'.2.2.1 - h.2.2.1, locals := 36 * mr_hg q } (mr_Pc D b base cs as h) (mr_Qc D b base cs r h') (h'.2.1 - h.2.1) (h'.2.2.1 - h.2.2.1) (fun z => base ≤ z) := by
  obtain ⟨m1, m2, m3, m4, m5, m6, m7, m8, m9⟩ := mr_M_ok hq ht h14
  refine Met.ofW (cc := mr_bytes q) (maxL := mr_maxL q) (ret := mr_ret q) m8 rfl ?_
  intro p e s m args below meth c s₁ B hml hv
  obtain ⟨hv1, hw, hK⟩ := hv
  subst hv1
  have hts := atoms_spec (ws := mr_ws q) B.pre
  rw [lg_entry_eq]
  refine ih t 0 (mr_ent as (mr_maxL q)) [] h r h' he p e _ s m _ below meth c s.heap [] 0 0 _ _ D b base cs q ⟨B.exec, B.bytes, hml, findClass_of_methodNamed B.named, fun w hw => hts w (List.mem_cons_of_mem _ hw), hK, Nat.le_refl _, Nat.le_refl _, fun z => (name_of_methodNamed B.named B.method).1.trans (m6 z).1⟩ hq hw (by rw [hml]; exact mr_ent_lv hn) (fun z hz => by cases hz) (by show 0 + _ ≤ h'.2.1 - h.2.1; omega) (by show 0 + _ ≤ h'.2.2.1 - h.2.2.1; omega) ?_
  intro H1 locs1 ls1 pc1 hw1 hloc1 hra
  refine W.cs (cells' := h'.2.1 - h.2.1) (slots' := h'.2.2.1 - h.2.2.1) (by omega) (by omega) ?_
  have hQ : ∀ t : State, t.heap = H1 → s.WarmedH t.vm → mr_Qc D b base cs r h' ((as.map (mr_v b base)).toArray) s (.returned r) t := fun t ht hW => ⟨rfl, by rw [ht]; exact hw1.moved hW.alike⟩
  have hlocks := B.notSynchronized
  rcases hra with ⟨v, d1, rfl, d3⟩ | ⟨v, d1, rfl, d3⟩ | ⟨d1, rfl, d3⟩
  · rcases d3 with d3 | ⟨d3, d4⟩
    · exact W.iret B.exec B.bytes (by rw [B.returns]; exact d3) hQ hloc1 d1 hlocks
    · exact W.zret B.exec B.bytes (by rw [B.returns]; exact d3) (by show Value.int (v &&& 1) = .int v; rw [d4]) hQ hloc1 d1 hlocks
  · exact W.lret B.exec B.bytes (by rw [B.returns]; exact d3) hQ hloc1 d1 hlocks
  · exact W.vret B.exec B.bytes (by rw [B.returns]; exact d3) hQ hloc1 d1 hlocks
section MRC
variable {p : Program} {l : Launch} {e : Env} {R : Room} {s : State} {m : MethodId} {args : Array Value} {below : List Frame} {meth : Method} {c : Code} {H : Heap} {locs : List Loc} {cells slots : Nat} {Q : State → Prop}
variable {pc : Nat} {ls : Array Slot} {D : va_G} {b base : Nat} {cs : mr_q} {h h' : mr_h} {q : mr_R} {M : Nat}
theorem mr_go {mc ms : Nat} {st0 rest : List Value} {r : Option Value} {A : Array Value} (hr : va_Run p l e R s m args below meth c H locs cells slots mc ms (F0 m pc ls st0) rest (mr_Qc D b base cs r h' A) (fun z => base ≤ z)) (hloc : ∀ z ∈ locs, base ≤ z.base)
    (kk : ∀ (H1 : Heap) (locs1 : List Loc), mr_w D b base cs s h' H1 → (∀ z ∈ locs1, base ≤ z.base) → W p l e R s m args below meth c H1 locs1 (cells + mc) (slots + ms) Q (F0 m (pc + 3) ls (r.toList ++ rest))) : W p l e R s m args below meth c H locs cells slots Q (F0 m pc ls st0) := by
  intro T hT X
  obtain ⟨v, st₀, t, T', L, h0, X', hL, e1, e2, ⟨hv, hw1⟩, st⟩ := hr T hT X
  cases hv
  have hw2 : mr_w D b base cs s h' T'.heap := by
    rw [e1]
    exact hw1.moved (by rw [← e2]; exact X'.warmed.alike.symm)
  obtain ⟨t2, a1, b1⟩ := kk T'.heap (locs ++ L) hw2 (fun z hz => (List.mem_append.mp hz).elim (hloc z) (hL z)) T' rfl X'
  exact ⟨t2, st t2 a1, b1⟩
theorem mr_cal_snd {n : Nat} (ih : mr_S l n) (hX : mr_x p R s m args meth c D cs q) (hq : mr_M[M]? = some q) {i : Instr} {len : Nat} (hd : decode (mr_bytes q) pc = .ok (i, len)) {st as rs : List Value} {t : Nat} {r : Option Value} (hc : mr_cal M i len st h = some (t, as, rs)) (hn : (mr_sl as).length ≤ mr_mxl t) (he : mr_ex n t 0 (mr_ent as (mr_mxl t)) [] h = some (r, h'))
    (hw : mr_w D b base cs s h H) (hls : ls.size = c.maxLocals) (hloc : ∀ z ∈ locs, base ≤ z.base) (hcs : cells + (h'.2.1 - h.2.1) ≤ R.cells) (hss : slots + (h'.2.2.1 - h.2.2.1) ≤ R.slots)
    (kk : ∀ (H1 : Heap) (locs1 : List Loc), mr_w D b base cs s h' H1 → (∀ z ∈ locs1, base ≤ z.base) → W p l e R s m args below meth c H1 locs1 (cells + (h'.2.1 - h.2.1)) (slots + (h'.2.2.1 - h.2.2.1)) Q (F0 m (pc + 3) ls ((r.toList ++ rs).map (mr_v b base)))) : W p l e R s m args below meth c H locs cells slots Q (F0 m pc ls (st.map (mr_v b base))) := by
  obtain ⟨hx, hb, hml, hown, hts, hK, hfr, hlo, -⟩ := id hX
  have hval := mr_ex_val _ _ _ _ _ _ _ _ he b base
  have hkk : ∀ (H1 : Heap) (locs1 : List Loc), mr_w D b base cs s h' H1 → (∀ z ∈ locs1, base ≤ z.base) → W p l e R s m args below meth c H1 locs1 (cells + (h'.2.1 - h.2.1)) (slots + (h'.2.2.1 - h.2.2.1)) Q (F0 m (pc + 3) ls (r.toList ++ rs.map (mr_v b base))) := by
    intro H1 locs1 a1 a2
    have := kk H1 locs1 a1 a2
    rw [List.map_append, hval] at this
    exact this
  unfold mr_cal at hc
  split at hc
  · rename_i e0
    subst e0
    split at hc
    · rename_i x
      unfold mr_cs at hc
      split at hc
      · rename_i t' n' hk
        split at hc
        · rename_i as' r' htk
          split at hc
          · rename_i hrl
            cases hc
            obtain ⟨row, k1, k2, k3, k4, k5, k6, k7, k8⟩ := mr_lk_ok hq hk
            obtain ⟨m1, m2, m3, m4, m5, m6, m7, m8, m9⟩ := mr_M_ok k1 k5 k6
            obtain ⟨pre, p1, p2, p3⟩ := mr_tk_ok _ _ _ _ _ htk
            have emx : mr_mxl t = mr_maxL row := by simp [mr_mxl, k1]
            rw [emx] at hn he
            have hM := mr_met ih k1 k5 k6 hn he D b base cs
            have hR : mr_hg row + 1 ≤ R.frames ∧ 8 + (mr_maxL row + 11) + 36 * mr_hg row ≤ R.locals := ⟨by omega, by omega⟩
            have hpre : PreS s H (mr_Pc D b base cs as h) (as.map (mr_v b base)) := ⟨mr_Pc_blind, fun U hU hW => ⟨rfl, by rw [hU]; exact hw.moved hW.alike, hK.warm hW⟩⟩
            have hstk : st.map (mr_v b base) = (as.map (mr_v b base)).reverse ++ rs.map (mr_v b base) := by rw [p1, p2]; simp
            have hlen : (as.map (mr_v b base)).length = mr_na row := by rw [List.length_map, p2]; simp [p3, k7]
            have hsum := mr_stk_sum (b := b) (base := base) hrl
            rcases mr_tl_ok hq k2 hK with z | z
            · rw [k8] at z
              exact mr_go (va_runS ⟨hx, hb, hml, hown, hts⟩ hM ⟨callB_of (mr_na row) hts (mr_good m1) rfl rfl rfl (hts _ m2) (hts _ z) m7 hR, hts _ (m3 k4)⟩ hpre rfl hlen (hls.trans hml) hstk (lv_room (by omega)) hd ⟨hcs, hss⟩) hloc hkk
            · rw [k8] at z
              exact mr_go (va_runSN (host := "ReachLabels") ⟨hx, hb, hml, hown, hts⟩ hM ⟨va_cnB (mr_na row) hts (mr_good m1) rfl rfl rfl z (hts _ m2) m7 hR, hts _ (m3 k4), trivial⟩ hpre rfl hlen (hls.trans hml) hstk (lv_room (by omega)) hd ⟨hcs, hss⟩) hloc hkk
          · cases hc
        · cases hc
      · cases hc
    · rename_i x
      unfold mr_ci at hc
      split at hc
      · rename_i t' n' hk
        split at hc
        · rename_i as' b' r' htk
          split at hc
          · rename_i hrl
            cases hc
            obtain ⟨row, k1, k2, k3, k4, k5, k6, k7, k8⟩ := mr_lk_ok hq hk
            obtain ⟨m1, m2, m3, m4, m5, m6, m7, m8, m9⟩ := mr_M_ok k1 k5 k6
            obtain ⟨pre, p1, p2, p3⟩ := mr_tk_ok _ _ _ _ _ htk
            have emx : mr_mxl t = mr_maxL row := by simp [mr_mxl, k1]
            rw [emx] at hn he
            have hM := mr_met ih k1 k5 k6 hn he D b base cs
            have hR : mr_hg row + 1 ≤ R.frames ∧ 8 + (mr_maxL row + 11) + 36 * mr_hg row ≤ R.locals := ⟨by omega, by omega⟩
            have hpre : PreS s H (mr_Pc D b base cs (.ref b' :: as') h) (.ref (base + b') :: as'.map (mr_v b base)) := ⟨mr_Pc_blind, fun U hU hW => ⟨rfl, by rw [hU]; exact hw.moved hW.alike, hK.warm hW⟩⟩
            have hstk : st.map (mr_v b base) = (as'.map (mr_v b base)).reverse ++ .ref (base + b') :: rs.map (mr_v b base) := by rw [p1, p2]; simp [mr_v]
            have hlen : (as'.map (mr_v b base)).length = mr_na row := by rw [List.length_map, p2]; simp [p3, k7]
            have hsum := mr_stk_sum (b := b) (base := base) hrl
            have hw0 : mr_ws row = Cond.code (mr_y row) (mr_bytes row) (mr_maxL row) none :: mr_tt := by unfold mr_ws; rw [(m6 k4).2]
            rcases mr_tl_ok hq k2 hK with z | z
            · rw [k8] at z
              exact mr_go (va_runI ⟨hx, hb, hml, hown, hts⟩ hM (cwI (mr_na row) hts (mr_good m1) hw0 rfl rfl (hts _ m2) (hts _ z) (hts _ (m4 (by omega))) (m6 k4).1 m7 hR) hpre rfl hlen (hls.trans hml) hstk (lv_room (by omega)) hd ⟨hcs, hss⟩) hloc hkk
            · rw [k8] at z
              exact mr_go (va_runIN (host := "ReachLabels") ⟨hx, hb, hml, hown, hts⟩ hM ⟨va_cnB (mr_na row) hts (mr_good m1) hw0 rfl rfl z (hts _ m2) m7 hR, (m6 k4).1, hts _ (m4 (by omega))⟩ hpre rfl hlen (hls.trans hml) hstk (lv_room (by omega)) hd ⟨hcs, hss⟩) hloc hkk
          · cases hc
        · cases hc
      · cases hc
    · rename_i x
      unfold mr_cv at hc
      split at hc
      · rename_i t' n' hk
        split at hc
        · rename_i as' b' r' htk
          split at hc
          · rename_i ci fs hcell
            split at hc
            · rename_i hrl
              cases hc
              obtain ⟨hrl, hci⟩ := hrl
              obtain ⟨row, k1, k2, k3, k4, k5, k6, k7, k8⟩ := mr_lk_ok hq hk
              obtain ⟨m1, m2, m3, m4, m5, m6, m7, m8, m9⟩ := mr_M_ok k1 k5 k6
              obtain ⟨pre, p1, p2, p3⟩ := mr_tk_ok _ _ _ _ _ htk
              have emx : mr_mxl t = mr_maxL row := by simp [mr_mxl, k1]
              rw [emx] at hn he
              have hM := mr_met ih k1 k5 k6 hn he D b base cs
              have hR : mr_hg row + 1 ≤ R.frames ∧ 8 + (mr_maxL row + 11) + 36 * mr_hg row ≤ R.locals := ⟨by omega, by omega⟩
              have hcr : ci = row.1 := by rw [hci]; simp [mr_own, k1]
              have h15 : row.1 < 15 := by
                have : row ∈ mr_M := List.mem_of_getElem? k1
                have h15 : mr_M.all (fun z => decide (z.1 < 15)) = true := by decide +kernel
                simpa using List.all_eq_true.mp h15 row this
              have hne : (.inl (ci, fs) : mr_c) ≠ .inl (99, []) := fun z => by injection z with z; injection z with z; omega
              have hrec : ∃ cellB : Cell, H[base + b']? = some cellB ∧ cellB.vm.isStatics = false ∧ s.vm.findClass (mr_y row).cls = some cellB.cls := by
                obtain ⟨rr, g1, cell, g2, g3, g4, g5⟩ := hw.at hcell hne
                have g6 := (hK.1.1 ci rr g1).2
                have hlt : ci < 12 := by
                  have : ci < mr_cl.length := (List.getElem?_eq_some_iff.mp g1).1
                  simpa [mr_cl] using this
                have g7 : rr = (mr_name ci, mr_T ci, mr_N ci) := Option.some.inj (g1.symm.trans (mr_cl_at hlt))
                subst g7
                refine ⟨cell, g2, by rw [g4]; rfl, ?_⟩
                rw [g3]
                have := g6.1
                rw [hcr] at this ⊢
                exact this
              have hpre : PreV s H (mr_y row).cls (base + b') (mr_Pc D b base cs (.ref b' :: as') h) (as'.map (mr_v b base)) := ⟨mr_Pc_blind, hrec, fun U hU hW => ⟨rfl, by rw [hU]; exact hw.moved hW.alike, hK.warm hW⟩⟩
              have hstk : st.map (mr_v b base) = (as'.map (mr_v b base)).reverse ++ .ref (base + b') :: rs.map (mr_v b base) := by rw [p1, p2]; simp [mr_v]
              have hlen : (as'.map (mr_v b base)).length = mr_na row := by rw [List.length_map, p2]; simp [p3, k7]
              have hsum := mr_stk_sum (b := b) (base := base) hrl
              rcases mr_tl_ok hq k2 hK with z | z
              · rw [k8] at z
                exact mr_go (va_runV (C := (mr_y row).cls) ⟨hx, hb, hml, hown, hts⟩ hM ⟨callB_of (mr_na row) hts (mr_good m1) rfl rfl rfl (hts _ m2) (hts _ z) m7 hR, hts _ (m4 (by omega)), hts _ (m5 k4)⟩ hpre rfl hlen (hls.trans hml) hstk (lv_room (by omega)) hd ⟨hcs, hss⟩) hloc hkk
              · rw [k8] at z
                exact mr_go (va_runVN (C := (mr_y row).cls) (host := "ReachLabels") ⟨hx, hb, hml, hown, hts⟩ hM ⟨va_cnB (mr_na row) hts (mr_good m1) rfl rfl rfl z (hts _ m2) m7 hR, hts _ (m4 (by omega)), hts _ (m5 k4)⟩ hpre rfl hlen (hls.trans hml) hstk (lv_room (by omega)) hd ⟨hcs, hss⟩) hloc hkk
            · cases hc
          · cases hc
        · cases hc
      · cases hc
    · cases hc
  · cases hc
end MRC
theorem mr_snd (l : Launch) : ∀ n, mr_S l n := by
  intro n
  induction n with
  | zero => intro M pc lv st h r h' he; simp [mr_ex] at he
  | succ n ih =>
    intro M pc lv st h r h' he p e R s m args below meth c H locs cells slots Q ls D b base cs q hX hq hw hl hloc hcs hss kk
    unfold mr_ex at he
    split at he
    · cases he
    · rename_i i len hf
      have hd := mr_ft_ok hq hf
      split at he
      · rename_i pc1 lv1 st1 h1 ho
        have g1 := mr_one_mono ho
        have g2 := mr_ex_mono _ _ _ _ _ _ _ _ he
        refine mr_one_snd hX hq hd ho hw hl hloc (by omega) (by omega) (by omega) (by omega) ?_
        intro H1 locs1 ls1 w1 w2 w3
        refine ih _ _ _ _ _ _ _ he p e R s m args below meth c H1 locs1 _ _ Q ls1 D b base cs q hX hq w1 w2 w3 (by omega) (by omega) ?_
        intro H2 locs2 ls2 pc2 v1 v2 v3
        exact W.cs (by omega) (by omega) (kk H2 locs2 ls2 pc2 v1 v2 v3)
      · split at he
        · rename_i t as rs hc
          split at he
          · rename_i hn
            split at he
            · rename_i v h1 hcx
              have g1 := mr_ex_mono _ _ _ _ _ _ _ _ hcx
              have g2 := mr_ex_mono _ _ _ _ _ _ _ _ he
              refine mr_cal_snd ih hX hq hd hc hn hcx hw hl.2.1 hloc (by omega) (by omega) ?_
              intro H1 locs1 w1 w3
              refine ih _ _ _ _ _ _ _ he p e R s m args below meth c H1 locs1 _ _ Q ls D b base cs q hX hq w1 hl w3 (by omega) (by omega) ?_
              intro H2 locs2 ls2 pc2 v1 v2 v3
              exact W.cs (by omega) (by omega) (kk H2 locs2 ls2 pc2 v1 v2 v3)
            · cases he
          · cases he
        · split at he
          · rename_i v hr
            cases he
            obtain ⟨e1, e2, e3⟩ := mr_rt_ok hq hd hr
            rw [e1, e3]
            exact W.cs (by omega) (by omega) (kk H locs ls pc hw hloc e2)
          · cases he
end
section
theorem mr_law (L : Nat) (xs : Nat → Int32) (hL : L ≤ 2560) : ∃ n h', mr_ex n 181 0 [.retAddr 0, .null, .null, .null] [] (fun _ => .inl (99, []), 0, 0, L, xs) = some (some (.int 1), h') ∧ h'.2.1 ≤ 600000 ∧ h'.2.2.1 ≤ 7302250 := sorry
end
section
/-! THE CLAIM OUT OF ONE WALK OF THE LAW'S BODY. Your part is whole_start (and what it stands on); all else here is the same for every law, but numbers. -/
def R_law : String := "ReachLabelsLaw"
def lw_P (b : Addr) (xs : List Int32) (args : Array Value) (s : State) : Prop := args = #[.ref b] ∧ s.IntsAt b xs ∧ xs.length ≤ 2560 ∧ (Jvm.Cond.and given_1 narrow_1).before args s = true
def lw_Q (_ : Array Value) (s : State) (o : Outcome) (t : State) : Prop := o = .returned (some (.int 1)) ∧ Framed s o t [] 600000 7302250
def lw_Z (below : List Frame) (a : Array Value) (s : State) : State → Prop := fun t => ∃ o, t.status = .running ∧ Ended t below o ∧ lw_Q a s o t
/-- the law's own end, with 1 on the stack, nothing written that was there before, its room as the claim has it -/
theorem lw_ret {p : Program} {l : Launch} {e : Env} {s : State} {m : MethodId} {below : List Frame} {meth : Method} {c : Code} {b : Nat} (hx : p.tables.exec = Jvm.exec) (hb : c.code = code) (hr : meth.sig.returnType = ret) (hlocks : meth.locks = false) {pc : Nat} {H : Heap} {ls : Array Slot} (hdg : decode code pc = .ok (.ireturn, 1)) : W p l e room_1 s m #[Value.ref b] below meth c H [] 600000 7302250 (lw_Z below #[Value.ref b] s) (F0 m pc ls [.int 1]) := by
  intro T hT X
  obtain ⟨fs, hret, hrun, hended, hW, hframe⟩ := X.leave (v := some (.int 1)) (hlocks := hlocks) (fun h => by rw [hr] at h; cases h)
  have hmeth' : T.vm.method? m = some meth := X.method'
  refine ⟨T.setFrames fs, ?_, .returned (some (.int 1)), hrun, hended, rfl, ⟨_, rfl⟩, hW, hframe⟩
  jvm_step X.here [X.here.top, hx, hb, hdg, hmeth', hr, ret, narrow_b1]
  (try refine ⟨rfl, ?_⟩); (try refine ⟨rfl, ?_⟩)
  first | (intro acts; rw [hret _ acts rfl rfl rfl]) | rw [hret _ _ rfl rfl rfl]
  exact Steps.refl _
/-- what holds at the law's entry: the machine, the code, the tables' words (any of lw_tbl by 'hts w (by decide +kernel)'), the script of L ints xs at the cell b, what the Statement gives of the start (any of its parts by flat_of_before) -/
def lw_At (p : Program) (s : State) (m : MethodId) (meth : Method) (c : Code) (b L : Nat) (xs : Nat → Int32) : Prop :=
  p.tables.exec = Jvm.exec ∧ c.code = code ∧ meth.sig.returnType = ret ∧ c.maxLocals = 4 ∧ s.vm.findClass R_law = some m.cls ∧ (∀ w ∈ lw_tbl, w.before #[Value.ref b] s = true) ∧ va_X b L xs s s.heap ∧ b < s.heap.size ∧ meth.locks = false ∧ (Jvm.Cond.and given_1 narrow_1).before #[Value.ref b] s = true
theorem mr_cL_all : ∀ n, n < 12 → ∃ e ∈ mr_cL, e.2.1 = n := by decide +kernel
theorem mr_inst {n : Nat} (h : n < 12) : (Cond.instantiable (mr_name n) (mr_N n)) ∈ mr_tt := by
  obtain ⟨e, he, h1⟩ := mr_cL_all n h
  have h5 := List.all_eq_true.mp mr_okC_all e he
  simp only [mr_okC, Bool.and_eq_true, decide_eq_true_eq] at h5
  rw [← h1]
  exact mr_tt_in (List.mem_of_getElem? h5.1.1.2) rfl
theorem mr_arr {s : State} {args : Array Value} {ty : FieldType} (hp : ∀ n, ty ≠ .object n) (h : (Cond.arrayClass ty).before args s = true) : ∃ cA, ArrOfT s cA ty ∧ va_RA s cA ty := by
  obtain ⟨cA, kA, comp, h1, h2, h3⟩ := Cond.arrayClass_spec h
  refine ⟨cA, fun n z => ⟨fun k h => (by cases h), kA, h2, comp, h3⟩, ?_⟩
  cases ty with
  | object n => exact absurd rfl (hp n)
  | _ => exact h1
def mr_rowL : mr_R := (12, "law", "([I)Z", 5000, 4, some .boolean, 1, 8, 0)
theorem mr_row181 : mr_M[181]? = some mr_rowL := rfl
theorem mr_rowL_bytes : mr_bytes mr_rowL = code := rfl
set_option maxHeartbeats 4000000 in
theorem whole_start {p : Program} {e : Env} {s : State} {m : MethodId} {below : List Frame} {meth : Method} {c : Code} (l : Launch) (hflags : l.flags = flags0) {b L : Nat} {xs : Nat → Int32} (hL : L ≤ 2560) (C0 : lw_At p s m meth c b L xs) : W p l e room_1 s m #[Value.ref b] below meth c s.heap [] 0 0 (lw_Z below #[Value.ref b] s) (entryFrame m ([Value.ref b] : List Value).toArray 4) := by
  obtain ⟨hx, hb, hr, hml, hown, hts0, hX, hbl, hlocks, hgv⟩ := id C0
  have hts : ∀ w ∈ mr_tt, w.before #[Value.ref b] s = true := fun w hw => hts0 w (List.mem_filter.mp hw).1
  obtain ⟨n, h', hex, hc1, hc2⟩ := mr_law L xs hL
  have hkn : ∀ n, ∃ (cC : ClassId) (iS : Nat → Nat), n < 12 → u_Kn s (mr_name n) (mr_T n) (mr_N n) cC iS := by
    intro n
    by_cases hn : n < 12
    · obtain ⟨cC, iS, h1⟩ := u_known hts (mr_Y hn).1 (hts _ (mr_inst hn))
      exact ⟨cC, iS, fun _ => h1⟩
    · exact ⟨0, fun _ => 0, fun z => absurd z hn⟩
  obtain ⟨cI, hI1, hI2⟩ := mr_arr (fun n z => by cases z) (hts _ (mr_tt_in mr_w_aI rfl))
  obtain ⟨cJ, hJ1, hJ2⟩ := mr_arr (fun n z => by cases z) (hts _ (mr_tt_in mr_w_aJ rfl))
  obtain ⟨cZ, hZ1, hZ2⟩ := mr_arr (fun n z => by cases z) (hts _ (mr_tt_in mr_w_aZ rfl))
  have hao : va_AO "ReachLabels$Net" s := va_AO.of (hts0 _ mr_w_aO)
  obtain ⟨comp, cN, kN, a1, a2, a3, a4, a5⟩ := Cond.arrayOver_spec hao
  have hK : mr_K (fun k => Classical.choose (hkn k), fun k => Classical.choose (Classical.choose_spec (hkn k))) (cI, cJ, cZ, cN) s := by
    refine ⟨⟨fun k q hk => ?_, fun k q hk => ?_⟩, fun e he hn => ?_, hao⟩
    · have hlt : k < 12 := by
        have : k < mr_cl.length := (List.getElem?_eq_some_iff.mp hk).1
        simpa [mr_cl] using this
      cases (mr_cl_at hlt).symm.trans hk
      exact Classical.choose_spec (Classical.choose_spec (hkn k)) hlt
    · match k, hk with
      | 0, hk => cases hk; exact ⟨hI1, hI2⟩
      | 1, hk => cases hk; exact ⟨hJ1, hJ2⟩
      | 2, hk => cases hk; exact ⟨hZ1, hZ2⟩
      | 3, hk => cases hk; exact ⟨fun n z => ⟨fun k h => (by cases h), kN, a3, comp, a4⟩, ⟨kN, comp, a3, a4, a1, a5⟩⟩
      | k + 4, hk => simp [mr_tys] at hk
    · have h5 := List.all_eq_true.mp mr_okL_all e he
      unfold mr_okL at h5
      rw [if_neg hn] at h5
      exact va_Nw.of rfl (hts0 _ (List.mem_of_getElem? (of_decide_eq_true h5)))
  have hq := mr_row181
  rw [lg_entry_eq]
  have hS := mr_snd l n 181 0 _ _ _ _ _ hex p e room_1 s m #[Value.ref b] below meth c s.heap [] 0 0 (lw_Z below #[Value.ref b] s) ((lg_sl ([Value.ref b]) ++ List.replicate (4 - (lg_sl ([Value.ref b])).length) Slot.unset).toArray) _ b s.heap.size (cI, cJ, cZ, cN) mr_rowL ⟨hx, by rw [mr_rowL_bytes]; exact hb, hml, hown, hts, hK, by decide, by decide, fun z => by cases z⟩ hq
    ⟨rfl, (fun k hk => absurd hk (Nat.not_lt_zero k)), (fun _ _ => rfl), hX, hbl⟩ (by rw [hml]; exact mr_ent_lv (b := b) (base := s.heap.size) (as := [.retAddr 0]) (nL := 4) (by decide)) (fun z hz => by cases hz) (by show 0 + (h'.2.1 - 0) ≤ 600000; omega) (by show 0 + (h'.2.2.1 - 0) ≤ 7302250; omega)
  refine hS ?_
  intro H1 locs1 ls1 pc1 hw1 hloc1 hra
  refine va_forget hloc1 ?_
  refine W.widen (k := 600000) (n := 7302250) (by show 0 + (h'.2.1 - 0) ≤ 600000; omega) (by show 0 + (h'.2.2.1 - 0) ≤ 7302250; omega) ?_
  rcases hra with ⟨v, d1, d2, d3⟩ | ⟨v, d1, d2, d3⟩ | ⟨d1, d2, d3⟩
  · cases d2
    exact lw_ret hx hb hr hlocks (by rw [← mr_rowL_bytes]; exact d1)
  · cases d2
  · cases d2
set_option maxHeartbeats 4000000 in
theorem lw_walk (l : Launch) (hflags : l.flags = flags0) (b : Addr) (xs : List Int32) : MetFree l x (headSpec (Jvm.Cond.code x code maxLocals ret :: tables_1) room_1) (lw_P b xs) (fun _ _ _ _ _ => True) lw_Q := by
  refine MetFree.of_bodyS (code := code) (maxLocals := maxLocals) (ret := ret) (by decide) ?_ ?_
  · intro args s m h hn
    obtain ⟨meth, c, h1, h2, h3, h4, h5, h6, -, -⟩ := Cond.code_spec hn (atoms_spec (ws := Jvm.Cond.code x code maxLocals ret :: tables_1) h _ List.mem_cons_self)
    exact ⟨meth, c, h1, h2, h3, h4, h5, h6⟩
  · intro p e s m args below meth c s₁ B hml0 hP _
    obtain ⟨rfl, hx, hbd, hgv⟩ := hP
    obtain ⟨scr, harrAt, hlist, hof, hsmall⟩ := hx
    obtain ⟨hcb, hkn, -, -⟩ := State.arrayAt?_spec harrAt
    have hown : s.vm.findClass R_law = some m.cls := findClass_of_methodNamed B.named
    have hts0 : ∀ c ∈ (Jvm.Cond.code x code maxLocals ret :: tables_1), c.before #[Value.ref b] s = true := atoms_spec (ws := Jvm.Cond.code x code maxLocals ret :: tables_1) B.pre
    have hts : ∀ w ∈ lw_tbl, w.before #[Value.ref b] s = true := k2_hts_sels lw_privs (fun w hw => hts0 w (List.mem_cons_of_mem _ hw)) lw_privs_ok
    have hml : c.maxLocals = 4 := B.maxLocals_eq (hts0 _ List.mem_cons_self)
    have X₀ : Stand p l e room_1 s m #[Value.ref b] below meth c s₁ [] 0 0 := Stand.of_body B
    have hh0 : s₁.heap = s.heap := by rw [B.state]; rfl
    have hsz : scr.slots.size = xs.length := by rw [← Array.length_toList, hlist, List.length_map]
    have hval : ∀ j : Nat, j < xs.length → scr.slots[j]? = some (.int (xs.getD j 0)) := fun j hj => by
      rw [← Array.getElem?_toList, hlist]
      simp [hj]
    have hbl : b < s.heap.size := (Array.getElem?_eq_some_iff.mp hcb).1
    have hX : va_X b xs.length (fun j => xs.getD j 0) s s.heap := ⟨scr, hcb, hof, hkn, hsz, hval⟩
    have K : W p l e room_1 s m #[Value.ref b] below meth c s₁.heap [] 0 0 (lw_Z below #[Value.ref b] s) (entryFrame m ([Value.ref b] : List Value).toArray 4) := by
      rw [hh0]
      exact whole_start l hflags hbd ⟨B.exec, B.bytes, B.returns, hml, hown, hts, hX, hbl, B.notSynchronized, hgv⟩
    obtain ⟨t, a1, o, b1, b2, b3⟩ := K s₁ rfl X₀
    exact ⟨t, o, a1, b1, b2, b3⟩
theorem lw_pre_spec {args : Array Value} {s : State} (h : (Jvm.Cond.and given_1 narrow_1).before args s = true) (hr : rest_1_c.before args s = true) : ∃ (b : Addr) (xs : List Int32), lw_P b xs args s := by
  have hs := flat_of_before _ h
  have hq := flat_of_before _ hr
  have hc : (Cond.count 1).before args s = true := hs _ (by decide +kernel)
  have harr : (Cond.arrayOf (.arg 0) .int).before args s = true := hs _ (by decide +kernel)
  have hle : (Cond.le (.length (.arg 0)) (.int 2560)).before args s = true := hs _ (by decide +kernel)
  have hlen : (Cond.isInt (.length (.arg 0))).before args s = true := hq _ (by decide +kernel)
  have hall : (Cond.all (.arg 0) (.isInt (.elem (.arg 0) (.index 0)))).before args s = true := hq _ (by decide +kernel)
  obtain ⟨b, xs, hb, hx⟩ := State.ints_of_pre rfl harr hlen hall
  have hsm : xs.length < 2 ^ 31 := hx.choose_spec.2.2.2
  have hev : (Term.length (.arg 0)).eval args s none [] s = some (.int xs.length.toInt32) := hx.length_eval hb
  have hv := Cond.le_ints hev (show (Term.int 2560).eval args s none [] s = some (.int 2560) from rfl)
  have hd : xs.length.toInt32 ≤ 2560 := by
    simpa [Cond.before, Cond.holds, hv] using hle
  have hN : xs.length ≤ 2560 := (Int32.ofNat_le_ofNat hsm (by decide)).mp (show Int32.ofNat xs.length ≤ Int32.ofNat 2560 from hd)
  exact ⟨b, xs, Cond.one_arg hc (show args[0]? = some (.ref b) from hb), hx, hN, h⟩
theorem lw_comes (l : Launch) (hflags : l.flags = flags0) : Comes l x (Jvm.Cond.code x code maxLocals ret :: tables_1) room_1 (fun tb e args s => Calls_1 tb e args s ∧ rest_1 tb e args s ∧ Pre_1 tb e args s)
    (fun _ _ args s o t => lw_Q args s o t) := by
  intro p e ha hc hk s m args below hf hfit hheap happ hpre
  obtain ⟨b, xs, hP⟩ := lw_pre_spec hpre.2.2 hpre.2.1
  obtain ⟨k, o, h1, h2, h3, hQ⟩ := lw_walk l hflags b xs p e ha hc hk s m args below hf ((Spec.applies_iff_loose hf).mp happ).1 hP trivial
  exact ⟨k, o, h1, h2, h3, hQ⟩
theorem lw_frame {s t : State} {o : Outcome} {args : Array Value} (h : Framed s o t [] 600000 7302250) :
    Framed s o t (fieldLocs frame_1_writes args s ++ arrayLocs frame_1_arrays args s ++ staticLocs frame_1_statics s) 600000 7302250 := h
theorem lw_limb (L : Cond) (hL : ∀ (args : Array Value) (s t : State), L.after args s (.returned (some (.int 1))) t = true) :
    ArmFor flags0 classFile x code maxLocals ret World_1 tables_1 room_1 Calls_1 rest_1 Pre_1
      (fun tb e a s o t => postC L tb e a s o t ∧ Framed s o t (fieldLocs frame_1_writes a s ++ arrayLocs frame_1_arrays a s ++ staticLocs frame_1_statics s) 600000 7302250) := by
  intro l hflags _ _ p e ha hc hk s m args below hf hfit hheap happ hpre
  obtain ⟨k, o, h1, h2, h3, rfl, hF⟩ := lw_comes l hflags p e ha hc hk s m args below hf hfit hheap happ hpre
  exact ⟨k, _, h1, h2, h3, hL args s _, lw_frame hF⟩
theorem i_vc : Claimed_1_1 ∧ Claimed_1_2 := ⟨lw_limb limb_1_1 (fun args s t => by simp [limb_1_1, Cond.after, Cond.holds, Cond.value]), lw_limb limb_1_2 (fun args s t => Cond.after_iff.mpr (by
  first | (rw [show limb_1_2 = Cond.eq .result (.int 1) from rfl, Cond.eq_ints (x := 1) (y := 1) rfl rfl]; simp; done) | (simp [limb_1_2, Cond.value, Term.eval]; done)))⟩
end
